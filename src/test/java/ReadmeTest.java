import java.io.IOException;
import java.lang.reflect.Method;
import java.lang.reflect.Modifier;
import java.net.URL;
import java.net.URLClassLoader;
import java.nio.file.Files;
import java.nio.file.Path;
import java.util.ArrayList;
import java.util.List;
import java.util.regex.Matcher;
import java.util.regex.Pattern;
import java.util.stream.Stream;
import javax.tools.JavaCompiler;
import javax.tools.ToolProvider;

/** Holds README.md to the class: its Java is compiled and run, and what it names is all there is. */
public final class ReadmeTest {
    private static final Pattern BLOCK = Pattern.compile("(?s)```java\n(.*?)```");
    private static final Pattern LINE = Pattern.compile("(.+\\)); +// (-?\\d+)\\b.*");
    private static final Pattern KIND = Pattern.compile("\\| (\\d) [A-Z]+ \\| (\\d+) \\.\\. (\\d+) \\|.*");
    private static final int LEAST_ANSWERS = 30;
    private static final Due DUE = new Due();

    public static void main(String[] args) throws Exception {
        String page = Files.readString(Path.of("README.md"));
        answersAsWritten(page);
        namesEveryCall(page);
        namesEveryTest(page);
        tellsTheKinds(page);
        DUE.end();
    }

    /** Each block without a method of its own becomes a method that answers what its lines do. */
    private static void answersAsWritten(String page) throws Exception {
        StringBuilder code = new StringBuilder("public final class ReadmeLines {\n");
        List<List<Matcher>> linesOfBlocks = new ArrayList<>();
        Matcher block = BLOCK.matcher(page);
        while (block.find()) {
            if (block.group(1).startsWith("static ")) {
                code.append(block.group(1));
            } else {
                linesOfBlocks.add(addBlock(code, block.group(1), linesOfBlocks.size()));
            }
        }
        Class<?> compiled = compile(code.append("}\n").toString());
        int answers = 0;
        for (int b = 0; b < linesOfBlocks.size(); b++) {
            List<Matcher> lines = linesOfBlocks.get(b);
            long[] got = (long[]) compiled.getMethod("block" + b).invoke(null);
            for (int i = 0; i < got.length; i++) {
                DUE.is("README.md: " + lines.get(i).group(1), got[i], Long.parseLong(lines.get(i).group(2)));
            }
            answers += got.length;
        }
        DUE.is("README.md shows some answers: " + answers, answers >= LEAST_ANSWERS ? 1 : 0, 1);
    }

    private static List<Matcher> addBlock(StringBuilder code, String text, int number) {
        List<Matcher> lines = new ArrayList<>();
        StringBuilder body = new StringBuilder();
        for (String written : text.lines().toList()) {
            Matcher line = LINE.matcher(written);
            if (line.matches()) {
                body.append("got[").append(lines.size()).append("] = ").append(line.group(1)).append(";\n");
                lines.add(line);
            } else {
                body.append(written).append('\n');
            }
        }
        code.append("public static long[] block").append(number).append("() {\nlong[] got = new long[")
            .append(lines.size()).append("];\n").append(body).append("return got;\n}\n");
        return lines;
    }

    private static Class<?> compile(String code) throws Exception {
        Path directory = Files.createDirectories(Path.of("build", "readme"));
        Path file = directory.resolve("ReadmeLines.java");
        Files.writeString(file, code);
        JavaCompiler compiler = ToolProvider.getSystemJavaCompiler();
        int exit = compiler.run(null, null, null, "-cp", System.getProperty("java.class.path"), "-d", directory.toString(), file.toString());
        DUE.is("javac of README.md's Java", exit, 0);
        return Class.forName("ReadmeLines", true, new URLClassLoader(new URL[] {directory.toUri().toURL()}));
    }

    private static void namesEveryCall(String page) {
        for (Method method : WhichWord.class.getDeclaredMethods()) {
            if (Modifier.isPublic(method.getModifiers())) {
                DUE.is("README.md names " + method.getName(), page.contains('`' + method.getName() + '`') ? 1 : 0, 1);
            }
        }
    }

    private static void namesEveryTest(String page) throws IOException {
        try (Stream<Path> files = Files.list(Path.of("src/test/java"))) {
            for (Path file : files.toList()) {
                String name = file.getFileName().toString().replace(".java", "");
                if (name.endsWith("Test") && !name.startsWith("Promise")) {
                    DUE.is("README.md names " + name, page.contains('`' + name + '`') ? 1 : 0, 1);
                }
            }
        }
    }

    private static void tellsTheKinds(String page) {
        WhichWord x = new WhichWord();
        int meaning = 0;
        for (String line : page.lines().toList()) {
            Matcher row = KIND.matcher(line);
            if (row.matches()) {
                DUE.is("README.md: first of KIND " + row.group(1), Integer.parseInt(row.group(2)), meaning);
                for (; meaning <= Integer.parseInt(row.group(3)); meaning++) {
                    DUE.is("README.md: kind(" + meaning + ")", x.kind(meaning), Integer.parseInt(row.group(1)));
                }
            }
        }
        DUE.is("README.md tells of so many MEANINGS", meaning, 90);
    }
}
