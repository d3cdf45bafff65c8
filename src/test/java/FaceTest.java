import java.lang.reflect.Field;
import java.lang.reflect.Method;
import java.lang.reflect.Modifier;
import java.nio.file.Files;
import java.nio.file.Path;
import java.util.HashSet;
import java.util.Set;
import java.util.TreeSet;
import java.util.regex.Matcher;
import java.util.regex.Pattern;

/** The public face of the document, and those rules of LANGUAGE.md that can be seen without running. */
public final class FaceTest {
    private static final String FACE = """
        int feed(int, long)
        int scene()
        int takeBack()
        int thing(int, int)
        int doing(int, int)
        int say(int, int, boolean)
        int said(int)
        int kind(int)
        int weight(int, int)
        int has(int, int)
        int left(int, int, int)
        int plainest(int, int)
        int judge(int, int)
        int set(int, int)
        long likelihood(int, int)
        long chance(int, int, int)
        int likeliest(int)
        int givings(int)
        int giving(int, int)
        int two(int, int)
        int give(int, int)
        int saying(int, int)
        int orders()
        int next(int)
        int enough(int)
        int help(int, int, int)
        int never()
        int same(int, int)
        int part(int, int)
        int image()
        int restore()
        int count(int)
        """;
    private static final Due DUE = new Due();

    public static void main(String[] args) throws Exception {
        Set<String> names = face();
        nested(names);
        source();
        DUE.end();
    }

    private static String written(Method method) {
        StringBuilder text = new StringBuilder(method.getReturnType().getName());
        text.append(' ').append(method.getName()).append('(');
        for (int i = 0; i < method.getParameterCount(); i++) {
            text.append(i > 0 ? ", " : "").append(method.getParameterTypes()[i].getName());
        }
        return text.append(')').toString();
    }

    private static Set<String> face() throws Exception {
        int type = WhichWord.class.getModifiers();
        DUE.is("public and final", Modifier.isPublic(type) && Modifier.isFinal(type) ? 1 : 0, 1);
        DUE.is("one public constructor", Modifier.isPublic(WhichWord.class.getDeclaredConstructor().getModifiers()) ? 1 : 0, 1);
        DUE.is("and no other", WhichWord.class.getDeclaredConstructors().length, 1);
        Set<String> found = new TreeSet<>();
        Set<String> names = new HashSet<>();
        for (Method method : WhichWord.class.getDeclaredMethods()) {
            if (!Modifier.isPrivate(method.getModifiers())) {
                found.add(written(method));
                names.add(method.getName());
            }
        }
        Set<String> due = new TreeSet<>(FACE.lines().toList());
        DUE.is("the face: " + found, found.equals(due) ? 1 : 0, 1);
        for (Field field : WhichWord.class.getDeclaredFields()) {
            DUE.is("private: " + field, Modifier.isPrivate(field.getModifiers()) ? 1 : 0, 1);
        }
        return names;
    }

    private static void nested(Set<String> publicNames) {
        Class<?>[] nested = WhichWord.class.getDeclaredClasses();
        DUE.is("at most some twelve classes", nested.length <= 11 ? 1 : 0, 1);
        for (Class<?> type : nested) {
            DUE.is("static: " + type, Modifier.isStatic(type.getModifiers()) ? 1 : 0, 1);
            for (Method method : type.getDeclaredMethods()) {
                DUE.is("no public name: " + method, publicNames.contains(method.getName()) ? 1 : 0, 0);
                DUE.is("seven parameters: " + method, method.getParameterCount() <= 7 ? 1 : 0, 1);
            }
            for (Field field : type.getDeclaredFields()) {
                DUE.is("no static state: " + field, Modifier.isStatic(field.getModifiers()) ? 1 : 0, 0);
            }
        }
        for (Method method : WhichWord.class.getDeclaredMethods()) {
            if (Modifier.isPrivate(method.getModifiers())) {
                DUE.is("no public name: " + method, publicNames.contains(method.getName()) ? 1 : 0, 0);
            }
        }
    }

    private static void source() throws Exception {
        String text = Files.readString(Path.of("src/main/java/WhichWord.java"));
        String code = text.replaceAll("(?s)/\\*.*?\\*/", "").replaceAll("//[^\n]*", "");
        String[] none = {"throw", "throws", "try", "catch", "finally", "synchronized", "assert", "native", "Object",
            "System\\.(?!arraycopy)", "\\w+Exact", "->", "::", "instanceof Object", "double", "float", "package"};
        for (String word : none) {
            Pattern pattern = word.matches("\\w+") ? Pattern.compile("\\b" + word + "\\b") : Pattern.compile(word);
            Matcher matcher = pattern.matcher(code);
            DUE.is("none of " + word, matcher.find() ? 1 : 0, 0);
        }
        Matcher imports = Pattern.compile("import ([^;]*);").matcher(code);
        while (imports.find()) {
            DUE.is("import " + imports.group(1), imports.group(1).matches("java\\.util\\.(Arrays|ArrayList|List)") ? 1 : 0, 1);
        }
        for (int i = 0; i < text.length(); i++) {
            if (text.charAt(i) > 126) {
                DUE.is("signs 1 to 127 at " + i, text.charAt(i), 0);
            }
        }
    }
}
