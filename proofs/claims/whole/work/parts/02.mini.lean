/-! A small machine over lists: what an instruction asks, as a proposition. Cells are numbered in the order in which the law makes them (the script and five tables first). -/
abbrev mm_L : Type := List (Option Value)
abbrev mm_M : Type := List va_E
abbrev mm_Q : Type := Option Value → mm_M → Prop
abbrev mm_K : Type := Nat → mm_L → List Value → mm_M → Nat → Nat → Prop
/-- an instruction; where it goes on; two numbers; ints (a constant, a switch's cases); a long -/
abbrev mm_I : Type := Instr × Nat × Nat × Nat × List (Int32 × Nat) × Int64
abbrev mm_C : Type := List (Nat × mm_I)
abbrev mm_S : Type := Nat → List Value → mm_M → mm_Q → Prop
def mm_nth {α : Type} : List α → Nat → Option α
  | [], _ => none
  | x :: _, 0 => some x
  | _ :: t, n + 1 => mm_nth t n
def mm_set {α : Type} : List α → Nat → α → List α
  | [], _, _ => []
  | _ :: t, 0, v => v :: t
  | x :: t, n + 1, v => x :: mm_set t n v
def mm_find : mm_C → Nat → Option mm_I
  | [], _ => none
  | q :: r, pc => match Nat.beq q.1 pc with
    | true => some q.2
    | false => mm_find r pc
def mm_long : Option (Option Value) → Bool
  | some (some (.long _)) => true
  | some (some (.double _)) => true
  | _ => false
def mm_ok (ls : mm_L) : Nat → Bool
  | 0 => true
  | i + 1 => match mm_long (mm_nth ls i) with
    | true => false
    | false => true
def mm_put1 (ls : mm_L) (i : Nat) (v : Value) : Option mm_L := match mm_nth ls i, mm_ok ls i with
  | some _, true => some (mm_set ls i (some v))
  | _, _ => none
def mm_put2 (ls : mm_L) (i : Nat) (v : Value) : Option mm_L := match mm_nth ls (i + 1), mm_ok ls i with
  | some _, true => some (mm_set (mm_set ls i (some v)) (i + 1) none)
  | _, _ => none
def mm_pop : Nat → List Value → List Value → Option (List Value × List Value)
  | 0, acc, st => some (acc, st)
  | n + 1, acc, v :: st => mm_pop n (v :: acc) st
  | _ + 1, _, [] => none
def mm_sum : List Value → Nat
  | [] => 0
  | v :: t => v.category + mm_sum t
/-- instructions that touch locals and stack alone -/
def mm_pure (ins : Instr) (a : Nat) (sw : List (Int32 × Nat)) (lc : Int64) (ls : mm_L) (st : List Value) : Option (mm_L × List Value) :=
  match ins with
  | .iconst _ => match sw with
    | (v, _) :: _ => some (ls, .int v :: st)
    | [] => none
  | .bipush _ => match sw with
    | (v, _) :: _ => some (ls, .int v :: st)
    | [] => none
  | .sipush _ => match sw with
    | (v, _) :: _ => some (ls, .int v :: st)
    | [] => none
  | .ldc_w _ => match sw with
    | (v, _) :: _ => some (ls, .int v :: st)
    | [] => none
  | .ldc _ => match sw with
    | (v, _) :: _ => some (ls, .int v :: st)
    | [] => none
  | .lconst _ => some (ls, .long lc :: st)
  | .ldc2_w _ => some (ls, .long lc :: st)
  | .iload _ => match mm_nth ls a with
    | some (some (.int x)) => some (ls, .int x :: st)
    | _ => none
  | .iload_n _ => match mm_nth ls a with
    | some (some (.int x)) => some (ls, .int x :: st)
    | _ => none
  | .lload _ => match mm_nth ls a with
    | some (some (.long x)) => some (ls, .long x :: st)
    | _ => none
  | .lload_n _ => match mm_nth ls a with
    | some (some (.long x)) => some (ls, .long x :: st)
    | _ => none
  | .aload _ => match mm_nth ls a with
    | some (some (.ref x)) => some (ls, .ref x :: st)
    | _ => none
  | .aload_n _ => match mm_nth ls a with
    | some (some (.ref x)) => some (ls, .ref x :: st)
    | _ => none
  | .istore _ => match st with
    | .int x :: st => match mm_put1 ls a (.int x) with
      | some ls => some (ls, st)
      | none => none
    | _ => none
  | .istore_n _ => match st with
    | .int x :: st => match mm_put1 ls a (.int x) with
      | some ls => some (ls, st)
      | none => none
    | _ => none
  | .astore _ => match st with
    | .ref x :: st => match mm_put1 ls a (.ref x) with
      | some ls => some (ls, st)
      | none => none
    | _ => none
  | .astore_n _ => match st with
    | .ref x :: st => match mm_put1 ls a (.ref x) with
      | some ls => some (ls, st)
      | none => none
    | _ => none
  | .lstore _ => match st with
    | .long x :: st => match mm_put2 ls a (.long x) with
      | some ls => some (ls, st)
      | none => none
    | _ => none
  | .lstore_n _ => match st with
    | .long x :: st => match mm_put2 ls a (.long x) with
      | some ls => some (ls, st)
      | none => none
    | _ => none
  | .iinc _ _ => match mm_nth ls a with
    | some (some (.int x)) => match sw with
      | (v, _) :: _ => match mm_put1 ls a (.int (x + v)) with
        | some ls => some (ls, st)
        | none => none
      | [] => none
    | _ => none
  | .iadd => match st with
    | .int y :: .int x :: st => some (ls, .int (x + y) :: st)
    | _ => none
  | .isub => match st with
    | .int y :: .int x :: st => some (ls, .int (x - y) :: st)
    | _ => none
  | .imul => match st with
    | .int y :: .int x :: st => some (ls, .int (x * y) :: st)
    | _ => none
  | .iand => match st with
    | .int y :: .int x :: st => some (ls, .int (x &&& y) :: st)
    | _ => none
  | .ior => match st with
    | .int y :: .int x :: st => some (ls, .int (x ||| y) :: st)
    | _ => none
  | .ixor => match st with
    | .int y :: .int x :: st => some (ls, .int (x ^^^ y) :: st)
    | _ => none
  | .ineg => match st with
    | .int x :: st => some (ls, .int (-x) :: st)
    | _ => none
  | .ishl => match st with
    | .int y :: .int x :: st => some (ls, .int (x <<< (y &&& 31)) :: st)
    | _ => none
  | .ishr => match st with
    | .int y :: .int x :: st => some (ls, .int (x >>> (y &&& 31)) :: st)
    | _ => none
  | .iushr => match st with
    | .int y :: .int x :: st => some (ls, .int ((x.toUInt32 >>> (y.toUInt32 &&& Int32.toUInt32 31)).toInt32) :: st)
    | _ => none
  | .ladd => match st with
    | .long y :: .long x :: st => some (ls, .long (x + y) :: st)
    | _ => none
  | .lmul => match st with
    | .long y :: .long x :: st => some (ls, .long (x * y) :: st)
    | _ => none
  | .land => match st with
    | .long y :: .long x :: st => some (ls, .long (x &&& y) :: st)
    | _ => none
  | .lor => match st with
    | .long y :: .long x :: st => some (ls, .long (x ||| y) :: st)
    | _ => none
  | .lshl => match st with
    | .int y :: .long x :: st => some (ls, .long (x <<< (y.toInt64 &&& 63)) :: st)
    | _ => none
  | .lshr => match st with
    | .int y :: .long x :: st => some (ls, .long (x >>> (y.toInt64 &&& 63)) :: st)
    | _ => none
  | .lushr => match st with
    | .int y :: .long x :: st => some (ls, .long ((x.toUInt64 >>> (y.toInt64.toUInt64 &&& Int64.toUInt64 63)).toInt64) :: st)
    | _ => none
  | .i2l => match st with
    | .int x :: st => some (ls, .long x.toInt64 :: st)
    | _ => none
  | .l2i => match st with
    | .long x :: st => some (ls, .int x.toInt32 :: st)
    | _ => none
  | .lcmp => match st with
    | .long y :: .long x :: st => some (ls, .int (lg_cmp x y) :: st)
    | _ => none
  | .dup => match st with
    | .int x :: st => some (ls, .int x :: .int x :: st)
    | .ref x :: st => some (ls, .ref x :: .ref x :: st)
    | _ => none
  | .dup2 => match st with
    | .int y :: .ref x :: st => some (ls, .int y :: .ref x :: .int y :: .ref x :: st)
    | _ => none
  | _ => none
/-- a switch: case by case -/
def mm_sw (x : Int32) (d : Prop) (f : Nat → Prop) : List (Int32 × Nat) → Prop
  | [] => d
  | q :: r => (x = q.1 → f q.2) ∧ (¬ x = q.1 → mm_sw x d f r)
def mm_if (c : ClassFile.Cond) (x y : Int32) (t f : Prop) : Prop := match c with
  | .eq => (x = y → t) ∧ (¬ x = y → f)
  | .ne => (¬ x = y → t) ∧ (x = y → f)
  | .lt => (x < y → t) ∧ (¬ x < y → f)
  | .ge => (y ≤ x → t) ∧ (¬ y ≤ x → f)
  | .gt => (y < x → t) ∧ (¬ y < x → f)
  | .le => (x ≤ y → t) ∧ (¬ x ≤ y → f)
def mm_go2 (S : mm_S) (K : mm_K) (nx : Nat) (ls : mm_L) (mem : mm_M) (k n a : Nat) (as rest : List Value) : Prop :=
  ∃ Q1 : mm_Q, S a as mem Q1 ∧ ∀ (r : Option Value) (mem1 : mm_M), Q1 r mem1 → K nx ls (r.toList ++ rest) mem1 k n
def mm_call (S : mm_S) (Al : Nat → Nat × Nat) (B : Nat × Nat) (K : mm_K) (nx : Nat) (ls : mm_L) (mem : mm_M) (k n a : Nat) (p : Option (List Value × List Value)) : Prop :=
  match p with
  | none => False
  | some q => match Nat.ble (mm_sum q.2) 8 with
    | false => False
    | true => match Al a with
      | (0, 0) => mm_go2 S K nx ls mem k n a q.1 q.2
      | (c, d) => (k + c ≤ B.1 ∧ n + d ≤ B.2) ∧ mm_go2 S K nx ls mem (k + c) (n + d) a q.1 q.2
/-- a new cell -/
def mm_new (B : Nat × Nat) (K : mm_K) (nx : Nat) (ls : mm_L) (st : List Value) (mem : mm_M) (k n : Nat) (z : Nat) (e : va_E) : Prop :=
  (k + 1 ≤ B.1 ∧ n + z ≤ B.2) ∧ ∀ r : Nat, r = mem.length → K nx ls (.ref r :: st) (mem ++ [e]) (k + 1) (n + z)
def mm_fit (tag : Nat) (v : Value) : Prop := match tag, v with
  | 0, .int _ => True
  | 1, .int x => fits .boolean (.int x) = true
  | 2, .ref _ => True
  | _, _ => False
/-- what an instruction asks, and where it goes -/
def mm_ins (S : mm_S) (Al : Nat → Nat × Nat) (Df : Nat → List Value) (B : Nat × Nat) (Q : mm_Q) (K : mm_K) (ins : Instr) (nx a b : Nat) (sw : List (Int32 × Nat)) (lc : Int64) (ls : mm_L) (st : List Value) (mem : mm_M) (k n : Nat) : Prop :=
  match ins with
  | .idiv => match st with
    | .int y :: .int x :: st => ¬ y = 0 ∧ K nx ls (.int (x / y) :: st) mem k n
    | _ => False
  | .irem => match st with
    | .int y :: .int x :: st => ¬ y = 0 ∧ K nx ls (.int (x - x / y * y) :: st) mem k n
    | _ => False
  | .ldiv => match st with
    | .long y :: .long x :: st => ¬ y = 0 ∧ K nx ls (.long (x / y) :: st) mem k n
    | _ => False
  | .lrem => match st with
    | .long y :: .long x :: st => ¬ y = 0 ∧ K nx ls (.long (x - x / y * y) :: st) mem k n
    | _ => False
  | .ifCond c _ => match st with
    | .int x :: st => mm_if c x 0 (K a ls st mem k n) (K nx ls st mem k n)
    | _ => False
  | .if_icmp c _ => match st with
    | .int y :: .int x :: st => mm_if c x y (K a ls st mem k n) (K nx ls st mem k n)
    | _ => False
  | .goto _ => K a ls st mem k n
  | .tableswitch _ _ _ _ => match st with
    | .int x :: st => mm_sw x (K a ls st mem k n) (fun t => K t ls st mem k n) sw
    | _ => False
  | .lookupswitch _ _ => match st with
    | .int x :: st => mm_sw x (K a ls st mem k n) (fun t => K t ls st mem k n) sw
    | _ => False
  | .getstatic _ => K nx ls (.ref a :: st) mem k n
  | .getfield _ => match st with
    | .ref r :: st => match mm_nth mem r with
      | some (.inr o) => match Nat.beq o.1 a with
        | true => match mm_nth o.2 b with
          | some v => K nx ls (v :: st) mem k n
          | none => False
        | false => False
      | _ => False
    | _ => False
  | .putfield _ => match st with
    | v :: .ref r :: st => match mm_nth mem r with
      | some (.inr o) => match Nat.beq o.1 a with
        | true => match mm_nth o.2 b with
          | some _ => match sw with
            | (_, tag) :: _ => mm_fit tag v ∧ K nx ls st (mm_set mem r (.inr (o.1, mm_set o.2 b v))) k n
            | [] => False
          | none => False
        | false => False
      | _ => False
    | _ => False
  | .iaload => match st with
    | .int i :: .ref r :: st => match mm_nth mem r with
      | some (.inl (0, N, .inl f)) => vp_in i N ∧ K nx ls (.int (f i.toNatClampNeg) :: st) mem k n
      | _ => False
    | _ => False
  | .baload => match st with
    | .int i :: .ref r :: st => match mm_nth mem r with
      | some (.inl (1, N, .inl f)) => vp_in i N ∧ K nx ls (.int (f i.toNatClampNeg) :: st) mem k n
      | _ => False
    | _ => False
  | .aaload => match st with
    | .int i :: .ref r :: st => match mm_nth mem r with
      | some (.inl (2, N, .inr (.inr (.inr (.inr f))))) => vp_in i N ∧ ∃ y : Nat, f i.toNatClampNeg = some y ∧ K nx ls (.ref y :: st) mem k n
      | _ => False
    | _ => False
  | .iastore => match st with
    | .int x :: .int i :: .ref r :: st => match Nat.ble 6 r with
      | true => match mm_nth mem r with
        | some (.inl (0, N, .inl f)) => vp_in i N ∧ K nx ls st (mm_set mem r (.inl (0, N, .inl (upd f i.toNatClampNeg x)))) k n
        | _ => False
      | false => False
    | _ => False
  | .bastore => match st with
    | .int x :: .int i :: .ref r :: st => match Nat.ble 6 r with
      | true => match mm_nth mem r with
        | some (.inl (1, N, .inl f)) => vp_in i N ∧ fits .boolean (.int x) = true ∧ K nx ls st (mm_set mem r (.inl (1, N, .inl (upd f i.toNatClampNeg x)))) k n
        | _ => False
      | false => False
    | _ => False
  | .aastore => match st with
    | .ref y :: .int i :: .ref r :: st => match Nat.ble 6 r with
      | true => match mm_nth mem r with
        | some (.inl (2, N, .inr (.inr (.inr (.inr f))))) => vp_in i N ∧ (∃ fs : List Value, mm_nth mem y = some (.inr (a, fs))) ∧ K nx ls st (mm_set mem r (.inl (2, N, .inr (.inr (.inr (.inr (va_up f i.toNatClampNeg (some y)))))))) k n
        | _ => False
      | false => False
    | _ => False
  | .arraylength => match st with
    | .ref r :: st => match mm_nth mem r with
      | some (.inl (t, N, _)) => match Nat.ble t 2 with
        | true => K nx ls (.int (nI N) :: st) mem k n
        | false => False
      | _ => False
    | _ => False
  | .new _ => mm_new B K nx ls st mem k n b (.inr (a, Df a))
  | .newarray _ => match st with
    | .int x :: st => x = nI b ∧ mm_new B K nx ls st mem k n b (.inl (a, b, .inl (fun _ => 0)))
    | _ => False
  | .anewarray _ => match st with
    | .int x :: st => x = nI b ∧ mm_new B K nx ls st mem k n b (.inl (2, b, .inr (.inr (.inr (.inr (fun _ => none))))))
    | _ => False
  | .invokevirtual _ => mm_call S Al B K nx ls mem k n a (mm_pop b [] st)
  | .invokestatic _ => match lc with
    | 0 => mm_call S Al B K nx ls mem k n a (mm_pop b [] st)
    | 2 => match st with
      | .int y :: .int x :: st => mm_sum st ≤ 8 ∧ K nx ls (.int (if x < y then y else x) :: st) mem k n
      | _ => False
    | _ => match st with
      | .int z :: .int dp :: .ref d :: .int sp :: .ref r :: st => match Nat.ble 6 d, mm_nth mem r, mm_nth mem d with
        | true, some (.inl (0, N, .inl f)), some (.inl (0, M, .inl g)) =>
          ((¬ sp < 0 ∧ ¬ dp < 0 ∧ ¬ z < 0 ∧ 6 ≤ r) ∧ sp.toNatClampNeg + z.toNatClampNeg ≤ N ∧ dp.toNatClampNeg + z.toNatClampNeg ≤ M ∧ mm_sum st ≤ 8) ∧
            K nx ls st (mm_set mem d (.inl (0, M, .inl (va_cpy f g sp.toNatClampNeg dp.toNatClampNeg z.toNatClampNeg)))) k n
        | _, _, _ => False
      | _ => False
  | .invokespecial _ => match lc with
    | 0 => mm_call S Al B K nx ls mem k n a (mm_pop b [] st)
    | _ => match st with
      | .ref _ :: st => mm_sum st ≤ 8 ∧ K nx ls st mem k n
      | _ => False
  | .ireturn => match st with
    | [.int v] => match a with
      | 0 => Q (some (.int v)) mem
      | _ => fits .boolean (.int v) = true ∧ Q (some (.int v)) mem
    | _ => False
  | .lreturn => match st with
    | [.long v] => Q (some (.long v)) mem
    | _ => False
  | .return_ => match st with
    | [] => Q none mem
    | _ => False
  | _ => match mm_pure ins a sw lc ls st with
    | some (ls', st') => K nx ls' st' mem k n
    | none => False
def mm_step (S : mm_S) (Al : Nat → Nat × Nat) (Df : Nat → List Value) (B : Nat × Nat) (cd : mm_C) (Q : mm_Q) (K : mm_K) (pc : Nat) (ls : mm_L) (st : List Value) (mem : mm_M) (k n : Nat) : Prop :=
  match mm_find cd pc with
  | none => False
  | some (ins, nx, a, b, sw, lc) => mm_ins S Al Df B Q K ins nx a b sw lc ls st mem k n
def mm_WP (S : mm_S) (Al : Nat → Nat × Nat) (Df : Nat → List Value) (B : Nat × Nat) (cd : mm_C) (Q : mm_Q) (pc : Nat) (ls : mm_L) (st : List Value) (mem : mm_M) (k n : Nat) : Prop :=
  ∀ X : mm_K, (∀ pc ls st mem k n, mm_step S Al Df B cd Q X pc ls st mem k n → X pc ls st mem k n) → X pc ls st mem k n
theorem mm_if_mono {c : ClassFile.Cond} {x y : Int32} {t f t' f' : Prop} (ht : t → t') (hf : f → f') (h : mm_if c x y t f) : mm_if c x y t' f' := by
  cases c <;> exact ⟨fun z => ht (h.1 z), fun z => hf (h.2 z)⟩
theorem mm_sw_mono {x : Int32} {d d' : Prop} {f f' : Nat → Prop} (hd : d → d') (hf : ∀ t, f t → f' t) (l : List (Int32 × Nat)) (h : mm_sw x d f l) : mm_sw x d' f' l := by
  induction l with
  | nil => exact hd h
  | cons q r ih => exact ⟨fun z => hf _ (h.1 z), fun z => ih (h.2 z)⟩
theorem mm_go2_mono {S : mm_S} {K K' : mm_K} (hK : ∀ pc ls st mem k n, K pc ls st mem k n → K' pc ls st mem k n) {nx : Nat} {ls : mm_L} {mem : mm_M} {k n a : Nat} {as rest : List Value} (h : mm_go2 S K nx ls mem k n a as rest) : mm_go2 S K' nx ls mem k n a as rest := by
  obtain ⟨Q1, h1, h2⟩ := h
  exact ⟨Q1, h1, fun r m q => hK _ _ _ _ _ _ (h2 r m q)⟩
theorem mm_call_mono {S : mm_S} {Al : Nat → Nat × Nat} {B : Nat × Nat} {K K' : mm_K} (hK : ∀ pc ls st mem k n, K pc ls st mem k n → K' pc ls st mem k n) {nx : Nat} {ls : mm_L} {mem : mm_M} {k n a : Nat} {p : Option (List Value × List Value)} (h : mm_call S Al B K nx ls mem k n a p) : mm_call S Al B K' nx ls mem k n a p := by
  unfold mm_call at h ⊢
  split at h
  · exact h
  · split at h
    · exact h
    · split at h
      · exact mm_go2_mono hK h
      · exact ⟨h.1, mm_go2_mono hK h.2⟩
theorem mm_new_mono {B : Nat × Nat} {K K' : mm_K} (hK : ∀ pc ls st mem k n, K pc ls st mem k n → K' pc ls st mem k n) {nx : Nat} {ls : mm_L} {st : List Value} {mem : mm_M} {k n z : Nat} {e : va_E} (h : mm_new B K nx ls st mem k n z e) : mm_new B K' nx ls st mem k n z e :=
  ⟨h.1, fun r hr => hK _ _ _ _ _ _ (h.2 r hr)⟩
theorem mm_ins_mono {S : mm_S} {Al : Nat → Nat × Nat} {Df : Nat → List Value} {B : Nat × Nat} {Q : mm_Q} {K K' : mm_K} (hK : ∀ pc ls st mem k n, K pc ls st mem k n → K' pc ls st mem k n) (ins : Instr) {nx a b : Nat} {sw : List (Int32 × Nat)} {lc : Int64} {ls : mm_L} {st : List Value} {mem : mm_M} {k n : Nat} (h : mm_ins S Al Df B Q K ins nx a b sw lc ls st mem k n) : mm_ins S Al Df B Q K' ins nx a b sw lc ls st mem k n := by
  unfold mm_ins at h ⊢
  revert h
  repeat' split
  all_goals first
    | exact hK _ _ _ _ _ _
    | exact fun h => h
    | exact fun h => ⟨h.1, hK _ _ _ _ _ _ h.2⟩
    | exact fun h => ⟨h.1, h.2.1, hK _ _ _ _ _ _ h.2.2⟩
    | exact mm_if_mono (hK _ _ _ _ _ _) (hK _ _ _ _ _ _)
    | exact mm_sw_mono (hK _ _ _ _ _ _) (fun _ => hK _ _ _ _ _ _) _
    | exact mm_call_mono hK
    | exact mm_new_mono hK
    | exact fun h => ⟨h.1, mm_new_mono hK h.2⟩
    | exact fun h => ⟨h.1, h.2.choose, h.2.choose_spec.1, hK _ _ _ _ _ _ h.2.choose_spec.2⟩
    | skip
theorem mm_step_mono {S : mm_S} {Al : Nat → Nat × Nat} {Df : Nat → List Value} {B : Nat × Nat} {cd : mm_C} {Q : mm_Q} {K K' : mm_K} (hK : ∀ pc ls st mem k n, K pc ls st mem k n → K' pc ls st mem k n) {pc : Nat} {ls : mm_L} {st : List Value} {mem : mm_M} {k n : Nat} (h : mm_step S Al Df B cd Q K pc ls st mem k n) : mm_step S Al Df B cd Q K' pc ls st mem k n := by
  unfold mm_step at h ⊢
  revert h
  split
  · exact fun h => h
  · exact mm_ins_mono hK _
theorem mm_WP.step {S : mm_S} {Al : Nat → Nat × Nat} {Df : Nat → List Value} {B : Nat × Nat} {cd : mm_C} {Q : mm_Q} {pc : Nat} {ls : mm_L} {st : List Value} {mem : mm_M} {k n : Nat} (h : mm_step S Al Df B cd Q (mm_WP S Al Df B cd Q) pc ls st mem k n) : mm_WP S Al Df B cd Q pc ls st mem k n :=
  fun X hX => hX _ _ _ _ _ _ (mm_step_mono (fun _ _ _ _ _ _ w => w X hX) h)
/-- on and on, up to the stops -/
def mm_go (S : mm_S) (Al : Nat → Nat × Nat) (Df : Nat → List Value) (B : Nat × Nat) (cd : mm_C) (Q : mm_Q) (stops : List Nat) : Nat → mm_K
  | 0 => mm_WP S Al Df B cd Q
  | f + 1 => fun pc ls st mem k n => match List.any stops (Nat.beq pc) with
    | true => mm_WP S Al Df B cd Q pc ls st mem k n
    | false => mm_step S Al Df B cd Q (mm_go S Al Df B cd Q stops f) pc ls st mem k n
theorem mm_go_WP {S : mm_S} {Al : Nat → Nat × Nat} {Df : Nat → List Value} {B : Nat × Nat} {cd : mm_C} {Q : mm_Q} {stops : List Nat} (f : Nat) : ∀ (pc : Nat) (ls : mm_L) (st : List Value) (mem : mm_M) (k n : Nat), mm_go S Al Df B cd Q stops f pc ls st mem k n → mm_WP S Al Df B cd Q pc ls st mem k n := by
  induction f with
  | zero => exact fun _ _ _ _ _ _ h => h
  | succ f ih =>
    intro pc ls st mem k n h
    unfold mm_go at h
    revert h
    split
    · exact fun h => h
    · exact fun h => mm_WP.step (mm_step_mono ih h)
/-- a walk: one step, then on and on up to the stops -/
theorem mm_WP.go {S : mm_S} {Al : Nat → Nat × Nat} {Df : Nat → List Value} {B : Nat × Nat} {cd : mm_C} {Q : mm_Q} (stops : List Nat) (f : Nat) {pc : Nat} {ls : mm_L} {st : List Value} {mem : mm_M} {k n : Nat} (h : mm_step S Al Df B cd Q (mm_go S Al Df B cd Q stops f) pc ls st mem k n) : mm_WP S Al Df B cd Q pc ls st mem k n :=
  mm_WP.step (mm_step_mono (mm_go_WP f) h)
theorem mm_WP.mono {S : mm_S} {Al : Nat → Nat × Nat} {Df : Nat → List Value} {B : Nat × Nat} {cd : mm_C} {Q Q' : mm_Q} (hQ : ∀ r m, Q r m → Q' r m) {pc : Nat} {ls : mm_L} {st : List Value} {mem : mm_M} {k n : Nat} (h : mm_WP S Al Df B cd Q pc ls st mem k n) : mm_WP S Al Df B cd Q' pc ls st mem k n := by
  refine h (mm_WP S Al Df B cd Q') (fun pc ls st mem k n h => mm_WP.step ?_)
  unfold mm_step at h ⊢
  revert h
  split
  · exact fun h => h
  · unfold mm_ins
    repeat' split
    all_goals first
      | exact fun h => h
      | exact hQ _ _
      | exact fun h => ⟨h.1, hQ _ _ h.2⟩
def mm_lay : List Value → mm_L
  | [] => []
  | .long x :: t => some (.long x) :: none :: mm_lay t
  | .double x :: t => some (.double x) :: none :: mm_lay t
  | v :: t => some v :: mm_lay t
def mm_rep : Nat → mm_L
  | 0 => []
  | n + 1 => none :: mm_rep n
def mm_args (n : Nat) (as : List Value) : mm_L := mm_lay as ++ mm_rep (n - (mm_lay as).length)
/-- a method: its code, the size of its locals, the number (and one) of its receiver's class (0: static) -/
abbrev mm_Y : Type := mm_C × Nat × Nat
def mm_recv (ci : Nat) (as : List Value) (mem : mm_M) : Prop := match ci with
  | 0 => True
  | c + 1 => match as with
    | .ref r :: _ => ∃ fs : List Value, mm_nth mem r = some (.inr (c, fs))
    | _ => False
/-- what a call does, with calls open at most so deep -/
def mm_Sp (Pg : Nat → mm_Y) (Al : Nat → Nat × Nat) (Df : Nat → List Value) : Nat → mm_S
  | 0 => fun _ _ _ _ => False
  | d + 1 => fun j as mem Q => mm_recv (Pg j).2.2 as mem ∧ Nat.ble (mm_lay as).length (Pg j).2.1 = true ∧ mm_WP (mm_Sp Pg Al Df d) Al Df (Al j) (Pg j).1 Q 0 (mm_args (Pg j).2.1 as) [] mem 0 0
