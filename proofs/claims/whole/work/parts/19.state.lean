/-! the cells behind the two constructors: ints of arrays (A: cell, place), ints of objects (I: cell, field), rows of scenes (F), then the scenes made since (P) -/
def gm (L : Nat) (xs : Nat → Int32) (A I : Nat → Nat → Int32) (F : Nat → Nat → Option Nat) (P : mm_M) : mm_M :=
  .inl (0, L, .inl xs) :: .inl (0, 8, .inl (fun j => mm_t1.getD j 0)) :: .inl (0, 15, .inl (fun j => mm_t2.getD j 0)) :: .inl (0, 6, .inl (fun j => mm_t3.getD j 0)) :: .inl (0, 6, .inl (fun j => mm_t4.getD j 0)) :: .inl (0, 6, .inl (fun j => mm_t5.getD j 0)) ::
  .inr (6, [.ref 7, .ref 21, .ref 9, .int (I 6 3), .ref 20, .ref 32, .ref 33, .ref 35]) ::
  .inr (4, [.ref 8, .int (I 7 1), .int (I 7 2)]) ::
  .inl (0, 40, .inl (A 8)) ::
  .inr (5, [.ref 10, .ref 13, .int (I 9 2), .ref 14, .ref 15, .ref 16, .int (I 9 6), .int (I 9 7), .ref 17, .ref 18, .ref 19, .int (I 9 11)]) ::
  .inr (3, [.ref 11, .ref 12, .int (I 10 2), .int (I 10 3)]) ::
  .inl (0, 4, .inl (A 11)) ::
  .inl (0, 3, .inl (A 12)) ::
  .inl (2, 24, .inr (.inr (.inr (.inr (F 13))))) ::
  .inl (0, 90, .inl (A 14)) ::
  .inl (0, 6, .inl (A 15)) ::
  .inl (0, 8, .inl (A 16)) ::
  .inl (0, 6, .inl (A 17)) ::
  .inl (0, 20, .inl (A 18)) ::
  .inl (0, 20, .inl (A 19)) ::
  .inl (0, 7, .inl (A 20)) ::
  .inr (5, [.ref 22, .ref 25, .int (I 21 2), .ref 26, .ref 27, .ref 28, .int (I 21 6), .int (I 21 7), .ref 29, .ref 30, .ref 31, .int (I 21 11)]) ::
  .inr (3, [.ref 23, .ref 24, .int (I 22 2), .int (I 22 3)]) ::
  .inl (0, 4, .inl (A 23)) ::
  .inl (0, 3, .inl (A 24)) ::
  .inl (2, 24, .inr (.inr (.inr (.inr (F 25))))) ::
  .inl (0, 90, .inl (A 26)) ::
  .inl (0, 6, .inl (A 27)) ::
  .inl (0, 8, .inl (A 28)) ::
  .inl (0, 6, .inl (A 29)) ::
  .inl (0, 20, .inl (A 30)) ::
  .inl (0, 20, .inl (A 31)) ::
  .inr (2, [.ref 21]) ::
  .inr (1, [.ref 21, .ref 34]) ::
  .inl (0, 6, .inl (A 34)) ::
  .inr (0, [.ref 21, .ref 36, .int (I 35 2), .ref 37, .int (I 35 4)]) ::
  .inl (0, 90, .inl (A 36)) ::
  .inl (0, 220, .inl (A 37)) ::
  .inr (7, [.int (I 38 0), .ref 39, .ref 40, .ref 41, .ref 42, .ref 43, .ref 44, .ref 45, .int (I 38 8), .int (I 38 9), .ref 46, .int (I 38 11), .ref 47, .ref 48, .ref 49, .int (I 38 15), .ref 50, .int (I 38 17), .int (I 38 18), .int (I 38 19), .ref 51, .int (I 38 21), .ref 52, .ref 53, .int (I 38 24), .ref 54, .int (I 38 26), .int (I 38 27), .ref 55, .int (I 38 29), .int (I 38 30)]) ::
  .inl (0, 24, .inl (A 39)) ::
  .inl (0, 96, .inl (A 40)) ::
  .inl (0, 24, .inl (A 41)) ::
  .inl (0, 216, .inl (A 42)) ::
  .inl (1, 144, .inl (A 43)) ::
  .inl (1, 2160, .inl (A 44)) ::
  .inl (0, 8, .inl (A 45)) ::
  .inl (0, 6, .inl (A 46)) ::
  .inl (0, 20, .inl (A 47)) ::
  .inl (0, 20, .inl (A 48)) ::
  .inl (0, 40, .inl (A 49)) ::
  .inl (0, 7, .inl (A 50)) ::
  .inl (0, 3, .inl (A 51)) ::
  .inl (0, 3, .inl (A 52)) ::
  .inl (0, 12, .inl (A 53)) ::
  .inl (0, 90, .inl (A 54)) ::
  .inl (0, 700, .inl (A 55)) :: P
/-- one int of an array, of an object, one scene of a row -/
def uA (A : Nat → Nat → Int32) (a i : Nat) (v : Int32) : Nat → Nat → Int32 := fun x => match Nat.beq x a with
  | true => upd (A a) i v
  | false => A x
def uI (I : Nat → Nat → Int32) (a i : Nat) (v : Int32) : Nat → Nat → Int32 := fun x j => match Nat.beq x a && Nat.beq j i with
  | true => v
  | false => I x j
def uR (A : Nat → Nat → Int32) (a : Nat) (f : Nat → Int32) : Nat → Nat → Int32 := fun x => match Nat.beq x a with
  | true => f
  | false => A x
def uF (F : Nat → Nat → Option Nat) (a i : Nat) (v : Option Nat) : Nat → Nat → Option Nat := fun x => match Nat.beq x a with
  | true => va_up (F a) i v
  | false => F x
theorem nb_ne {a b : Nat} (h : a ≠ b) : Nat.beq a b = false := by
  cases hb : Nat.beq a b
  · rfl
  · exact absurd (Nat.eq_of_beq_eq_true hb) h
theorem nb_eq (a : Nat) : Nat.beq a a = true := Nat.beq_refl a
theorem uA_ne {A : Nat → Nat → Int32} {a i x : Nat} {v : Int32} (h : x ≠ a) : uA A a i v x = A x := by unfold uA; rw [nb_ne h]
theorem uA_eq {A : Nat → Nat → Int32} {a i : Nat} {v : Int32} : uA A a i v a = upd (A a) i v := by unfold uA; rw [nb_eq]
theorem uR_ne {A : Nat → Nat → Int32} {a x : Nat} {f : Nat → Int32} (h : x ≠ a) : uR A a f x = A x := by unfold uR; rw [nb_ne h]
theorem uR_eq {A : Nat → Nat → Int32} {a : Nat} {f : Nat → Int32} : uR A a f a = f := by unfold uR; rw [nb_eq]
theorem uR_uR (A : Nat → Nat → Int32) (a : Nat) (f g : Nat → Int32) : uR (uR A a f) a g = uR A a g := by
  funext x
  by_cases h : x = a
  · rw [h, uR_eq, uR_eq]
  · rw [uR_ne h, uR_ne h, uR_ne h]
theorem uA_uR (A : Nat → Nat → Int32) (a i : Nat) (f : Nat → Int32) (v : Int32) : uA (uR A a f) a i v = uR A a (upd f i v) := by
  funext x
  by_cases h : x = a
  · rw [h, uA_eq, uR_eq, uR_eq]
  · rw [uA_ne h, uR_ne h, uR_ne h]
theorem uR_self (A : Nat → Nat → Int32) (a : Nat) : uR A a (A a) = A := by
  funext x
  by_cases h : x = a
  · rw [h, uR_eq]
  · rw [uR_ne h]
theorem uA_as (A : Nat → Nat → Int32) (a i : Nat) (v : Int32) : uA A a i v = uR A a (upd (A a) i v) := by
  funext x
  by_cases h : x = a
  · rw [h, uA_eq, uR_eq]
  · rw [uA_ne h, uR_ne h]
theorem uI_ne {I : Nat → Nat → Int32} {a i x j : Nat} {v : Int32} (h : x ≠ a ∨ j ≠ i) : uI I a i v x j = I x j := by
  unfold uI
  rcases h with h | h
  · rw [nb_ne h]; rfl
  · rw [nb_ne h, Bool.and_false]
theorem uI_eq {I : Nat → Nat → Int32} {a i : Nat} {v : Int32} : uI I a i v a i = v := by unfold uI; rw [nb_eq, nb_eq]; rfl
theorem uI_uI (I : Nat → Nat → Int32) (a i : Nat) (v w : Int32) : uI (uI I a i v) a i w = uI I a i w := by
  funext x j
  by_cases h : x ≠ a ∨ j ≠ i
  · rw [uI_ne h, uI_ne h, uI_ne h]
  · have h1 : x = a := Decidable.byContradiction fun q => h (Or.inl q)
    have h2 : j = i := Decidable.byContradiction fun q => h (Or.inr q)
    rw [h1, h2, uI_eq, uI_eq]
abbrev sp (d : Nat) : mm_S := mm_Sp mm_Pt mm_Al mm_Df d
abbrev wp (d : Nat) (B : Nat × Nat) (cd : mm_C) (Q : mm_Q) (pc : Nat) (ls : mm_L) (st : List Value) (mem : mm_M) : Prop := mm_WP (mm_Sp mm_Pt mm_Al mm_Df d) mm_Al mm_Df B cd Q pc ls st mem 0 0
/-- an answer, with nothing changed -/
abbrev ans (mem : mm_M) (v : Int32) : mm_Q := fun r m => r = some (.int v) ∧ m = mem
theorem lt_ir {P : Prop} (h : P) : P := h
/-- a place in a row, or none -/
theorem vp_cases (x : Int32) {n : Nat} (hn : n < 2 ^ 31) : (∃ k, k < n ∧ x = nI k) ∨ ¬ vp_in x n := by
  by_cases h : vp_in x n
  · exact Or.inl (vp_in_of h hn)
  · exact Or.inr h
theorem vp_in_0 {x : Int32} {n : Nat} (h : vp_in x n) : 0 ≤ x.toInt ∧ x.toInt < n := vp_in_iff.mp h
