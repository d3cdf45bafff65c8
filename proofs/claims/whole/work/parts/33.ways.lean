/-! givings: how many, by numbers -/
/-- not taken -/
def q1 (p : Nat → Bool) (t b : Int32) (m : Nat) : Bool := p m && !decide (nI m = t) && !decide (nI m = b)
def WW : List (Nat → Bool) → Int32 → Int32 → Nat
  | [], _, _ => 1
  | p :: r, t, b => fb_sm (fun m => if q1 p t b m then WW r (nI m) t else 0) 90
def ls (p : Nat → Bool) (t : Int32) : Nat := fb_ct (fun m => p m && decide (nI m = t)) 90
def TK (t : Int32) : Prop := t = -9 ∨ ∃ x, x < 90 ∧ t = nI x
theorem nI_n9 {x : Nat} (h : x < 2 ^ 31) : ¬ nI x = -9 := by
  intro e
  rw [fa_eq, nI_toInt h] at e
  have : (-9 : Int32).toInt = -9 := rfl
  omega
theorem fb_ct_one {p : Nat → Bool} {x : Nat} : ∀ {n : Nat}, (∀ k, k < n → p k = true → k = x) → fb_ct p n = if x < n then (if p x then 1 else 0) else 0
  | 0, _ => by rw [if_neg (by omega)]; rfl
  | n + 1, h => by
    rw [fb_ct_succ, fb_ct_one (n := n) (fun k hk => h k (by omega))]
    by_cases hx : x < n
    · rw [if_pos hx, if_pos (show x < n + 1 by omega)]
      by_cases hp : p n = true
      · have := h n (by omega) hp
        omega
      · rw [if_neg hp]
        rfl
    · rw [if_neg hx]
      by_cases hx2 : x = n
      · subst hx2
        rw [if_pos (show x < x + 1 by omega), Nat.zero_add]
      · rw [if_neg (show ¬ x < n + 1 by omega)]
        by_cases hp : p n = true
        · have := h n (by omega) hp
          omega
        · rw [if_neg hp]
theorem ls_9 (p : Nat → Bool) : ls p (-9) = 0 := fb_ct_zero.mpr (fun k hk => by
  rw [decide_eq_false (nI_n9 (by omega)), Bool.and_false])
theorem ls_x (p : Nat → Bool) {x : Nat} (hx : x < 90) : ls p (nI x) = if p x then 1 else 0 := by
  unfold ls
  rw [fb_ct_one (x := x) (fun k hk h => by
    simp only [Bool.and_eq_true, decide_eq_true_eq] at h
    exact (nI_eq (by omega) (by omega)).mp h.2), if_pos hx]
  simp
theorem sm_ct (p : Nat → Bool) : ∀ n, fb_sm (fun m => if p m then 1 else 0) n = fb_ct p n
  | 0 => rfl
  | n + 1 => by rw [fb_sm_succ, fb_ct_succ, sm_ct p n]
theorem WW_1 (p : Nat → Bool) (t b : Int32) : WW [p] t b = fb_ct (q1 p t b) 90 := by
  rw [WW, ← sm_ct]
  rfl
theorem WW_one {p : Nat → Bool} {t b : Int32} (hb : t = b → t = -9) : WW [p] t b + ls p t + ls p b = fb_ct p 90 := by
  rw [WW_1]
  unfold ls
  by_cases h : t = b
  · have h9 := hb h
    subst h9
    subst h
    have h2 : fb_ct (fun m => p m && decide (nI m = -9)) 90 = 0 := ls_9 p
    rw [h2, Nat.add_zero]
    exact fb_ct_cong (fun k hk => by
      unfold q1
      rw [decide_eq_false (nI_n9 (by omega))]
      simp)
  · rw [← fb_ct_or (fun k hk hh => by unfold q1 at hh; simp at hh; exact hh.1.1.2 hh.2.2), ← fb_ct_or (fun k hk hh => by
      unfold q1 at hh
      simp at hh
      rcases hh with ⟨h1, h2, h3⟩
      rcases h1 with h1 | h1
      · exact absurd h3 h1.2
      · exact h (h1.2.symm.trans h3))]
    refine fb_ct_cong (fun k hk => ?_)
    unfold q1
    cases hp : p k <;> by_cases h1 : nI k = t <;> by_cases h2 : nI k = b <;> simp [h1, h2]
/-- numbers of it: 0 or 1 -/
def io (p : Nat → Bool) (m : Nat) : Int := if p m then 1 else 0
theorem si_ct (p : Nat → Bool) : ∀ n, (fb_ct p n : Int) = fb_si (io p) n
  | 0 => rfl
  | n + 1 => by
    rw [fb_ct_succ, fb_si_succ, ← si_ct p n]
    unfold io
    split <;> simp
theorem si_dl (v : Int) {x : Nat} : ∀ {n : Nat}, fb_si (fun k => if k = x then v else 0) n = if x < n then v else 0
  | 0 => by rw [if_neg (by omega)]; rfl
  | n + 1 => by
    rw [fb_si_succ, si_dl v (n := n)]
    by_cases h : n = x
    · rw [if_pos h, if_neg (by omega), if_pos (by omega)]
      omega
    · rw [if_neg h]
      by_cases h2 : x < n
      · rw [if_pos h2, if_pos (by omega)]
        omega
      · rw [if_neg h2, if_neg (by omega)]
        rfl
theorem sm_si {f : Nat → Nat} {g : Nat → Int} : ∀ {n : Nat}, (∀ k, k < n → (f k : Int) = g k) → (fb_sm f n : Int) = fb_si g n
  | 0, _ => rfl
  | n + 1, h => by
    rw [fb_sm_succ, fb_si_succ, ← sm_si (f := f) (g := g) (n := n) (fun k hk => h k (by omega)), ← h n (by omega)]
    omega
theorem ls_io (p : Nat → Bool) {x : Nat} (hx : x < 90) : (ls p (nI x) : Int) = io p x := by
  rw [ls_x p hx]
  unfold io
  split <;> rfl
def pa (p q : Nat → Bool) (m : Nat) : Bool := p m && q m
theorem WW_q {q : Nat → Bool} {m : Nat} (hm : m < 90) : (WW [q] (nI m) (-9) : Int) = fb_ct q 90 - io q m := by
  have h := WW_one (p := q) (t := nI m) (b := -9) (fun h => h)
  rw [ls_9] at h
  have h2 := ls_io q hm
  omega
theorem q1_9 {p : Nat → Bool} {m : Nat} (hm : m < 90) : q1 p (-9) (-9) m = p m := by
  unfold q1
  rw [decide_eq_false (nI_n9 (by omega))]
  simp
theorem WW_2 (p q : Nat → Bool) : (WW [p, q] (-9) (-9) : Int) = (fb_ct p 90 : Int) * fb_ct q 90 - fb_ct (pa p q) 90 := by
  rw [WW, sm_si (g := fun m => (fb_ct q 90 : Int) * io p m - io (pa p q) m) (fun m hm => ?_), fb_si_sub, fb_si_mul, ← si_ct, ← si_ct, Int.mul_comm]
  have h := WW_q (q := q) hm
  rw [q1_9 hm]
  unfold io pa at *
  revert h
  cases p m <;> cases q m <;> intro h <;> simp at h ⊢ <;> omega
theorem WW_qr {q r : Nat → Bool} {m : Nat} (hm : m < 90) : (WW [q, r] (nI m) (-9) : Int) = (fb_ct r 90 : Int) * fb_ct q 90 - fb_ct (pa q r) 90 - io r m * fb_ct q 90 - io q m * (fb_ct r 90 - 2 * io r m) := by
  rw [WW, sm_si (g := fun k => ((((fb_ct r 90 : Int) * io q k - io (pa q r) k) - io r m * io q k) - (if k = m then io q m * (fb_ct r 90 - 2 * io r m) else 0))) (fun k hk => ?_), fb_si_sub, fb_si_sub, fb_si_sub, fb_si_mul, fb_si_mul, si_dl, if_pos hm, ← si_ct, ← si_ct]
  by_cases hkm : k = m
  · subst hkm
    have : q1 q (nI k) (-9) k = false := by unfold q1; simp
    rw [this, if_pos rfl]
    unfold io pa
    cases q k <;> cases r k <;> simp <;> omega
  · rw [if_neg hkm]
    have hne : ¬ nI k = nI m := fun h => hkm ((nI_eq (by omega) (by omega)).mp h)
    have h := WW_one (p := r) (t := nI k) (b := nI m) (fun h => absurd h hne)
    have h1 := ls_io r hk
    have h2 := ls_io r hm
    have e : q1 q (nI m) (-9) k = q k := by
      unfold q1
      rw [decide_eq_false hne, decide_eq_false (nI_n9 (by omega))]
      simp
    rw [e]
    have h3 : (WW [r] (nI k) (nI m) : Int) = fb_ct r 90 - io r k - io r m := by omega
    unfold io pa at *
    clear h h1 h2
    revert h3
    cases q k <;> cases r k <;> cases r m <;> intro h3 <;> simp at h3 ⊢ <;> omega
theorem WW_3 (p q r : Nat → Bool) : (WW [p, q, r] (-9) (-9) : Int) = (fb_ct p 90 : Int) * fb_ct q 90 * fb_ct r 90 - fb_ct (pa p q) 90 * fb_ct r 90 - fb_ct (pa p r) 90 * fb_ct q 90 - fb_ct (pa q r) 90 * fb_ct p 90 + 2 * fb_ct (pa p (pa q r)) 90 := by
  rw [WW, sm_si (g := fun m => (((((fb_ct r 90 : Int) * fb_ct q 90 - fb_ct (pa q r) 90) * io p m) - (fb_ct q 90 : Int) * io (pa p r) m) - (fb_ct r 90 : Int) * io (pa p q) m) - (-2) * io (pa p (pa q r)) m) (fun m hm => ?_), fb_si_sub, fb_si_sub, fb_si_sub, fb_si_mul, fb_si_mul, fb_si_mul, fb_si_mul, ← si_ct, ← si_ct, ← si_ct, ← si_ct]
  · grind
  · have h := WW_qr (q := q) (r := r) hm
    rw [q1_9 hm]
    unfold io pa at *
    revert h
    cases p m <;> cases q m <;> cases r m <;> intro h <;> simp at h ⊢ <;> omega
theorem WW_le (p q : Nat → Bool) (t b : Int32) : WW [p, q] t b ≤ 8100 := by
  rw [WW]
  have h := sm_le (f := fun m => if q1 p t b m = true then WW [q] (nI m) t else 0) (M := 90) (fun k hk => ?_) 90 (Nat.le_refl _)
  · omega
  · show (if q1 p t b k = true then WW [q] (nI k) t else 0) ≤ 90
    split
    · rw [WW_1]
      exact fb_ct_le _ _
    · omega
theorem WW_le1 (p : Nat → Bool) (t b : Int32) : WW [p] t b ≤ 90 := by
  rw [WW_1]
  exact fb_ct_le _ _
