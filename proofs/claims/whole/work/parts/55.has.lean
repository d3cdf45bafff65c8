/-! the reference: which meanings a scene has -/
theorem HS_0 {D : Sc} {x : Nat} (h : x < 6) : HS D x = orb (fun i => mkb D i x) (tcO D) := by unfold HS; rw [if_pos h]
theorem HS_1 {D : Sc} {x : Nat} (h : 6 ≤ x ∧ x < 21) : HS D x = orb (fun i => mkb D i (jm (x - 6)) && mkb D i (jn (x - 6))) (tcO D) := by unfold HS; rw [if_neg (by omega), if_pos h.2]
theorem HS_2 {D : Sc} {x : Nat} (h : 21 ≤ x ∧ x < 39) : HS D x = decide (fb_ct (fun i => mkb D i ((x - 21) / 3)) (tcO D) = (x - 21) % 3 + 2) := by unfold HS; rw [if_neg (by omega), if_neg (by omega), if_pos h.2]
theorem HS_3 {D : Sc} {x : Nat} (h : 39 ≤ x ∧ x < 42) : HS D x = orb (fun i => decide (dvO D i = x - 39)) (dcO D) := by unfold HS; rw [if_neg (by omega), if_neg (by omega), if_neg (by omega), if_pos h.2]
theorem HS_4 {D : Sc} {x : Nat} (h : 42 ≤ x ∧ x < 60) : HS D x = orb (fun i => decide (dvO D i = (x - 42) / 6) && mkb D (dwO D i) ((x - 42) % 6)) (dcO D) := by unfold HS; rw [if_neg (by omega), if_neg (by omega), if_neg (by omega), if_neg (by omega), if_pos h.2]
theorem HS_5 {D : Sc} {x : Nat} (h : 60 ≤ x ∧ x < 78) : HS D x = orb (fun i => decide (dvO D i = (x - 60) / 6) && mkb D (dmO D i) ((x - 60) % 6)) (dcO D) := by unfold HS; rw [if_neg (by omega), if_neg (by omega), if_neg (by omega), if_neg (by omega), if_neg (by omega), if_pos h.2]
theorem HS_6 {D : Sc} {x : Nat} (h : 78 ≤ x ∧ x < 84) : HS D x = orb (fun i => decide (64 ≤ thO D i) && mkb D i (x - 78)) (tcO D) := by unfold HS; rw [if_neg (by omega), if_neg (by omega), if_neg (by omega), if_neg (by omega), if_neg (by omega), if_neg (by omega), if_pos h.2]
theorem HS_7 {D : Sc} {x : Nat} (h : 84 ≤ x) : HS D x = orb (fun i => decide (thO D i < 64) && mkb D i (x - 84)) (tcO D) := by unfold HS; rw [if_neg (by omega), if_neg (by omega), if_neg (by omega), if_neg (by omega), if_neg (by omega), if_neg (by omega), if_neg (by omega)]
/-- the mark at which it is found -/
def own (x : Nat) : Nat := if x < 6 then x else if x < 21 then jm (x - 6) else if x < 39 then (x - 21) / 3 else if x < 42 then 0 else if x < 60 then (x - 42) % 6 else if x < 78 then (x - 60) % 6 else if x < 84 then x - 78 else x - 84
def off (m : Nat) : Nat := [0, 5, 9, 12, 14, 15].getD m 0
theorem off_1 : ∀ m, m < 6 → ∀ t, t < 5 - m → off m + t < 15 ∧ jm (off m + t) = m ∧ jn (off m + t) = m + 1 + t := by decide
theorem off_2 : ∀ j, j < 15 → jm j < 5 ∧ jn j - jm j - 1 < 5 - jm j ∧ j = off (jm j) + (jn j - jm j - 1) ∧ jn j = jm j + 1 + (jn j - jm j - 1) := by decide
theorem off_3 : ∀ m, m < 5 → off m + (5 - m) = off (m + 1) := by decide
theorem off_4 : ∀ m, m < 6 → off m + (5 - m) ≤ 15 := by decide
def zM (D : Sc) (m x : Nat) : Bool := decide (x = m) && decide (0 < fb_ct (fun i => mkb D i m) (tcO D))
def zJ (D : Sc) (m x t : Nat) : Bool := decide (x = 6 + off m + t) && orb (fun i => mkb D i m && mkb D i (m + 1 + t)) (tcO D)
def zC (D : Sc) (m x t : Nat) : Bool := decide (x = 21 + 3 * m + t) && decide (fb_ct (fun i => mkb D i m) (tcO D) = t + 2)
def zW (D : Sc) (m x i : Nat) : Bool := decide (x = (if 64 ≤ thO D i then 78 else 84) + m) && mkb D i m
def zD (D : Sc) (m x i : Nat) : Bool := (decide (x = 39 + dvO D i) || (decide (x = 42 + 6 * dvO D i + m) && mkb D (dwO D i) m)) || (decide (x = 60 + 6 * dvO D i + m) && mkb D (dmO D i) m)
/-- found with marks below m -/
def g0 (D : Sc) (m x : Nat) : Bool := decide (own x < m) && HS D x
def g1 (D : Sc) (m x : Nat) : Bool := g0 D m x || zM D m x
def g2 (D : Sc) (m t x : Nat) : Bool := g1 D m x || orb (zJ D m x) t
def g3 (D : Sc) (m t x : Nat) : Bool := g2 D m (5 - m) x || orb (zC D m x) t
def g4 (D : Sc) (m t x : Nat) : Bool := g3 D m 3 x || orb (zW D m x) t
def g5 (D : Sc) (m t x : Nat) : Bool := g4 D m (tcO D) x || orb (zD D m x) t
theorem own_r {x : Nat} : (x < 6 → own x = x) ∧ (6 ≤ x ∧ x < 21 → own x = jm (x - 6)) ∧ (21 ≤ x ∧ x < 39 → own x = (x - 21) / 3) ∧ (39 ≤ x ∧ x < 42 → own x = 0) ∧ (42 ≤ x ∧ x < 60 → own x = (x - 42) % 6) ∧ (60 ≤ x ∧ x < 78 → own x = (x - 60) % 6) ∧ (78 ≤ x ∧ x < 84 → own x = x - 78) ∧ (84 ≤ x → own x = x - 84) := by
  unfold own
  refine ⟨fun h => by rw [if_pos h], fun h => by rw [if_neg (by omega), if_pos h.2], fun h => by rw [if_neg (by omega), if_neg (by omega), if_pos h.2], fun h => by rw [if_neg (by omega), if_neg (by omega), if_neg (by omega), if_pos h.2], fun h => by rw [if_neg (by omega), if_neg (by omega), if_neg (by omega), if_neg (by omega), if_pos h.2], fun h => by rw [if_neg (by omega), if_neg (by omega), if_neg (by omega), if_neg (by omega), if_neg (by omega), if_pos h.2], fun h => by rw [if_neg (by omega), if_neg (by omega), if_neg (by omega), if_neg (by omega), if_neg (by omega), if_neg (by omega), if_pos h.2], fun h => by rw [if_neg (by omega), if_neg (by omega), if_neg (by omega), if_neg (by omega), if_neg (by omega), if_neg (by omega), if_neg (by omega)]⟩
/-- what is found is had -/
theorem z_ok {D : Sc} (ho : okS D) {m x : Nat} (hm : m < 6) (h : zM D m x = true ∨ orb (zJ D m x) (5 - m) = true ∨ orb (zC D m x) 3 = true ∨ orb (zW D m x) (tcO D) = true ∨ orb (zD D m x) (dcO D) = true) : (own x = m ∨ own x = 0) ∧ HS D x = true := by
  obtain ⟨r0, r1, r2, r3, r4, r5, r6, r7⟩ := own_r (x := x)
  rcases h with h | h | h | h | h
  · unfold zM at h
    simp only [Bool.and_eq_true, decide_eq_true_eq] at h
    obtain ⟨rfl, h2⟩ := h
    refine ⟨Or.inl (r0 hm), ?_⟩
    rw [HS_0 hm, orb_ct, decide_eq_true h2]
  · obtain ⟨t, ht, h⟩ := (orb_iff _).mp h
    unfold zJ at h
    simp only [Bool.and_eq_true, decide_eq_true_eq] at h
    obtain ⟨h1, h2⟩ := h
    obtain ⟨o1, o2, o3⟩ := off_1 m hm t ht
    have hx : 6 ≤ x ∧ x < 21 := by omega
    have e : x - 6 = off m + t := by omega
    refine ⟨Or.inl (by rw [r1 hx, e, o2]), ?_⟩
    rw [HS_1 hx, e, o2, o3]
    exact h2
  · obtain ⟨t, ht, h⟩ := (orb_iff _).mp h
    unfold zC at h
    simp only [Bool.and_eq_true, decide_eq_true_eq] at h
    obtain ⟨h1, h2⟩ := h
    have hx : 21 ≤ x ∧ x < 39 := by omega
    have e1 : (x - 21) / 3 = m := by omega
    have e2 : (x - 21) % 3 = t := by omega
    refine ⟨Or.inl (by rw [r2 hx, e1]), ?_⟩
    rw [HS_2 hx, e1, e2, decide_eq_true h2]
  · obtain ⟨i, hi, h⟩ := (orb_iff _).mp h
    unfold zW at h
    simp only [Bool.and_eq_true, decide_eq_true_eq] at h
    obtain ⟨h1, h2⟩ := h
    by_cases c : 64 ≤ thO D i
    · rw [if_pos c] at h1
      have hx : 78 ≤ x ∧ x < 84 := by omega
      have e : x - 78 = m := by omega
      refine ⟨Or.inl (by rw [r6 hx, e]), ?_⟩
      rw [HS_6 hx, e, orb_iff]
      exact ⟨i, hi, by rw [decide_eq_true c, h2]; rfl⟩
    · rw [if_neg c] at h1
      have hx : 84 ≤ x := by omega
      have e : x - 84 = m := by omega
      refine ⟨Or.inl (by rw [r7 hx, e]), ?_⟩
      rw [HS_7 hx, e, orb_iff]
      exact ⟨i, hi, by rw [decide_eq_true (show thO D i < 64 by omega), h2]; rfl⟩
  · obtain ⟨i, hi, h⟩ := (orb_iff _).mp h
    have hv := (ho.2.2.2 i hi).2.1
    unfold zD at h
    simp only [Bool.or_eq_true, Bool.and_eq_true, decide_eq_true_eq] at h
    rcases h with (h | ⟨h1, h2⟩) | ⟨h1, h2⟩
    · have hx : 39 ≤ x ∧ x < 42 := by omega
      refine ⟨Or.inr (r3 hx), ?_⟩
      rw [HS_3 hx, orb_iff]
      exact ⟨i, hi, decide_eq_true (by omega)⟩
    · have hx : 42 ≤ x ∧ x < 60 := by omega
      have e1 : (x - 42) / 6 = dvO D i := by omega
      have e2 : (x - 42) % 6 = m := by omega
      refine ⟨Or.inl (by rw [r4 hx, e2]), ?_⟩
      rw [HS_4 hx, e1, e2, orb_iff]
      exact ⟨i, hi, by rw [decide_eq_true rfl, h2]; rfl⟩
    · have hx : 60 ≤ x ∧ x < 78 := by omega
      have e1 : (x - 60) / 6 = dvO D i := by omega
      have e2 : (x - 60) % 6 = m := by omega
      refine ⟨Or.inl (by rw [r5 hx, e2]), ?_⟩
      rw [HS_5 hx, e1, e2, orb_iff]
      exact ⟨i, hi, by rw [decide_eq_true rfl, h2]; rfl⟩
/-- what is had is found -/
theorem z_all {D : Sc} {m x : Nat} (hx : x < 90) (ho : own x = m) (h : HS D x = true) : zM D m x = true ∨ orb (zJ D m x) (5 - m) = true ∨ orb (zC D m x) 3 = true ∨ orb (zW D m x) (tcO D) = true ∨ orb (zD D m x) (dcO D) = true := by
  obtain ⟨r0, r1, r2, r3, r4, r5, r6, r7⟩ := own_r (x := x)
  rcases (show x < 6 ∨ (6 ≤ x ∧ x < 21) ∨ (21 ≤ x ∧ x < 39) ∨ (39 ≤ x ∧ x < 42) ∨ (42 ≤ x ∧ x < 60) ∨ (60 ≤ x ∧ x < 78) ∨ (78 ≤ x ∧ x < 84) ∨ 84 ≤ x by omega) with c | c | c | c | c | c | c | c
  · rw [r0 c] at ho
    subst ho
    rw [HS_0 c, orb_ct] at h
    refine Or.inl ?_
    unfold zM
    rw [h, decide_eq_true rfl]
    rfl
  · rw [r1 c] at ho
    rw [HS_1 c] at h
    obtain ⟨o1, o2, o3, o4⟩ := off_2 (x - 6) (by omega)
    rw [ho] at o2 o3 o4 h
    refine Or.inr (Or.inl ((orb_iff _).mpr ⟨jn (x - 6) - m - 1, o2, ?_⟩))
    unfold zJ
    rw [← o4, h, decide_eq_true (by omega)]
    rfl
  · rw [r2 c] at ho
    rw [HS_2 c, ho] at h
    refine Or.inr (Or.inr (Or.inl ((orb_iff _).mpr ⟨(x - 21) % 3, by omega, ?_⟩)))
    unfold zC
    rw [h, decide_eq_true (by omega)]
    rfl
  · rw [HS_3 c] at h
    obtain ⟨i, hi, h⟩ := (orb_iff _).mp h
    refine Or.inr (Or.inr (Or.inr (Or.inr ((orb_iff _).mpr ⟨i, hi, ?_⟩))))
    have := decide_eq_true_iff.mp h
    unfold zD
    rw [decide_eq_true (show x = 39 + dvO D i by omega)]
    rfl
  · rw [r4 c] at ho
    rw [HS_4 c, ho] at h
    obtain ⟨i, hi, h⟩ := (orb_iff _).mp h
    simp only [Bool.and_eq_true, decide_eq_true_eq] at h
    refine Or.inr (Or.inr (Or.inr (Or.inr ((orb_iff _).mpr ⟨i, hi, ?_⟩))))
    unfold zD
    rw [decide_eq_true (show x = 42 + 6 * dvO D i + m by omega), h.2]
    simp
  · rw [r5 c] at ho
    rw [HS_5 c, ho] at h
    obtain ⟨i, hi, h⟩ := (orb_iff _).mp h
    simp only [Bool.and_eq_true, decide_eq_true_eq] at h
    refine Or.inr (Or.inr (Or.inr (Or.inr ((orb_iff _).mpr ⟨i, hi, ?_⟩))))
    unfold zD
    rw [decide_eq_true (show x = 60 + 6 * dvO D i + m by omega), h.2]
    simp
  · rw [r6 c] at ho
    rw [HS_6 c, ho] at h
    obtain ⟨i, hi, h⟩ := (orb_iff _).mp h
    simp only [Bool.and_eq_true, decide_eq_true_eq] at h
    refine Or.inr (Or.inr (Or.inr (Or.inl ((orb_iff _).mpr ⟨i, hi, ?_⟩))))
    unfold zW
    rw [if_pos h.1, decide_eq_true (show x = 78 + m by omega), h.2]
    rfl
  · rw [r7 c] at ho
    rw [HS_7 c, ho] at h
    obtain ⟨i, hi, h⟩ := (orb_iff _).mp h
    simp only [Bool.and_eq_true, decide_eq_true_eq] at h
    refine Or.inr (Or.inr (Or.inr (Or.inl ((orb_iff _).mpr ⟨i, hi, ?_⟩))))
    unfold zW
    rw [if_neg (by omega), decide_eq_true (show x = 84 + m by omega), h.2]
    rfl
theorem g_next {D : Sc} (ho : okS D) {m x : Nat} (hm : m < 6) (hx : x < 90) : g5 D m (dcO D) x = g0 D (m + 1) x := by
  unfold g5 g4 g3 g2 g1 g0
  rw [Bool.eq_iff_iff]
  simp only [Bool.or_eq_true, Bool.and_eq_true, decide_eq_true_eq]
  constructor
  · rintro (((((⟨h1, h2⟩ | h) | h) | h) | h) | h)
    · exact ⟨by omega, h2⟩
    · obtain ⟨a, b⟩ := z_ok ho hm (Or.inl h)
      exact ⟨by omega, b⟩
    · obtain ⟨a, b⟩ := z_ok ho hm (Or.inr (Or.inl h))
      exact ⟨by omega, b⟩
    · obtain ⟨a, b⟩ := z_ok ho hm (Or.inr (Or.inr (Or.inl h)))
      exact ⟨by omega, b⟩
    · obtain ⟨a, b⟩ := z_ok ho hm (Or.inr (Or.inr (Or.inr (Or.inl h))))
      exact ⟨by omega, b⟩
    · obtain ⟨a, b⟩ := z_ok ho hm (Or.inr (Or.inr (Or.inr (Or.inr h))))
      exact ⟨by omega, b⟩
  · rintro ⟨h1, h2⟩
    rcases Nat.lt_or_ge (own x) m with c | c
    · exact Or.inl (Or.inl (Or.inl (Or.inl (Or.inl ⟨c, h2⟩))))
    · rcases z_all hx (show own x = m by omega) h2 with h | h | h | h | h
      · exact Or.inl (Or.inl (Or.inl (Or.inl (Or.inr h))))
      · exact Or.inl (Or.inl (Or.inl (Or.inr h)))
      · exact Or.inl (Or.inl (Or.inr h))
      · exact Or.inl (Or.inr h)
      · exact Or.inr h
theorem g0_m {D : Sc} {m : Nat} (hm : m < 6) : g0 D m m = false := by
  unfold g0
  rw [(own_r (x := m)).1 hm, decide_eq_false (by omega)]
  rfl
theorem orb_no {p : Nat → Bool} {k : Nat} (h : ∀ i, i < k → p i = false) : orb p k = false := by
  cases e : orb p k
  · rfl
  · obtain ⟨i, hi, h2⟩ := (orb_iff k).mp e
    rw [h i hi] at h2
    exact absurd h2 (by decide)
theorem g3_m {D : Sc} {m t : Nat} (hm : m < 6) (ht : t < 3) : g3 D m t (21 + 3 * m + t) = false := by
  have h4 := off_4 m hm
  unfold g3 g2 g1 g0
  rw [(own_r (x := 21 + 3 * m + t)).2.2.1 (by omega), decide_eq_false (by omega), orb_no (fun i hi => ?_), orb_no (fun i hi => ?_)]
  · unfold zM
    rw [decide_eq_false (by omega)]
    rfl
  · unfold zC
    rw [decide_eq_false (by omega)]
    rfl
  · unfold zJ
    rw [decide_eq_false (by omega)]
    rfl
/-! rows of what is had -/
def BO (s : Nat) (f0 f : Nat → Int32) (g : Nat → Bool) : Prop := (∀ k, k < 90 → f (90 * s + k) = bI (g k)) ∧ ∀ j, (j < 90 * s ∨ 90 * s + 90 ≤ j) → f j = f0 j
theorem BO_cong {s : Nat} {f0 f : Nat → Int32} {g h : Nat → Bool} (hb : BO s f0 f g) (hg : ∀ x, x < 90 → g x = h x) : BO s f0 f h := ⟨fun k hk => by rw [hb.1 k hk, hg k hk], hb.2⟩
theorem BO_or {s c : Nat} {f0 f : Nat → Int32} {g : Nat → Bool} {v : Int32} {b : Bool} (hb : BO s f0 f g) (hc : c < 90) (hv : v = bI (g c || b)) : BO s f0 (upd f (90 * s + c) v) (fun x => g x || (decide (x = c) && b)) := by
  refine ⟨fun k hk => ?_, fun j hj => ?_⟩
  · show upd f (90 * s + c) v (90 * s + k) = bI (g k || (decide (k = c) && b))
    rw [upd_at]
    by_cases e : k = c
    · subst e
      rw [if_pos rfl, hv, decide_eq_true rfl, Bool.true_and]
    · rw [if_neg (by omega), hb.1 k hk, decide_eq_false e, Bool.false_and, Bool.or_false]
  · rw [upd_at, if_neg (by omega)]
    exact hb.2 j hj
