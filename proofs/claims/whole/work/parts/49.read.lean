/-! reading a text: what is read; the class's reader -/
/-- the sign at a place; 256: the end -/
def hd (t : Nat → Nat) (N p : Nat) : Nat := if p < N then t p else 256
/-- marks, one after another -/
def rt (t : Nat → Nat) (N : Nat) : Nat → Nat → Nat → Nat → Nat × Nat
  | 0, _, p, b => (b, p)
  | j + 1, m, p, b => if hd t N p = 97 + m then rt t N j (m + 1) (p + 1) (b + 2 ^ m) else rt t N j (m + 1) p b
def tH (t : Nat → Nat) (N p : Nat) : Nat × Nat := if (rt t N 6 0 p 0).1 = 0 then rt t N 6 0 p 0 else if hd t N (rt t N 6 0 p 0).2 = 42 then ((rt t N 6 0 p 0).1 + 64, (rt t N 6 0 p 0).2 + 1) else rt t N 6 0 p 0
def rdT (t : Nat → Nat) (N : Nat) : Nat → List Nat → Nat → Bool × List Nat × Nat
  | 0, l, p => (true, l, p)
  | j + 1, l, p => if (tH t N p).1 = 0 then (false, l, (tH t N p).2) else if j ≠ 0 ∧ hd t N (tH t N p).2 = 44 then rdT t N j (l ++ [(tH t N p).1]) ((tH t N p).2 + 1) else (true, l ++ [(tH t N p).1], (tH t N p).2)
/-- a doing: what is read of it, where -/
def rD (t : Nat → Nat) (N tc p : Nat) : Option (Nat × Nat × Nat) × Nat :=
  if 48 ≤ hd t N p ∧ hd t N p < 48 + tc then
    if 120 ≤ hd t N (p + 1) ∧ hd t N (p + 1) < 123 then
      if (48 ≤ hd t N (p + 2) ∧ hd t N (p + 2) < 48 + tc) ∧ hd t N (p + 2) ≠ hd t N p then (some (hd t N p - 48, hd t N (p + 1) - 120, hd t N (p + 2) - 48), p + 3)
      else (none, p + 2)
    else (none, p + 1)
  else (none, p)
def rdD (t : Nat → Nat) (N tc : Nat) : Nat → List (Nat × Nat × Nat) → Nat → Bool × List (Nat × Nat × Nat) × Nat
  | 0, l, p => (true, l, p)
  | j + 1, l, p => match (rD t N tc p).1 with
    | none => (false, l, (rD t N tc p).2)
    | some x => if j ≠ 0 ∧ hd t N (rD t N tc p).2 = 44 then rdD t N tc j (l ++ [x]) ((rD t N tc p).2 + 1) else (true, l ++ [x], (rD t N tc p).2)
def rdS (t : Nat → Nat) (N : Nat) : Bool × List Nat × List (Nat × Nat × Nat) × Nat :=
  if (rdT t N 4 [] 0).1 = false then (false, (rdT t N 4 [] 0).2.1, [], (rdT t N 4 [] 0).2.2)
  else if (rdT t N 4 [] 0).2.2 = N then (true, (rdT t N 4 [] 0).2.1, [], (rdT t N 4 [] 0).2.2)
  else if hd t N (rdT t N 4 [] 0).2.2 = 59 then ((rdD t N (rdT t N 4 [] 0).2.1.length 3 [] ((rdT t N 4 [] 0).2.2 + 1)).1 && decide ((rdD t N (rdT t N 4 [] 0).2.1.length 3 [] ((rdT t N 4 [] 0).2.2 + 1)).2.2 = N), (rdT t N 4 [] 0).2.1, (rdD t N (rdT t N 4 [] 0).2.1.length 3 [] ((rdT t N 4 [] 0).2.2 + 1)).2.1, (rdD t N (rdT t N 4 [] 0).2.1.length 3 [] ((rdT t N 4 [] 0).2.2 + 1)).2.2)
  else (false, (rdT t N 4 [] 0).2.1, [], (rdT t N 4 [] 0).2.2)
/-! bounds -/
theorem hd_lt {t : Nat → Nat} {N p : Nat} (h : hd t N p < 256) : p < N ∧ hd t N p = t p := by
  unfold hd at h ⊢
  by_cases c : p < N
  · rw [if_pos c]
    exact ⟨c, rfl⟩
  · rw [if_neg c] at h
    omega
theorem rt_ok {t : Nat → Nat} {N : Nat} : ∀ (j m p b : Nat), b < 2 ^ m → p ≤ N → m + j ≤ 6 → (rt t N j m p b).1 < 2 ^ (m + j) ∧ (rt t N j m p b).2 ≤ N
  | 0, m, p, b, hb, hp, _ => ⟨hb, hp⟩
  | j + 1, m, p, b, hb, hp, hm => by
    rw [rt]
    have h2 : 2 ^ (m + 1) = 2 * 2 ^ m := by rw [Nat.pow_succ]; omega
    by_cases c : hd t N p = 97 + m
    · rw [if_pos c]
      have h1 := hd_lt (t := t) (N := N) (p := p) (by omega)
      have h := rt_ok (t := t) (N := N) j (m + 1) (p + 1) (b + 2 ^ m) (by omega) (by omega) (by omega)
      rw [show m + (j + 1) = m + 1 + j by omega]
      exact h
    · rw [if_neg c]
      have h := rt_ok (t := t) (N := N) j (m + 1) p b (by omega) (by omega) (by omega)
      rw [show m + (j + 1) = m + 1 + j by omega]
      exact h
theorem tH_ok {t : Nat → Nat} {N p : Nat} (hp : p ≤ N) : (tH t N p).1 < 128 ∧ (tH t N p).2 ≤ N := by
  have h := rt_ok (t := t) (N := N) 6 0 p 0 (by decide) hp (by decide)
  unfold tH
  split
  · exact ⟨Nat.lt_of_lt_of_le h.1 (by decide), h.2⟩
  · split
    · rename_i c
      have h1 := hd_lt (t := t) (N := N) (p := (rt t N 6 0 p 0).2) (by omega)
      have h2 : (rt t N 6 0 p 0).1 < 64 := h.1
      exact ⟨by show _ + 64 < 128; omega, by show _ + 1 ≤ N; omega⟩
    · exact ⟨Nat.lt_of_lt_of_le h.1 (by decide), h.2⟩
theorem rdT_ok {t : Nat → Nat} {N : Nat} : ∀ (j : Nat) (l : List Nat) (p : Nat), p ≤ N → l.length + j ≤ 4 → (∀ x, x ∈ l → x < 128) → (rdT t N j l p).2.2 ≤ N ∧ (rdT t N j l p).2.1.length ≤ 4 ∧ ∀ x, x ∈ (rdT t N j l p).2.1 → x < 128
  | 0, l, p, hp, hl, hx => ⟨hp, by rw [rdT]; omega, hx⟩
  | j + 1, l, p, hp, hl, hx => by
    have h := tH_ok (t := t) hp
    have hx2 : ∀ x, x ∈ l ++ [(tH t N p).1] → x < 128 := by
      intro x hm
      rcases List.mem_append.mp hm with h3 | h3
      · exact hx x h3
      · rw [List.mem_singleton.mp h3]
        exact h.1
    rw [rdT]
    split
    · exact ⟨h.2, by show l.length ≤ 4; omega, hx⟩
    · split
      · rename_i c
        have h1 := hd_lt (t := t) (N := N) (p := (tH t N p).2) (by omega)
        exact rdT_ok j _ _ (by omega) (by rw [List.length_append, List.length_singleton]; omega) hx2
      · exact ⟨h.2, by show (l ++ [(tH t N p).1]).length ≤ 4; rw [List.length_append, List.length_singleton]; omega, hx2⟩
theorem rD_ok {t : Nat → Nat} {N tc p : Nat} (ht : tc ≤ 4) (hp : p ≤ N) : (rD t N tc p).2 ≤ N ∧ ∀ x, (rD t N tc p).1 = some x → x.1 < tc ∧ x.2.1 < 3 ∧ x.2.2 < tc := by
  unfold rD
  split
  · rename_i c1
    have h1 := hd_lt (t := t) (N := N) (p := p) (by omega)
    split
    · rename_i c2
      have h2 := hd_lt (t := t) (N := N) (p := p + 1) (by omega)
      split
      · rename_i c3
        have h3 := hd_lt (t := t) (N := N) (p := p + 2) (by omega)
        refine ⟨by show p + 3 ≤ N; omega, fun x hx => ?_⟩
        cases hx
        exact ⟨by show _ - 48 < tc; omega, by show _ - 120 < 3; omega, by show _ - 48 < tc; omega⟩
      · exact ⟨by show p + 2 ≤ N; omega, fun x hx => by cases hx⟩
    · exact ⟨by show p + 1 ≤ N; omega, fun x hx => by cases hx⟩
  · exact ⟨hp, fun x hx => by cases hx⟩
theorem rdD_ok {t : Nat → Nat} {N tc : Nat} (ht : tc ≤ 4) : ∀ (j : Nat) (l : List (Nat × Nat × Nat)) (p : Nat), p ≤ N → l.length + j ≤ 3 → (∀ x, x ∈ l → x.1 < tc ∧ x.2.1 < 3 ∧ x.2.2 < tc) → (rdD t N tc j l p).2.2 ≤ N ∧ (rdD t N tc j l p).2.1.length ≤ 3 ∧ ∀ x, x ∈ (rdD t N tc j l p).2.1 → x.1 < tc ∧ x.2.1 < 3 ∧ x.2.2 < tc
  | 0, l, p, hp, hl, hx => ⟨hp, by rw [rdD]; omega, hx⟩
  | j + 1, l, p, hp, hl, hx => by
    have h := rD_ok (t := t) (N := N) (tc := tc) ht hp
    rw [rdD]
    cases e : (rD t N tc p).1 with
    | none => exact ⟨h.1, by show l.length ≤ 3; omega, hx⟩
    | some y =>
      have hx2 : ∀ x, x ∈ l ++ [y] → x.1 < tc ∧ x.2.1 < 3 ∧ x.2.2 < tc := by
        intro x hm
        rcases List.mem_append.mp hm with h3 | h3
        · exact hx x h3
        · rw [List.mem_singleton.mp h3]
          exact h.2 y e
      dsimp only
      split
      · rename_i c
        have h1 := hd_lt (t := t) (N := N) (p := (rD t N tc p).2) (by omega)
        exact rdD_ok ht j _ _ (by omega) (by rw [List.length_append, List.length_singleton]; omega) hx2
      · exact ⟨h.1, by show (l ++ [y]).length ≤ 3; rw [List.length_append, List.length_singleton]; omega, hx2⟩
theorem rdS_ok {t : Nat → Nat} {N : Nat} : (rdS t N).2.2.2 ≤ N ∧ (rdS t N).2.1.length ≤ 4 ∧ (rdS t N).2.2.1.length ≤ 3 ∧ (∀ x, x ∈ (rdS t N).2.1 → x < 128) ∧ ∀ x, x ∈ (rdS t N).2.2.1 → x.1 < (rdS t N).2.1.length ∧ x.2.1 < 3 ∧ x.2.2 < (rdS t N).2.1.length := by
  have h := rdT_ok (t := t) (N := N) 4 [] 0 (Nat.zero_le N) (by decide) (fun x hx => by cases hx)
  unfold rdS
  split
  · exact ⟨h.1, h.2.1, Nat.zero_le 3, h.2.2, fun x hx => by cases hx⟩
  · split
    · exact ⟨h.1, h.2.1, Nat.zero_le 3, h.2.2, fun x hx => by cases hx⟩
    · split
      · rename_i c
        have h1 := hd_lt (t := t) (N := N) (p := (rdT t N 4 [] 0).2.2) (by omega)
        have h2 := rdD_ok (t := t) (N := N) h.2.1 3 [] ((rdT t N 4 [] 0).2.2 + 1) (by omega) (by decide) (fun x hx => by cases hx)
        exact ⟨h2.1, h.2.1, h2.2.1, h.2.2, h2.2.2⟩
      · exact ⟨h.1, h.2.1, Nat.zero_le 3, h.2.2, fun x hx => by cases hx⟩
/-- the scene of two lists -/
def scO (tl : List Nat) (dl : List (Nat × Nat × Nat)) : Sc := (tl.length, fun i => tl.getD i 0, dl.length, fun i => (dl.getD i (0, 0, 0)).1, fun i => (dl.getD i (0, 0, 0)).2.1, fun i => (dl.getD i (0, 0, 0)).2.2)
theorem getD_memG {α : Type} {l : List α} {z : α} {i : Nat} (h : i < l.length) : l.getD i z ∈ l := by
  rw [List.getD_eq_getElem?_getD, List.getElem?_eq_getElem h]
  exact List.getElem_mem h
theorem getD_app {α : Type} {l : List α} {x z : α} {i : Nat} (h : i < l.length + 1) : (l ++ [x]).getD i z = if i < l.length then l.getD i z else x := by
  by_cases c : i < l.length
  · rw [if_pos c, List.getD_eq_getElem?_getD, List.getD_eq_getElem?_getD, List.getElem?_append_left c]
  · have : i = l.length := by omega
    subst this
    rw [if_neg c, List.getD_eq_getElem?_getD, List.getElem?_append_right (Nat.le_refl _), Nat.sub_self]
    rfl
theorem scO_ok {tl : List Nat} {dl : List (Nat × Nat × Nat)} (h1 : tl.length ≤ 4) (h2 : dl.length ≤ 3) (h3 : ∀ x, x ∈ tl → x < 128) (h4 : ∀ x, x ∈ dl → x.1 < tl.length ∧ x.2.1 < 3 ∧ x.2.2 < tl.length) : okS (scO tl dl) :=
  ⟨h1, h2, fun i hi => h3 _ (getD_memG hi), fun i hi => h4 _ (getD_memG hi)⟩
/-! cells behind the fixed ones -/
theorem nth_app {α : Type} {X : List α} : ∀ (P : List α) (i : Nat), mm_nth (P ++ X) (P.length + i) = mm_nth X i
  | [], i => by rw [List.nil_append, List.length_nil, Nat.zero_add]
  | a :: P, i => by
    rw [List.length_cons, show P.length + 1 + i = (P.length + i) + 1 by omega]
    exact nth_app P i
theorem set_app {α : Type} {X : List α} {v : α} : ∀ (P : List α) (i : Nat), mm_set (P ++ X) (P.length + i) v = P ++ mm_set X i v
  | [], i => by rw [List.nil_append, List.length_nil, Nat.zero_add]; rfl
  | a :: P, i => by
    rw [List.length_cons, show P.length + 1 + i = (P.length + i) + 1 by omega]
    exact congrArg (a :: ·) (set_app P i)
def SCc (p tc dc : Nat) (f g : Nat → Int32) : mm_M := [.inr (3, [.ref (p + 57), .ref (p + 58), .int (nI tc), .int (nI dc)]), .inl (0, 4, .inl f), .inl (0, 3, .inl g)]
section M26
variable {L : Nat} {xs : Nat → Int32} {A I : Nat → Nat → Int32} {F : Nat → Nat → Option Nat} {P : mm_M}
theorem nth_gm (p : Nat) : mm_nth (gm L xs A I F P) (p + 56) = mm_nth P p := rfl
theorem set_gm (p : Nat) (v : va_E) : mm_set (gm L xs A I F P) (p + 56) v = gm L xs A I F (mm_set P p v) := rfl
theorem sc_0 {p tc dc : Nat} {f g : Nat → Int32} (hp : p = P.length) : mm_nth (gm L xs A I F (P ++ SCc p tc dc f g)) (p + 56) = some (.inr (3, [.ref (p + 57), .ref (p + 58), .int (nI tc), .int (nI dc)])) := by
  subst hp
  rw [nth_gm]
  exact nth_app P 0
theorem sc_1 {p tc dc : Nat} {f g : Nat → Int32} (hp : p = P.length) : mm_nth (gm L xs A I F (P ++ SCc p tc dc f g)) (p + 57) = some (.inl (0, 4, .inl f)) := by
  subst hp
  exact nth_app P 1
theorem sc_2 {p tc dc : Nat} {f g : Nat → Int32} (hp : p = P.length) : mm_nth (gm L xs A I F (P ++ SCc p tc dc f g)) (p + 58) = some (.inl (0, 3, .inl g)) := by
  subst hp
  exact nth_app P 2
theorem ss_0 {p : Nat} {X : mm_M} {v : va_E} (hp : p = P.length) : mm_set (gm L xs A I F (P ++ X)) (p + 56) v = gm L xs A I F (P ++ mm_set X 0 v) := by
  subst hp
  rw [set_gm]
  exact congrArg _ (set_app P 0)
theorem ss_1 {p : Nat} {X : mm_M} {v : va_E} (hp : p = P.length) : mm_set (gm L xs A I F (P ++ X)) (p + 57) v = gm L xs A I F (P ++ mm_set X 1 v) := by
  subst hp
  exact congrArg (gm L xs A I F) (set_app P 1)
theorem ss_2 {p : Nat} {X : mm_M} {v : va_E} (hp : p = P.length) : mm_set (gm L xs A I F (P ++ X)) (p + 58) v = gm L xs A I F (P ++ mm_set X 2 v) := by
  subst hp
  exact congrArg (gm L xs A I F) (set_app P 2)
theorem ble6 (p k : Nat) (h : 6 ≤ k) : Nat.ble 6 (p + k) = true := Nat.ble_eq_true_of_le (by omega)
theorem c_addThing (d : Nat) {p tc dc : Nat} {f g : Nat → Int32} (hp : p = P.length) (ht : tc < 4) (v : Int32) : sp (d + 1) 28 [.ref (p + 56), .int v] (gm L xs A I F (P ++ SCc p tc dc f g)) (fun r m => r = none ∧ m = gm L xs A I F (P ++ SCc p (tc + 1) dc (upd f tc v) g)) := by
  have ix := ix_n (w := tc) (N := 4) (by decide) ht
  refine ⟨⟨_, sc_0 hp⟩, rfl, mm_WP.go [1] 20 (w_gf rfl (sc_0 hp) rfl (mm_WP.go [5] 20 (w_gf rfl (sc_0 hp) rfl (w_al rfl (sc_1 hp) ?_))))⟩
  refine mm_WP.go [13] 20 (lp_ge (k := tc) (N := 4) rfl rfl (by decide) (by omega) (fun h => absurd h (by omega)) (fun _ => ?_))
  refine w_gf rfl (sc_0 hp) rfl (mm_WP.go [17] 20 (w_gf rfl (sc_0 hp) rfl (mm_WP.go [21] 20 (w_is rfl (ble6 p 57 (by decide)) (sc_1 hp) ix.1 ?_))))
  rw [ss_1 hp, ix.2]
  refine mm_WP.go [24] 20 (w_gf rfl (sc_0 (f := upd f tc v) hp) rfl (mm_WP.go [29] 20 (w_pf rfl (sc_0 (f := upd f tc v) hp) rfl ?_)))
  refine mm_WP.go [] 20 ⟨rfl, ?_⟩
  rw [ss_0 hp, nI_1]
  rfl
theorem c_addDoing (d : Nat) {p tc dc : Nat} {f g : Nat → Int32} (hp : p = P.length) (ht : dc < 3) (v : Int32) : sp (d + 1) 29 [.ref (p + 56), .int v] (gm L xs A I F (P ++ SCc p tc dc f g)) (fun r m => r = none ∧ m = gm L xs A I F (P ++ SCc p tc (dc + 1) f (upd g dc v))) := by
  have ix := ix_n (w := dc) (N := 3) (by decide) ht
  refine ⟨⟨_, sc_0 hp⟩, rfl, mm_WP.go [1] 20 (w_gf rfl (sc_0 hp) rfl (mm_WP.go [5] 20 (w_gf rfl (sc_0 hp) rfl (w_al rfl (sc_2 hp) ?_))))⟩
  refine mm_WP.go [13] 20 (lp_ge (k := dc) (N := 3) rfl rfl (by decide) (by omega) (fun h => absurd h (by omega)) (fun _ => ?_))
  refine w_gf rfl (sc_0 hp) rfl (mm_WP.go [17] 20 (w_gf rfl (sc_0 hp) rfl (mm_WP.go [21] 20 (w_is rfl (ble6 p 58 (by decide)) (sc_2 hp) ix.1 ?_))))
  rw [ss_2 hp, ix.2]
  refine mm_WP.go [24] 20 (w_gf rfl (sc_0 (g := upd g dc v) hp) rfl (mm_WP.go [29] 20 (w_pf rfl (sc_0 (g := upd g dc v) hp) rfl ?_)))
  refine mm_WP.go [] 20 ⟨rfl, ?_⟩
  rw [ss_0 hp, nI_1]
  rfl
/-- the class's text -/
def TXc (t : Nat → Nat) (N : Nat) (A I : Nat → Nat → Int32) : Prop := N ≤ 40 ∧ I 7 1 = nI N ∧ ∀ i, i < N → A 8 i = nI (t i) ∧ t i < 256
abbrev gP (L : Nat) (xs : Nat → Int32) (A I : Nat → Nat → Int32) (F : Nat → Nat → Option Nat) (P : mm_M) (p : Nat) : mm_M := gm L xs A (uI I 7 2 (nI p)) F P
theorem c_takeOneOf (d : Nat) {t : Nat → Nat} {N p a k : Nat} {lo : Int32} (hT : TXc t N A I) (hp : p ≤ N) (hak : a + k ≤ 256) : sp (d + 1) 43 [.ref 7, .int (nI a), .int (nI k), .int lo] (gP L xs A I F P p) (fun r m => (((a ≤ hd t N p ∧ hd t N p < a + k) ∧ ¬ nI (hd t N p - a) = lo) ∧ r = some (.int (nI (hd t N p - a))) ∧ m = gP L xs A I F P (p + 1)) ∨ (¬ ((a ≤ hd t N p ∧ hd t N p < a + k) ∧ ¬ nI (hd t N p - a) = lo) ∧ r = some (.int (-1)) ∧ m = gP L xs A I F P p)) := by
  obtain ⟨hN, hI, hA⟩ := hT
  refine ⟨⟨_, rfl⟩, rfl, ?_⟩
  rcases Nat.lt_or_ge p N with h | h
  · have e : hd t N p = t p := by unfold hd; rw [if_pos h]
    have ix := ix_n (w := p) (N := 40) (by decide) (by omega)
    obtain ⟨b1, b2⟩ := hA p h
    refine mm_WP.go [36] 40 (lp_ge (k := p) (N := N) rfl hI (by omega) (by omega) (fun h => absurd h (by omega)) (fun _ => ⟨fun _ => ⟨ix.1, ?_⟩, fun c => absurd (nI_lt (b := 40) (show p < 40 by omega) (by decide)) c⟩))
    show wp d (mm_Al 43) cd_Text_takeOneOf _ 36 _ [.int (A 8 ((nI p).toNatClampNeg) - nI a)] _
    rw [ix.2, b1, e]
    rcases Nat.lt_or_ge (t p) a with h2 | h2
    · refine mm_WP.go [] 40 ⟨fun _ => Or.inr ⟨fun z => by omega, rfl, rfl⟩, fun c => absurd (pk_sneg (by omega) h2) c⟩
    · rw [pk_sub h2]
      refine mm_WP.go [] 40 ⟨fun c => absurd c (nI_pos (by omega)), fun _ => ⟨fun c => ?_, fun c => ⟨fun c2 => ⟨trivial, ?_⟩, fun c2 => ?_⟩⟩⟩
      · rw [nI_leI (by omega) (by omega)] at c
        exact Or.inr ⟨fun z => by omega, rfl, rfl⟩
      · rw [nI_leI (by omega) (by omega)] at c
        refine Or.inl ⟨⟨⟨h2, by omega⟩, c2⟩, rfl, ?_⟩
        unfold gP
        rw [← nI_1]
        rfl
      · exact Or.inr ⟨fun z => z.2 c2, rfl, rfl⟩
  · have e : hd t N p = 256 := by unfold hd; rw [if_neg (by omega)]
    refine mm_WP.go [] 40 (lp_ge (k := p) (N := N) rfl hI (by omega) (by omega) (fun _ => ?_) (fun h => absurd h (by omega)))
    exact Or.inr ⟨fun z => by omega, rfl, rfl⟩
theorem c_take (d : Nat) {t : Nat → Nat} {N p a : Nat} (hT : TXc t N A I) (hp : p ≤ N) (ha : a < 256) : sp (d + 2) 42 [.ref 7, .int (nI a)] (gP L xs A I F P p) (fun r m => (hd t N p = a ∧ r = some (.int 1) ∧ m = gP L xs A I F P (p + 1)) ∨ (¬ hd t N p = a ∧ r = some (.int 0) ∧ m = gP L xs A I F P p)) := by
  refine ⟨⟨_, rfl⟩, rfl, mm_WP.go [] 40 ⟨_, c_takeOneOf (a := a) (k := 1) (lo := -1) d hT hp (by omega), ?_⟩⟩
  rintro r m (⟨⟨h1, h2⟩, rfl, rfl⟩ | ⟨h, rfl, rfl⟩)
  · have e : hd t N p = a := by omega
    rw [e, Nat.sub_self]
    exact ⟨fun c => absurd rfl c, fun _ => ⟨rfl, Or.inl ⟨rfl, rfl, rfl⟩⟩⟩
  · refine ⟨fun _ => ⟨rfl, Or.inr ⟨fun e => h ⟨by omega, ?_⟩, rfl, rfl⟩⟩, fun c => absurd c (by decide)⟩
    rw [e, Nat.sub_self]
    decide
abbrev gC (L : Nat) (xs : Nat → Int32) (A I : Nat → Nat → Int32) (F : Nat → Nat → Option Nat) (P : mm_M) (p tc dc : Nat) (f g : Nat → Int32) : mm_M := gP L xs A I F (P ++ SCc P.length tc dc f g) p
theorem c_rt_loop {d : Nat} {B : Nat × Nat} {Q : mm_Q} {t : Nat → Nat} {N r : Nat} (hT : TXc t N A I) (K : Nat × Nat) (hq : ∀ u, wp (d + 2) B cd_Text_readThing Q 33 [some (.ref 7), some (.ref r), some (.int (nI K.1)), some (.int u)] [] (gP L xs A I F P K.2)) :
    ∀ (j m p b : Nat) (x y : Int32), m + j = 6 → b < 2 ^ m → p ≤ N → x = nI m → y = nI b → rt t N j m p b = K → wp (d + 2) B cd_Text_readThing Q 4 [some (.ref 7), some (.ref r), some (.int y), some (.int x)] [] (gP L xs A I F P p) := by
  intro j
  induction j with
  | zero =>
    intro m p b x y hm hb hp hx hy hK
    refine mm_WP.go [4, 33] 40 (lp_ge (N := 6) hx rfl (by decide) (by omega) (fun h => ?_) (fun h => absurd h (by omega)))
    rw [rt] at hK
    subst hK
    rw [hy]
    exact hq _
  | succ j ih =>
    intro m p b x y hm hb hp hx hy hK
    subst hx
    subst hy
    rw [rt] at hK
    have h2 : 2 ^ (m + 1) = 2 * 2 ^ m := by rw [Nat.pow_succ]; omega
    have ht := c_take (L := L) (xs := xs) (F := F) (P := P) (a := 97 + m) d hT hp (by omega)
    rw [← nI_add] at ht
    refine mm_WP.go [4, 33] 40 (lp_ge (k := m) (N := 6) rfl rfl (by decide) (by omega) (fun h => absurd h (by omega)) (fun _ => ⟨_, ht, ?_⟩))
    rintro r2 m2 (⟨h, rfl, rfl⟩ | ⟨h, rfl, rfl⟩)
    · have h1 := hd_lt (t := t) (N := N) (p := p) (by omega)
      rw [if_pos h] at hK
      refine e1 (ih (m + 1) (p + 1) (b + 2 ^ m) _ _ (by omega) (by omega) (by omega) (nI_1 m) ?_ hK)
      rw [sh_one m (by omega), Int32.or_comm]
      have := fa_or_sum 1 hb
      rw [Nat.mul_one] at this
      rw [this, Nat.add_comm]
    · rw [if_neg h] at hK
      exact e0 (ih (m + 1) p b _ _ (by omega) (by omega) (by omega) (nI_1 m) rfl hK)
theorem or64 : ∀ b, b < 64 → nI b ||| 64 = nI (b + 64) := by decide +kernel
theorem c_readThing (d : Nat) {t : Nat → Nat} {N p tc dc : Nat} {f g : Nat → Int32} (hT : TXc t N A I) (hp : p ≤ N) (ht : tc < 4) : sp (d + 3) 41 [.ref 7, .ref (P.length + 56)] (gC L xs A I F P p tc dc f g) (fun r m => ((tH t N p).1 = 0 ∧ r = some (.int 0) ∧ m = gC L xs A I F P (tH t N p).2 tc dc f g) ∨ (¬ (tH t N p).1 = 0 ∧ r = some (.int 1) ∧ m = gC L xs A I F P (tH t N p).2 (tc + 1) dc (upd f tc (nI (tH t N p).1)) g)) := by
  have hrt := rt_ok (t := t) (N := N) 6 0 p 0 (by decide) hp (by decide)
  refine ⟨⟨_, rfl⟩, rfl, mm_WP.go [4] 40 ?_⟩
  refine c_rt_loop hT (rt t N 6 0 p 0) (fun u => ?_) 6 0 p 0 _ _ rfl (by decide) hp rfl rfl rfl
  have hlt : (rt t N 6 0 p 0).1 < 64 := hrt.1
  unfold tH
  generalize rt t N 6 0 p 0 = K at *
  by_cases c : K.1 = 0
  · rw [if_pos c]
    refine mm_WP.go [] 40 ⟨fun c2 => ?_, fun _ => ⟨rfl, Or.inl ⟨c, rfl, rfl⟩⟩⟩
    rw [c] at c2
    exact absurd rfl c2
  · rw [if_neg c]
    refine mm_WP.go [] 40 ⟨fun _ => ⟨_, c_take (P := P ++ SCc P.length tc dc f g) (a := 42) d hT hrt.2 (by decide), ?_⟩, fun c2 => ?_⟩
    · rintro r m (⟨h, rfl, rfl⟩ | ⟨h, rfl, rfl⟩)
      · rw [if_pos h]
        refine e1 (ca (c_addThing (I := uI I 7 2 (nI (K.2 + 1))) (d + 1) rfl ht _) ⟨rfl, Or.inr ⟨?_, rfl, ?_⟩⟩)
        · show ¬ K.1 + 64 = 0
          omega
        · rw [or64 _ hlt]
      · rw [if_neg h]
        exact e0 (ca (c_addThing (I := uI I 7 2 (nI K.2)) (d + 1) rfl ht _) ⟨rfl, Or.inr ⟨c, rfl, rfl⟩⟩)
    · exact absurd c2 (nI_ne0 (by omega) (by omega))
end M26
