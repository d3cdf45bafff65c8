/-! chance -/
theorem lcmp_z {a : Nat} (ha : a < 2 ^ 63) : (lg_cmp (lN a) 0 = 0) ↔ a = 0 := by
  have h : (lg_cmp (lN a) 0 = 0) ↔ (lN a = 0) := by
    unfold lg_cmp
    by_cases h1 : lN a > 0
    · rw [if_pos h1]
      refine ⟨fun c => absurd c (by decide), fun c => ?_⟩
      rw [c] at h1
      exact absurd h1 (by decide)
    · rw [if_neg h1]
      by_cases h2 : lN a = 0
      · rw [if_pos h2]
        exact ⟨fun _ => h2, fun _ => rfl⟩
      · rw [if_neg h2]
        exact ⟨fun c => absurd c (by decide), fun c => absurd c h2⟩
  rw [h, fa_eq64, pf_lI ha, show (0 : Int64).toInt = 0 from rfl]
  omega
theorem lN_nz {a : Nat} (ha : a < 2 ^ 63) (h : a ≠ 0) : ¬ lN a = 0 := by
  rw [fa_eq64, pf_lI ha, show (0 : Int64).toInt = 0 from rfl]
  omega
theorem gcd_step (x y : Nat) : Nat.gcd y (x % y) = Nat.gcd x y := by
  rw [Nat.gcd_comm x y, Nat.gcd_rec y x, Nat.gcd_comm]
section M10
variable {L : Nat} {xs : Nat → Int32} {A I : Nat → Nat → Int32} {F : Nat → Nat → Option Nat} {P : mm_M} {n : Nat} {H S : Nat → Nat → Bool}
theorem c_gcd_head {d : Nat} {B : Nat × Nat} {Q : mm_Q} {mem : mm_M} {a b : Int64} {i x y : Nat} (hx : x < 2 ^ 63) (hy : y < 2 ^ 63) (hi : i ≤ 200) (hz : y = 0 → Q (some (.long (lN x))) mem) (hl : y ≠ 0 → i < 200) {u : Option Value}
    (hs : y ≠ 0 → wp d B cd_Likely_commonDivisor Q 9 [some (.long a), none, some (.long b), none, some (.long (lN y)), none, some (.long (lN (x % y))), none, some (.int (nI (i + 1))), some (.long (lN (x % y))), none] [] mem) :
    wp d B cd_Likely_commonDivisor Q 9 [some (.long a), none, some (.long b), none, some (.long (lN x)), none, some (.long (lN y)), none, some (.int (nI i)), u, none] [] mem := by
  refine mm_WP.go [9] 100 (lp_ge (N := 200) (k := i) rfl rfl (by omega) hi (fun h => ?_) (fun h => ⟨fun c => ?_, fun c => ?_⟩))
  · by_cases h0 : y = 0
    · exact hz h0
    · exact absurd (hl h0) (by omega)
  · exact hz ((lcmp_z hy).mp c)
  · have h0 : y ≠ 0 := fun h => c ((lcmp_z hy).mpr h)
    refine ⟨lN_nz hy h0, ?_⟩
    have h1 := hs h0
    rw [← nI_1] at h1
    rw [pk_lRem hx (by omega) hy]
    exact h1
theorem c_gcd_loop {d : Nat} {B : Nat × Nat} {Q : mm_Q} {mem : mm_M} {a b : Int64} : ∀ (f i x y : Nat) (u : Option Value), x < 2 ^ 63 → y < 2 ^ 63 → y < 2 ^ f → i + 2 * f ≤ 200 → Q (some (.long (lN (Nat.gcd x y)))) mem → wp d B cd_Likely_commonDivisor Q 9 [some (.long a), none, some (.long b), none, some (.long (lN x)), none, some (.long (lN y)), none, some (.int (nI i)), u, none] [] mem
  | 0, i, x, y, u, hx, hy, hf, hi, hq => by
    have h0 : y = 0 := by omega
    subst h0
    rw [Nat.gcd_zero_right] at hq
    exact c_gcd_head hx hy (by omega) (fun _ => hq) (fun h => absurd rfl h) (fun h => absurd rfl h)
  | f + 1, i, x, y, u, hx, hy, hf, hi, hq => by
    refine c_gcd_head hx hy (by omega) (fun h => ?_) (fun _ => by omega) (fun h => ?_)
    · subst h
      rw [Nat.gcd_zero_right] at hq
      exact hq
    · have hr : x % y < y := Nat.mod_lt _ (by omega)
      rw [← gcd_step] at hq
      refine c_gcd_head hy (by omega) (by omega) (fun h1 => ?_) (fun _ => by omega) (fun h1 => ?_)
      · rw [h1, Nat.gcd_zero_right] at hq
        exact hq
      · have hr2 : y % (x % y) < x % y := Nat.mod_lt _ (by omega)
        have hr3 : 2 * (y % (x % y)) < y := by
          have h4 := Nat.div_add_mod y (x % y)
          have h5 : 1 ≤ y / (x % y) := (Nat.one_le_div_iff (by omega)).mpr (by omega)
          have h6 : (x % y) * 1 ≤ (x % y) * (y / (x % y)) := Nat.mul_le_mul_left _ h5
          omega
        rw [← gcd_step] at hq
        exact c_gcd_loop f (i + 1 + 1) (x % y) (y % (x % y)) _ (by omega) (by omega) (by rw [Nat.pow_succ] at hf; omega) (by omega) hq
theorem c_gcd (d : Nat) {a b : Nat} (ha : a < 2 ^ 63) (hb : b < 2 ^ 63) (mem : mm_M) : sp (d + 1) 24 [.long (lN a), .long (lN b)] mem (fun r m => r = some (.long (lN (Nat.gcd a b))) ∧ m = mem) := by
  refine ⟨trivial, rfl, mm_WP.go [9] 100 ?_⟩
  exact c_gcd_loop 63 0 a b none ha hb hb (by decide) ⟨rfl, rfl⟩
theorem m_gcd_loop {d : Nat} {B : Nat × Nat} {Q : mm_Q} {mem : mm_M} {a b : Int64} : ∀ (f x y : Nat) (u : Option Value), x < 2 ^ 63 → y < 2 ^ 63 → y < f → Q (some (.long (lN (Nat.gcd x y)))) mem → wp d B cd_Model_divisor Q 6 [some (.long a), none, some (.long b), none, some (.long (lN x)), none, some (.long (lN y)), none, u, none] [] mem
  | 0, x, y, u, hx, hy, hf, hq => absurd hf (by omega)
  | f + 1, x, y, u, hx, hy, hf, hq => by
    refine mm_WP.go [6] 100 ⟨fun c => ?_, fun c => ?_⟩
    · have h0 := (lcmp_z hy).mp c
      subst h0
      rw [Nat.gcd_zero_right] at hq
      exact hq
    · have h0 : y ≠ 0 := fun h => c ((lcmp_z hy).mpr h)
      refine ⟨lN_nz hy h0, ?_⟩
      have hr : x % y < y := Nat.mod_lt _ (by omega)
      rw [pk_lRem hx (by omega) hy]
      rw [← gcd_step] at hq
      exact m_gcd_loop f y (x % y) _ hy (by omega) (by omega) hq
theorem m_gcd (d : Nat) {a b : Nat} (ha : a < 2 ^ 63) (hb : b < 2 ^ 63) (mem : mm_M) : sp (d + 1) 148 [.long (lN a), .long (lN b)] mem (fun r m => r = some (.long (lN (Nat.gcd a b))) ∧ m = mem) := by
  refine ⟨trivial, rfl, mm_WP.go [6] 100 ?_⟩
  exact m_gcd_loop (b + 1) a b none ha hb (by omega) ⟨rfl, rfl⟩
theorem sm_le {f : Nat → Nat} {M : Nat} (h : ∀ k, k < 90 → f k ≤ M) : ∀ j, j ≤ 90 → fb_sm f j ≤ M * j
  | 0, _ => Nat.le_refl _
  | j + 1, hj => by
    have h1 := sm_le h j (by omega)
    have h2 := h j (by omega)
    rw [fb_sm_succ, Nat.mul_succ]
    omega
abbrev LL (n : Nat) (H S : Nat → Nat → Bool) (wt : Nat → Nat) (hit miss w : Nat) : Nat := fb_sm (fun m => LK n H S wt hit miss w m) 90
theorem LL_le {wt : Nat → Nat} {hit miss w : Nat} (hw : ∀ k, k < 8 → wt k ≤ 99) (hh : hit ≤ 100) (hm : miss ≤ 100) : LL n H S wt hit miss w ≤ 8910000000000000 := by
  have h := sm_le (f := fun m => LK n H S wt hit miss w m) (M := 99000000000000) (fun k _ => LK_le (hw _ (kd_lt k)) hh hm) 90 (Nat.le_refl _)
  omega
theorem c_ofAll_loop {d : Nat} {B : Nat × Nat} {Q : mm_Q} (hC : CS n H S A I) {wt : Nat → Nat} (hW : WT wt (A 28)) {hit miss : Nat} (hHt : I 21 6 = nI hit) (hh : hit ≤ 100) (hM : I 21 7 = nI miss) (hmi : miss ≤ 100) {w : Nat} (hw : w < 6) (hq : Q (some (.long (lN (LL n H S wt hit miss w)))) (gm L xs A I F P)) :
    ∀ (j k : Nat) (x : Int32) (y : Int64), j + k = 90 → x = nI k → y = lN (fb_sm (fun m => LK n H S wt hit miss w m) k) → wp (d + 3) B cd_Likely_ofAll Q 5 [some (.ref 32), some (.int (nI w)), some (.long y), none, some (.int x)] [] (gm L xs A I F P) := by
  intro j
  induction j with
  | zero =>
    intro k x y hj hx hy
    refine mm_WP.go [5] 100 (lp_ge (N := 90) hx rfl (by omega) (by omega) (fun h => ?_) (fun h => absurd h (by omega)))
    subst h
    rw [hy]
    exact hq
  | succ j ih =>
    intro k x y hj hx hy
    refine mm_WP.go [5] 100 (lp_ge (N := 90) hx rfl (by omega) (by omega) (fun h => absurd h (by omega)) (fun _ => ?_))
    subst hx
    refine ⟨_, c_of d hC hW hHt hh hM hmi hw (show k < 90 by omega), ?_⟩
    rintro r m1 ⟨rfl, rfl⟩
    refine ih (k + 1) _ _ (by omega) (nI_1 k) ?_
    rw [hy, lN_add, fb_sm_succ]
theorem c_ofAll (d : Nat) (hC : CS n H S A I) {wt : Nat → Nat} (hW : WT wt (A 28)) {hit miss : Nat} (hHt : I 21 6 = nI hit) (hh : hit ≤ 100) (hM : I 21 7 = nI miss) (hmi : miss ≤ 100) {w : Nat} (hw : w < 6) : sp (d + 4) 23 [.ref 32, .int (nI w)] (gm L xs A I F P) (fun r m => r = some (.long (lN (LL n H S wt hit miss w))) ∧ m = gm L xs A I F P) := by
  refine ⟨⟨_, rfl⟩, rfl, mm_WP.go [5] 100 ?_⟩
  exact c_ofAll_loop hC hW hHt hh hM hmi hw ⟨rfl, rfl⟩ 90 0 _ _ rfl rfl rfl
/-- the chance: above the line, below it -/
def ch (v all pt : Nat) : Nat := if v = 0 then pt else if pt = 0 then v / Nat.gcd v all else all / Nat.gcd v all
theorem c_above (d : Nat) (hC : CS n H S A I) {wt : Nat → Nat} (hW : WT wt (A 28)) {hit miss : Nat} (hHt : I 21 6 = nI hit) (hh : hit ≤ 100) (hM : I 21 7 = nI miss) (hmi : miss ≤ 100) {w m : Nat} (hw : w < 6) (hm : m < 90) : sp (d + 5) 22 [.ref 32, .int (nI w), .int (nI m)] (gm L xs A I F P) (fun r m1 => r = some (.long (lN (ch (LK n H S wt hit miss w m) (LL n H S wt hit miss w) 0))) ∧ m1 = gm L xs A I F P) := by
  have l1 := LK_le (n := n) (H := H) (S := S) (w := w) (m := m) (hW (kd m) (kd_lt m)).2.2 hh hmi
  have l2 := LL_le (n := n) (H := H) (S := S) (w := w) (fun k hk => (hW k hk).2.2) hh hmi
  refine ⟨⟨_, rfl⟩, rfl, mm_WP.go [] 100 ⟨_, c_of (d + 1) hC hW hHt hh hM hmi hw hm, ?_⟩⟩
  generalize LK n H S wt hit miss w m = v at *
  rintro r m1 ⟨rfl, rfl⟩
  refine ⟨_, c_ofAll d hC hW hHt hh hM hmi hw, ?_⟩
  generalize LL n H S wt hit miss w = all at *
  rintro r m1 ⟨rfl, rfl⟩
  have hv : v < 2 ^ 63 := Nat.lt_of_le_of_lt l1 (by decide)
  have ha : all < 2 ^ 63 := Nat.lt_of_le_of_lt l2 (by decide)
  refine ⟨_, c_gcd (d + 3) hv ha _, ?_⟩
  rintro r m1 ⟨rfl, rfl⟩
  have hg : Nat.gcd v all < 2 ^ 63 := by
    rcases Nat.eq_zero_or_pos all with h | h
    · rw [h, Nat.gcd_zero_right]; exact hv
    · exact Nat.lt_of_le_of_lt (Nat.gcd_le_right _ h) ha
  unfold ch
  refine ⟨fun c => ?_, fun c => ?_⟩
  · have h0 : Nat.gcd v all ≠ 0 := fun h => c ((lcmp_z hg).mpr h)
    refine ⟨lN_nz hg h0, ?_, rfl⟩
    rw [pk_lDiv hv (by omega) hg]
    by_cases hv0 : v = 0
    · rw [if_pos hv0, hv0, Nat.zero_div]
    · rw [if_neg hv0, if_pos rfl]
  · have h0 := (lcmp_z hg).mp c
    rw [if_pos (Nat.eq_zero_of_gcd_eq_zero_left h0)]
    exact ⟨rfl, rfl⟩
theorem c_below (d : Nat) (hC : CS n H S A I) {wt : Nat → Nat} (hW : WT wt (A 28)) {hit miss : Nat} (hHt : I 21 6 = nI hit) (hh : hit ≤ 100) (hM : I 21 7 = nI miss) (hmi : miss ≤ 100) {w m : Nat} (hw : w < 6) (hm : m < 90) : sp (d + 5) 25 [.ref 32, .int (nI w), .int (nI m)] (gm L xs A I F P) (fun r m1 => r = some (.long (lN (ch (LK n H S wt hit miss w m) (LL n H S wt hit miss w) 1))) ∧ m1 = gm L xs A I F P) := by
  have l1 := LK_le (n := n) (H := H) (S := S) (w := w) (m := m) (hW (kd m) (kd_lt m)).2.2 hh hmi
  have l2 := LL_le (n := n) (H := H) (S := S) (w := w) (fun k hk => (hW k hk).2.2) hh hmi
  have hc1 := c_of (L := L) (xs := xs) (F := F) (P := P) (d + 1) hC hW hHt hh hM hmi hw hm
  refine ⟨⟨_, rfl⟩, rfl, mm_WP.go [] 100 ⟨_, c_ofAll d hC hW hHt hh hM hmi hw, ?_⟩⟩
  generalize LL n H S wt hit miss w = all at *
  generalize LK n H S wt hit miss w m = v at *
  rintro r m1 ⟨rfl, rfl⟩
  refine ⟨_, hc1, ?_⟩
  rintro r m1 ⟨rfl, rfl⟩
  have hv : v < 2 ^ 63 := Nat.lt_of_le_of_lt l1 (by decide)
  have ha : all < 2 ^ 63 := Nat.lt_of_le_of_lt l2 (by decide)
  refine ⟨_, c_gcd (d + 3) hv ha _, ?_⟩
  rintro r m1 ⟨rfl, rfl⟩
  have hg : Nat.gcd v all < 2 ^ 63 := by
    rcases Nat.eq_zero_or_pos all with h | h
    · rw [h, Nat.gcd_zero_right]; exact hv
    · exact Nat.lt_of_le_of_lt (Nat.gcd_le_right _ h) ha
  unfold ch
  refine ⟨fun c => ?_, fun c => ?_⟩
  · have h0 : Nat.gcd v all ≠ 0 := fun h => c ((lcmp_z hg).mpr h)
    refine ⟨lN_nz hg h0, ?_, rfl⟩
    rw [pk_lDiv ha (by omega) hg]
    by_cases hv0 : v = 0
    · rw [if_pos hv0]
      rw [hv0, Nat.gcd_zero_left] at h0 ⊢
      rw [Nat.div_self (by omega)]
    · rw [if_neg hv0, if_neg (by decide)]
  · have h0 := (lcmp_z hg).mp c
    rw [if_pos (Nat.eq_zero_of_gcd_eq_zero_left h0)]
    exact ⟨rfl, rfl⟩
end M10
