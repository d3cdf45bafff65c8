/-! likelihood -/
theorem an_pow {n x y : Nat} (b : Nat) (hx : x < 2 ^ n) (hy : y < 2 ^ n) : (2 ^ n * b + x) &&& (2 ^ n * b + y) = 2 ^ n * b + (x &&& y) := by
  have h1 : ((2 ^ n * b + x) &&& (2 ^ n * b + y)) % 2 ^ n = x &&& y := by
    rw [Nat.and_mod_two_pow, Nat.mul_add_mod, Nat.mul_add_mod, Nat.mod_eq_of_lt hx, Nat.mod_eq_of_lt hy]
  have h2 : ((2 ^ n * b + x) &&& (2 ^ n * b + y)) / 2 ^ n = b := by
    rw [Nat.and_div_two_pow, Nat.mul_add_div (Nat.two_pow_pos n), Nat.mul_add_div (Nat.two_pow_pos n), Nat.div_eq_of_lt hx, Nat.div_eq_of_lt hy, Nat.add_zero, Nat.and_self]
  have h3 := Nat.div_add_mod ((2 ^ n * b + x) &&& (2 ^ n * b + y)) (2 ^ n)
  rw [h1, h2] at h3
  exact h3.symm
theorem sb_pos {q : Nat → Bool} {n : Nat} : 0 < sb n q ↔ 0 < fb_ct q n := by
  have h1 : sb n q = 0 ↔ fb_ct q n = 0 := by
    rw [fb_ct_zero, ← sb_zero n, sb_inj]
  omega
theorem sb_drop (q : Nat → Bool) : ∀ n, sb n q &&& (sb n q - 1) = sb n (fun i => q i && decide (0 < fb_ct q i))
  | 0 => by simp [sb]
  | n + 1 => by
    have ih := sb_drop q n
    have hlt := sb_lt q n
    rw [sb, sb, ← ih]
    by_cases h0 : 0 < sb n q
    · rw [Nat.add_sub_assoc h0, an_pow _ hlt (by omega), decide_eq_true (sb_pos.mp h0), Bool.and_true]
    · have hz : sb n q = 0 := by omega
      rw [decide_eq_false (fun h => h0 (sb_pos.mpr h)), Bool.and_false, hz]
      by_cases hq : q n = true
      · rw [if_pos hq, Nat.mul_one, Nat.add_zero]
        have h1 : 2 ^ n &&& (2 ^ n - 1) = 0 := by rw [Nat.and_two_pow_sub_one_eq_mod, Nat.mod_self]
        rw [h1]
        simp
      · rw [if_neg hq]
        simp
/-- without the first j -/
def pj (p : Nat → Bool) (j : Nat) : Nat → Bool := fun i => p i && decide (j ≤ fb_ct p i)
theorem pj_ct (p : Nat → Bool) (j : Nat) : ∀ n, fb_ct (pj p j) n = fb_ct p n - j
  | 0 => by rw [fb_ct, fb_ct]; omega
  | n + 1 => by
    rw [fb_ct_succ, fb_ct_succ, pj_ct p j n]
    unfold pj
    by_cases hp : p n = true
    · rw [hp, Bool.true_and, if_pos rfl]
      by_cases h : j ≤ fb_ct p n
      · rw [decide_eq_true h, if_pos rfl]; omega
      · rw [decide_eq_false h, if_neg (by decide)]; omega
    · rw [show p n = false by simpa using hp, Bool.false_and, if_neg (by decide)]
      omega
theorem pj_drop (p : Nat → Bool) (j n : Nat) : sb n (pj p j) &&& (sb n (pj p j) - 1) = sb n (pj p (j + 1)) := by
  rw [sb_drop]
  apply sb_cong
  intro i _
  rw [pj_ct]
  unfold pj
  cases p i with
  | false => rfl
  | true =>
    rw [Bool.true_and, Bool.true_and, Bool.eq_iff_iff, Bool.and_eq_true, decide_eq_true_iff, decide_eq_true_iff, decide_eq_true_iff]
    omega
/-- the latest six scenes in which it was said -/
def TS (n : Nat) (S : Nat → Nat → Bool) (w : Nat) : Nat → Bool := fun i => S i w && decide (fb_ct (fun s => S s w) n ≤ fb_ct (fun s => S s w) i + 6)
theorem pj_TS {n j : Nat} {S : Nat → Nat → Bool} {w : Nat} (h : (j = 0 ∧ fb_ct (fun s => S s w) n ≤ 6) ∨ fb_ct (fun s => S s w) n = j + 6) : sb n (pj (fun s => S s w) j) = sb n (TS n S w) := by
  apply sb_cong
  intro i _
  unfold pj TS
  congr 1
  refine decide_eq_decide.mpr ?_
  omega
def lk (wk hit miss h k : Nat) : Nat := wk * hit ^ h * miss ^ k
section M8
variable {L : Nat} {xs : Nat → Int32} {A I : Nat → Nat → Int32} {F : Nat → Nat → Option Nat} {P : mm_M} {n : Nat} {H S : Nat → Nat → Bool}
theorem c_latest_loop {d : Nat} {B : Nat × Nat} {Q : mm_Q} (hn : n ≤ 24) {w : Nat} (hq : Q (some (.int (nI (sb n (TS n S w))))) (gm L xs A I F P)) :
    ∀ (i j : Nat) (x y : Int32), i + j = 18 → x = nI (6 + j) → y = nI (sb n (pj (fun s => S s w) j)) → (j = 0 ∨ j + 6 ≤ fb_ct (fun s => S s w) n) → wp (d + 1) B cd_Likely_latestSaid Q 13 [some (.ref 32), some (.int (nI w)), some (.int y), some (.int x)] [] (gm L xs A I F P) := by
  have hct : fb_ct (fun s => S s w) n ≤ n := fb_ct_le _ _
  have done : ∀ j y, y = nI (sb n (pj (fun s => S s w) j)) → (j = 0 ∨ j + 6 ≤ fb_ct (fun s => S s w) n) → fb_ct (fun s => S s w) n - j ≤ 6 → Q (some (.int y)) (gm L xs A I F P) := by
    intro j y hy hj h
    rw [hy, pj_TS (by omega)]
    exact hq
  intro i
  induction i with
  | zero =>
    intro j x y hi hx hy hj
    refine mm_WP.go [13] 100 (lp_ge (N := 24) hx rfl (by omega) (by omega) (fun _ => ?_) (fun h => absurd h (by omega)))
    exact done j y hy hj (by omega)
  | succ i ih =>
    intro j x y hi hx hy hj
    refine mm_WP.go [13] 100 (lp_ge (N := 24) hx rfl (by omega) (by omega) (fun h => absurd h (by omega)) (fun _ => ?_))
    subst hy
    have h24 := sb_24 hn (pj (fun s => S s w) j)
    refine ⟨_, j_bitCount d h24 _, ?_⟩
    rintro r m1 ⟨rfl, rfl⟩
    rw [od_sb hn, pj_ct]
    refine ⟨fun c => ?_, fun c => ?_⟩
    · rw [show (6 : Int32) = nI 6 from rfl, nI_leI (by omega) (by omega)] at c
      exact done j _ rfl hj c
    · rw [show (6 : Int32) = nI 6 from rfl, nI_leI (by omega) (by omega)] at c
      have hpos : 0 < sb n (pj (fun s => S s w) j) := sb_pos.mpr (by rw [pj_ct]; omega)
      refine ih (j + 1) _ _ (by omega) (by rw [hx]; exact nI_1 _) ?_ (Or.inr (by omega))
      rw [show (1 : Int32) = nI 1 from rfl, pk_sub hpos, fa_and, pj_drop]
theorem pj_0 (p : Nat → Bool) (n : Nat) : sb n (pj p 0) = sb n p := by
  apply sb_cong
  intro i _
  unfold pj
  rw [decide_eq_true (Nat.zero_le _), Bool.and_true]
theorem c_latest (d : Nat) (hC : CS n H S A I) {w : Nat} (hw : w < 6) : sp (d + 2) 21 [.ref 32, .int (nI w)] (gm L xs A I F P) (ans (gm L xs A I F P) (nI (sb n (TS n S w)))) := by
  obtain ⟨hn, hI, hS, hH⟩ := hC
  have i1 := ix_n (w := w) (N := 6) (by decide) hw
  refine ⟨⟨_, rfl⟩, rfl, mm_WP.go [13] 100 ⟨i1.1, ?_⟩⟩
  refine c_latest_loop (d := d) hn ⟨rfl, rfl⟩ 18 0 _ _ rfl rfl ?_ (Or.inl rfl)
  rw [i1.2, hS w hw, pj_0]
theorem c_of_l2 {d : Nat} {B : Nat × Nat} {Q : mm_Q} {miss : Nat} (hM : I 21 7 = nI miss) (hm : miss ≤ 100) {k : Nat} (hk : k ≤ 24) {w m lt h : Int32} : ∀ (i j v : Nat) (x : Int32) (y : Int64), i + j = k → x = nI j → y = lN v → Q (some (.long (lN (v * miss ^ i)))) (gm L xs A I F P) → wp d B cd_Likely_of Q 87 [some (.ref 32), some (.int w), some (.int m), some (.int lt), some (.int h), some (.int (nI k)), some (.long y), none, some (.int x)] [] (gm L xs A I F P) := by
  intro i
  induction i with
  | zero =>
    intro j v x y hi hx hy hq
    refine mm_WP.go [87] 100 (lp_ge (N := k) hx rfl (by omega) (by omega) (fun _ => ?_) (fun h => absurd h (by omega)))
    rw [Nat.pow_zero, Nat.mul_one, ← hy] at hq
    exact hq
  | succ i ih =>
    intro j v x y hi hx hy hq
    refine mm_WP.go [87] 100 (lp_ge (N := k) hx rfl (by omega) (by omega) (fun h => absurd h (by omega)) (fun _ => ?_))
    refine ih (j + 1) (v * miss) _ _ (by omega) (by rw [hx]; exact nI_1 j) ?_ ?_
    · rw [hy, hM, nI_l (by omega), lN_mul]
    · rw [Nat.pow_succ, Nat.mul_comm (miss ^ i), ← Nat.mul_assoc] at hq
      exact hq
theorem c_of_l1 {d : Nat} {B : Nat × Nat} {Q : mm_Q} {hit miss : Nat} (hHt : I 21 6 = nI hit) (hh : hit ≤ 100) (hM : I 21 7 = nI miss) (hm : miss ≤ 100) {h k : Nat} (hk : k ≤ 24) (hhn : h ≤ 24) {w m lt : Int32} : ∀ (i j v : Nat) (x : Int32) (y : Int64), i + j = h → x = nI j → y = lN v → Q (some (.long (lN (v * hit ^ i * miss ^ k)))) (gm L xs A I F P) → wp d B cd_Likely_of Q 58 [some (.ref 32), some (.int w), some (.int m), some (.int lt), some (.int (nI h)), some (.int (nI k)), some (.long y), none, some (.int x)] [] (gm L xs A I F P) := by
  intro i
  induction i with
  | zero =>
    intro j v x y hi hx hy hq
    refine mm_WP.go [58, 87] 100 (lp_ge (N := h) hx rfl (by omega) (by omega) (fun _ => ?_) (fun h => absurd h (by omega)))
    rw [Nat.pow_zero, Nat.mul_one] at hq
    exact c_of_l2 hM hm hk k 0 v _ _ rfl rfl hy hq
  | succ i ih =>
    intro j v x y hi hx hy hq
    refine mm_WP.go [58, 87] 100 (lp_ge (N := h) hx rfl (by omega) (by omega) (fun h => absurd h (by omega)) (fun _ => ?_))
    refine ih (j + 1) (v * hit) _ _ (by omega) (by rw [hx]; exact nI_1 j) ?_ ?_
    · rw [hy, hHt, nI_l (by omega), lN_mul]
    · rw [Nat.pow_succ, Nat.mul_comm (hit ^ i), ← Nat.mul_assoc] at hq
      exact hq
/-- hits and misses among the latest -/
def hN (n : Nat) (H S : Nat → Nat → Bool) (w m : Nat) : Nat := fb_ct (fun i => TS n S w i && H i m) n
def kN (n : Nat) (H S : Nat → Nat → Bool) (w m : Nat) : Nat := fb_ct (fun i => TS n S w i && !H i m) n
abbrev LK (n : Nat) (H S : Nat → Nat → Bool) (wt : Nat → Nat) (hit miss w m : Nat) : Nat := lk (wt (kd m)) hit miss (hN n H S w m) (kN n H S w m)
theorem c_of (d : Nat) (hC : CS n H S A I) {wt : Nat → Nat} (hW : WT wt (A 28)) {hit miss : Nat} (hHt : I 21 6 = nI hit) (hh : hit ≤ 100) (hM : I 21 7 = nI miss) (hmi : miss ≤ 100) {w m : Nat} (hw : w < 6) (hm : m < 90) : sp (d + 3) 20 [.ref 32, .int (nI w), .int (nI m)] (gm L xs A I F P) (fun r m1 => r = some (.long (lN (LK n H S wt hit miss w m))) ∧ m1 = gm L xs A I F P) := by
  have hC2 := hC
  obtain ⟨hn, hI, hS, hH⟩ := hC
  have i1 := ix_n (w := m) (N := 90) (by decide) hm
  have i2 := ix_n (w := kd m) (N := 8) (by decide) (kd_lt m)
  obtain ⟨w1, w2, w3⟩ := hW (kd m) (kd_lt m)
  have hN24 : hN n H S w m ≤ n := fb_ct_le _ _
  have kN24 : kN n H S w m ≤ n := fb_ct_le _ _
  refine ⟨⟨_, rfl⟩, rfl, mm_WP.go [17] 100 ⟨_, c_latest d hC2 hw, ?_⟩⟩
  rintro r m1 ⟨rfl, rfl⟩
  refine ⟨i1.1, ?_⟩
  show wp (d + 2) (mm_Al 20) cd_Likely_of _ 17 [some (.ref 32), some (.int (nI w)), some (.int (nI m)), some (.int (nI (sb n (TS n S w)))), none, none, none, none, none] [.int (nI (sb n (TS n S w)) &&& A 26 ((nI m).toNatClampNeg))] (gm L xs A I F P)
  rw [i1.2, hH m hm, sb_and hn]
  refine mm_WP.go [35] 100 ⟨_, j_bitCount (d + 1) (sb_24 hn _) _, ?_⟩
  rintro r m1 ⟨rfl, rfl⟩
  refine ⟨i1.1, ?_⟩
  show wp (d + 2) (mm_Al 20) cd_Likely_of _ 35 [some (.ref 32), some (.int (nI w)), some (.int (nI m)), some (.int (nI (sb n (TS n S w)))), some (.int (nI (od 24 (sb n (fun i => TS n S w i && H i m))))), none, none, none, none] [.int (nI (sb n (TS n S w)) &&& (A 26 ((nI m).toNatClampNeg) ^^^ (-1)))] (gm L xs A I F P)
  rw [i1.2, hH m hm, sb_andn hn, od_sb hn]
  refine mm_WP.go [58] 100 ⟨_, j_bitCount (d + 1) (sb_24 hn _) _, ?_⟩
  rintro r m1 ⟨rfl, rfl⟩
  refine ⟨_, c_kindOf (d + 1) hm, ?_⟩
  rintro r m1 ⟨rfl, rfl⟩
  refine ⟨i2.1, ?_⟩
  rw [od_sb hn]
  refine c_of_l1 hHt hh hM hmi (h := hN n H S w m) (k := kN n H S w m) (by omega) (by omega) (hN n H S w m) 0 (wt (kd m)) _ _ rfl rfl ?_ ⟨rfl, rfl⟩
  rw [i2.2, w1, nI_l (by omega)]
end M8
