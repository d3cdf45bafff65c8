/-! the reference's likelihood; chance; likeliest -/
section M9
variable {L : Nat} {xs : Nat → Int32} {A I : Nat → Nat → Int32} {F : Nat → Nat → Option Nat} {P : mm_M} {n : Nat} {H S : Nat → Nat → Bool}
theorem m_lo_loop {d : Nat} {B : Nat × Nat} {Q : mm_Q} (hR : RS n H S A I) {hit miss : Nat} (hHt : I 38 8 = nI hit) (hh : hit ≤ 100) (hM : I 38 9 = nI miss) (hmi : miss ≤ 100) {w m : Nat} (hw : w < 6) (hm : m < 90) (tot : Nat) (hq : Q (some (.long (lN tot))) (gm L xs A I F P)) :
    ∀ (k c v : Nat) (x z : Int32) (y : Int64), k ≤ n → x = nI k + (-1) → z = nI c → y = lN v → c ≤ 6 → c + fb_ct (fun s => S s w) k = fb_ct (fun s => S s w) n → v * hit ^ fb_ct (fun i => TS n S w i && H i m) k * miss ^ fb_ct (fun i => TS n S w i && !H i m) k = tot → wp d B cd_Model_likelihoodOf Q 22 [some (.ref 38), some (.int (nI w)), some (.int (nI m)), some (.long y), none, some (.int z), some (.int x)] [] (gm L xs A I F P) := by
  obtain ⟨hn, hI, hS, hH⟩ := hR
  intro k
  induction k with
  | zero =>
    intro c v x z y hk hx hz hy hc hs ht
    refine mm_WP.go [22] 100 ⟨fun _ => ?_, fun c => absurd (by rw [hx]; decide) c⟩
    rw [fb_ct, fb_ct, Nat.pow_zero, Nat.pow_zero, Nat.mul_one, Nat.mul_one] at ht
    rw [hy, ht]
    exact hq
  | succ k ih =>
    intro c v x z y hk hx hz hy hc hs ht
    rw [pk_m1] at hx
    subst hx
    have hkn : k < n := by omega
    refine mm_WP.go [22] 100 ⟨fun c => absurd c (nI_pos (by omega)), fun _ => ⟨fun c6 => ?_, fun c6 => ?_⟩⟩
    · rw [hz, show (6 : Int32) = nI 6 from rfl, nI_leI (by omega) (by omega)] at c6
      have key : ∀ i, i < k + 1 → TS n S w i = false := by
        intro i hi
        unfold TS
        cases hsi : S i w with
        | false => rfl
        | true =>
          rw [Bool.true_and]
          refine decide_eq_false ?_
          have h1 : fb_ct (fun s => S s w) (i + 1) ≤ fb_ct (fun s => S s w) (k + 1) := fb_ct_mono _ (by omega)
          rw [fb_ct_succ, hsi, if_pos rfl] at h1
          omega
      have z1 : fb_ct (fun i => TS n S w i && H i m) (k + 1) = 0 := fb_ct_zero.mpr (fun i hi => by rw [key i hi]; rfl)
      have z2 : fb_ct (fun i => TS n S w i && !H i m) (k + 1) = 0 := fb_ct_zero.mpr (fun i hi => by rw [key i hi]; rfl)
      rw [z1, z2, Nat.pow_zero, Nat.pow_zero, Nat.mul_one, Nat.mul_one] at ht
      rw [hy, ht]
      exact hq
    · rw [hz, show (6 : Int32) = nI 6 from rfl, nI_leI (by omega) (by omega)] at c6
      have i1 := ix_ma (c := 6) (s := k) (w := w) (N := 144) (by decide) (by omega)
      have i2 := ix_ma (c := 90) (s := k) (w := m) (N := 2160) (by decide) (by omega)
      have v1 : A 43 ((6 * nI k + nI w).toNatClampNeg) = bI (S k w) := by
        rw [show (6 * nI k + nI w).toNatClampNeg = 6 * k + w from i1.2]
        exact hS k w hkn hw
      have v2 : A 44 ((90 * nI k + nI m).toNatClampNeg) = bI (H k m) := by
        rw [show (90 * nI k + nI m).toNatClampNeg = 90 * k + m from i2.2]
        exact hH k m hkn hm
      rw [fb_ct_succ] at hs
      rw [fb_ct_succ, fb_ct_succ] at ht
      refine ⟨i1.1, fun c1 => ?_, fun c1 => ⟨i2.1, fun c2 => ?_, fun c2 => ?_⟩⟩
      · have h1 : S k w = false := bI_0 (v1 ▸ c1)
        have hT : TS n S w k = false := by unfold TS; rw [h1]; rfl
        rw [h1, if_neg (by decide), Nat.add_zero] at hs
        rw [hT, Bool.false_and, Bool.false_and, if_neg (by decide), Nat.add_zero, Nat.add_zero] at ht
        exact ih c v _ _ _ (by omega) rfl hz hy hc hs ht
      · have h1 : S k w = true := bI_1 (v1 ▸ c1)
        have h2 : H k m = false := bI_0 (v2 ▸ c2)
        rw [h1, if_pos rfl] at hs
        have hT : TS n S w k = true := by unfold TS; rw [h1, Bool.true_and]; exact decide_eq_true (by omega)
        rw [hT, h2, Bool.true_and, Bool.true_and, Bool.not_false, if_neg (by decide), if_pos rfl, Nat.add_zero] at ht
        refine ih (c + 1) (v * miss) _ _ _ (by omega) rfl (by rw [hz]; exact nI_1 c) ?_ (by omega) (by omega) ?_
        · rw [hy, hM, nI_l (by omega), lN_mul]
        · rw [← ht, Nat.pow_succ, Nat.mul_assoc v miss, Nat.mul_comm miss, ← Nat.mul_assoc, Nat.mul_assoc (v * _) miss, Nat.mul_comm miss]
      · have h1 : S k w = true := bI_1 (v1 ▸ c1)
        have h2 : H k m = true := bI_1 (v2 ▸ c2)
        rw [h1, if_pos rfl] at hs
        have hT : TS n S w k = true := by unfold TS; rw [h1, Bool.true_and]; exact decide_eq_true (by omega)
        rw [hT, h2, Bool.true_and, Bool.true_and, Bool.not_true, if_pos rfl, if_neg (by decide), Nat.add_zero] at ht
        refine ih (c + 1) (v * hit) _ _ _ (by omega) rfl (by rw [hz]; exact nI_1 c) ?_ (by omega) (by omega) ?_
        · rw [hy, hHt, nI_l (by omega), lN_mul]
        · rw [← ht, Nat.pow_succ, Nat.mul_assoc v hit, Nat.mul_comm hit]
          rfl
theorem m_lo (d : Nat) (hR : RS n H S A I) {wt : Nat → Nat} (hW : WT wt (A 45)) {hit miss : Nat} (hHt : I 38 8 = nI hit) (hh : hit ≤ 100) (hM : I 38 9 = nI miss) (hmi : miss ≤ 100) {w m : Nat} (hw : w < 6) (hm : m < 90) : sp (d + 2) 146 [.ref 38, .int (nI w), .int (nI m)] (gm L xs A I F P) (fun r m1 => r = some (.long (lN (LK n H S wt hit miss w m))) ∧ m1 = gm L xs A I F P) := by
  have i2 := ix_n (w := kd m) (N := 8) (by decide) (kd_lt m)
  obtain ⟨w1, w2, w3⟩ := hW (kd m) (kd_lt m)
  refine ⟨⟨_, rfl⟩, rfl, mm_WP.go [22] 100 ⟨_, m_kindOf d hm _, ?_⟩⟩
  rintro r m1 ⟨rfl, rfl⟩
  refine ⟨i2.1, ?_⟩
  refine m_lo_loop hR hHt hh hM hmi hw hm (LK n H S wt hit miss w m) ⟨rfl, rfl⟩ n 0 (wt (kd m)) _ _ _ (Nat.le_refl _) ?_ rfl ?_ (by omega) (Nat.zero_add _) rfl
  · rw [hR.2.1]
    exact Int32.sub_eq_add_neg _ _
  · rw [i2.2, w1, nI_l (by omega)]
theorem LK_le {wt : Nat → Nat} {hit miss w m : Nat} (hw : wt (kd m) ≤ 99) (hh : hit ≤ 100) (hm : miss ≤ 100) : LK n H S wt hit miss w m ≤ 99000000000000 := by
  -- at most six scenes are among the latest
  have h6 : hN n H S w m + kN n H S w m ≤ 6 := by
    have h1 : fb_ct (fun i => (TS n S w i && H i m) || (TS n S w i && !H i m)) n = hN n H S w m + kN n H S w m := fb_ct_or (fun k _ h => by
      obtain ⟨a, b⟩ := h
      revert a b
      cases TS n S w k <;> cases H k m <;> decide)
    have h2 : fb_ct (fun i => (TS n S w i && H i m) || (TS n S w i && !H i m)) n = fb_ct (TS n S w) n := fb_ct_cong (fun k _ => by cases TS n S w k <;> cases H k m <;> rfl)
    have h3 : fb_ct (TS n S w) n ≤ 6 := by
      have h4 : fb_ct (TS n S w) n = fb_ct (pj (fun s => S s w) (fb_ct (fun s => S s w) n - 6)) n := fb_ct_cong (fun k _ => by
        unfold TS pj
        congr 1
        exact decide_eq_decide.mpr (by omega))
      rw [h4, pj_ct]
      omega
    omega
  show wt (kd m) * hit ^ hN n H S w m * miss ^ kN n H S w m ≤ _
  have a1 : hit ^ hN n H S w m ≤ 100 ^ hN n H S w m := Nat.pow_le_pow_left hh _
  have a2 : miss ^ kN n H S w m ≤ 100 ^ kN n H S w m := Nat.pow_le_pow_left hm _
  have a3 : 100 ^ hN n H S w m * 100 ^ kN n H S w m ≤ 100 ^ 6 := by
    rw [← Nat.pow_add]
    exact Nat.pow_le_pow_right (by decide) h6
  calc wt (kd m) * hit ^ hN n H S w m * miss ^ kN n H S w m = wt (kd m) * (hit ^ hN n H S w m * miss ^ kN n H S w m) := Nat.mul_assoc _ _ _
    _ ≤ 99 * (100 ^ hN n H S w m * 100 ^ kN n H S w m) := Nat.mul_le_mul hw (Nat.mul_le_mul a1 a2)
    _ ≤ 99 * 100 ^ 6 := Nat.mul_le_mul_left _ a3
    _ = 99000000000000 := by decide
/-- the first of the greatest -/
def gb (f : Nat → Nat) : Nat → Nat → Nat → Nat
  | 0, _, b => b
  | j + 1, k, b => gb f j (k + 1) (if f b < f k then k else b)
theorem gb_lt (f : Nat → Nat) : ∀ j k b, k + j ≤ 90 → b < 90 → gb f j k b < 90
  | 0, _, _, _, h => h
  | j + 1, k, b, h, hb => by
    rw [gb]
    refine gb_lt f j (k + 1) _ (by omega) ?_
    split <;> omega
theorem lcmp_le {a b : Nat} (ha : a < 2 ^ 63) (hb : b < 2 ^ 63) : (lg_cmp (lN a) (lN b) ≤ 0) ↔ a ≤ b := by
  rw [lg_cmp_le, fa_le64, pf_lI ha, pf_lI hb]
  omega
theorem c_gr_loop {d : Nat} {B : Nat × Nat} {Q : mm_Q} (hC : CS n H S A I) {wt : Nat → Nat} (hW : WT wt (A 28)) {hit miss : Nat} (hHt : I 21 6 = nI hit) (hh : hit ≤ 100) (hM : I 21 7 = nI miss) (hmi : miss ≤ 100) {w : Nat} (hw : w < 6) :
    ∀ (j k b : Nat) (x z : Int32) (y : Int64) (u : Option Value), j + k = 90 → x = nI k → z = nI b → y = lN (LK n H S wt hit miss w b) → b < 90 → Q (some (.int (nI (gb (LK n H S wt hit miss w) j k b)))) (gm L xs A I F P) → wp (d + 3) B cd_Likely_greatest Q 9 [some (.ref 32), some (.int (nI w)), some (.int z), some (.long y), none, some (.int x), u, none] [] (gm L xs A I F P) := by
  intro j
  induction j with
  | zero =>
    intro k b x z y u hj hx hz hy hb hq
    refine mm_WP.go [9] 100 (lp_ge (N := 90) hx rfl (by omega) (by omega) (fun _ => ?_) (fun h => absurd h (by omega)))
    subst hz
    exact hq
  | succ j ih =>
    intro k b x z y u hj hx hz hy hb hq
    have hk : k < 90 := by omega
    refine mm_WP.go [9] 100 (lp_ge (N := 90) hx rfl (by omega) (by omega) (fun h => absurd h (by omega)) (fun _ => ?_))
    subst hx
    refine ⟨_, c_of d hC hW hHt hh hM hmi hw hk, ?_⟩
    rintro r m1 ⟨rfl, rfl⟩
    have l1 := LK_le (n := n) (H := H) (S := S) (w := w) (m := k) (hW (kd k) (kd_lt k)).2.2 hh hmi
    have l2 := LK_le (n := n) (H := H) (S := S) (w := w) (m := b) (hW (kd b) (kd_lt b)).2.2 hh hmi
    rw [gb] at hq
    refine ⟨fun c => ?_, fun c => ?_⟩
    · rw [hy, lcmp_le (by omega) (by omega)] at c
      rw [if_neg (by omega)] at hq
      exact ih (k + 1) b _ _ _ _ (by omega) (nI_1 k) hz hy hb hq
    · rw [hy, lcmp_le (by omega) (by omega)] at c
      rw [if_pos (by omega)] at hq
      exact ih (k + 1) k _ _ _ _ (by omega) (nI_1 k) rfl rfl hk hq
theorem c_greatest (d : Nat) (hC : CS n H S A I) {wt : Nat → Nat} (hW : WT wt (A 28)) {hit miss : Nat} (hHt : I 21 6 = nI hit) (hh : hit ≤ 100) (hM : I 21 7 = nI miss) (hmi : miss ≤ 100) {w : Nat} (hw : w < 6) : sp (d + 4) 26 [.ref 32, .int (nI w)] (gm L xs A I F P) (ans (gm L xs A I F P) (nI (gb (LK n H S wt hit miss w) 89 1 0))) := by
  refine ⟨⟨_, rfl⟩, rfl, mm_WP.go [9] 100 ?_⟩
  have l1 := LK_le (n := n) (H := H) (S := S) (w := w) (m := 0) (hW (kd 0) (kd_lt 0)).2.2 hh hmi
  -- the first meaning
  refine mm_WP.go [9] 100 ⟨fun c => absurd c (by decide), fun _ => ⟨_, c_of d hC hW hHt hh hM hmi hw (show 0 < 90 by decide), ?_⟩⟩
  rintro r m1 ⟨rfl, rfl⟩
  refine ⟨fun c => ?_, fun c => ?_⟩
  · rw [lg_cmp_le, fa_le64, pf_lI (Nat.lt_of_le_of_lt l1 (by decide))] at c
    have : (-1 : Int64).toInt = -1 := by decide
    rw [this] at c
    omega
  · exact c_gr_loop hC hW hHt hh hM hmi hw 89 1 0 _ _ _ _ rfl rfl rfl rfl (by decide) ⟨rfl, rfl⟩
theorem m_lt_loop {d : Nat} {B : Nat × Nat} {Q : mm_Q} (hR : RS n H S A I) {wt : Nat → Nat} (hW : WT wt (A 45)) {hit miss : Nat} (hHt : I 38 8 = nI hit) (hh : hit ≤ 100) (hM : I 38 9 = nI miss) (hmi : miss ≤ 100) {w : Nat} (hw : w < 6) :
    ∀ (j k b : Nat) (x z : Int32), j + k = 90 → x = nI k → z = nI b → b < 90 → Q (some (.int (nI (gb (LK n H S wt hit miss w) j k b)))) (gm L xs A I F P) → wp (d + 2) B cd_Model_likeliest Q 17 [some (.ref 38), some (.int (nI w)), some (.int z), some (.int x)] [] (gm L xs A I F P) := by
  intro j
  induction j with
  | zero =>
    intro k b x z hj hx hz hb hq
    refine mm_WP.go [17] 100 (lp_ge (N := 90) hx rfl (by omega) (by omega) (fun _ => ?_) (fun h => absurd h (by omega)))
    subst hz
    exact hq
  | succ j ih =>
    intro k b x z hj hx hz hb hq
    have hk : k < 90 := by omega
    refine mm_WP.go [17] 100 (lp_ge (N := 90) hx rfl (by omega) (by omega) (fun h => absurd h (by omega)) (fun _ => ?_))
    subst hx
    subst hz
    refine ⟨_, m_lo d hR hW hHt hh hM hmi hw hk, ?_⟩
    rintro r m1 ⟨rfl, rfl⟩
    refine ⟨_, m_lo d hR hW hHt hh hM hmi hw hb, ?_⟩
    rintro r m1 ⟨rfl, rfl⟩
    have l1 := LK_le (n := n) (H := H) (S := S) (w := w) (m := k) (hW (kd k) (kd_lt k)).2.2 hh hmi
    have l2 := LK_le (n := n) (H := H) (S := S) (w := w) (m := b) (hW (kd b) (kd_lt b)).2.2 hh hmi
    rw [gb] at hq
    refine ⟨fun c => ?_, fun c => ?_⟩
    · rw [lcmp_le (by omega) (by omega)] at c
      rw [if_neg (by omega)] at hq
      exact ih (k + 1) b _ _ (by omega) (nI_1 k) rfl hb hq
    · rw [lcmp_le (by omega) (by omega)] at c
      rw [if_pos (by omega)] at hq
      exact ih (k + 1) k _ _ (by omega) (nI_1 k) rfl hk hq
theorem m_likeliest (d : Nat) (hR : RS n H S A I) {wt : Nat → Nat} (hW : WT wt (A 45)) {hit miss : Nat} (hHt : I 38 8 = nI hit) (hh : hit ≤ 100) (hM : I 38 9 = nI miss) (hmi : miss ≤ 100) {w : Nat} (hw : w < 6) : sp (d + 5) 149 [.ref 38, .int (nI w)] (gm L xs A I F P) (ans (gm L xs A I F P) (nI (gb (LK n H S wt hit miss w) 89 1 0))) := by
  refine ⟨⟨_, rfl⟩, rfl, mm_WP.go [17] 100 ⟨_, m_isWord (d + 2) _ _, ?_⟩⟩
  rintro r m1 ⟨rfl, ⟨-, rfl⟩ | ⟨h, rfl⟩⟩
  · exact n1 (m_lt_loop (d := d + 2) hR hW hHt hh hM hmi hw 89 1 0 _ _ rfl rfl rfl (by decide) ⟨rfl, rfl⟩)
  · exact absurd (ix_n (N := 6) (by decide) hw).1 h
theorem m_likeliest_r (d : Nat) {w : Int32} (hw : ¬ vp_in w 6) : sp (d + 5) 149 [.ref 38, .int w] (gm L xs A I F P) (rM L xs A I F P 1 (-1)) := by
  refine ⟨⟨_, rfl⟩, rfl, mm_WP.go [17] 100 ⟨_, m_isWord (d + 2) _ _, ?_⟩⟩
  rintro r m1 ⟨rfl, ⟨h, rfl⟩ | ⟨h, rfl⟩⟩
  · exact absurd h hw
  · refine n0 ⟨_, m_rf1 (d + 3), ?_⟩
    rintro r m1 ⟨rfl, rfl⟩
    exact ⟨rfl, rfl⟩
theorem c_likeliest (d : Nat) (hC : CS n H S A I) {wt : Nat → Nat} (hW : WT wt (A 28)) {hit miss : Nat} (hHt : I 21 6 = nI hit) (hh : hit ≤ 100) (hM : I 21 7 = nI miss) (hmi : miss ≤ 100) {w : Nat} (hw : w < 6) : sp (d + 5) 94 [.ref 6, .int (nI w)] (gm L xs A I F P) (ans (gm L xs A I F P) (nI (gb (LK n H S wt hit miss w) 89 1 0))) := by
  refine ⟨⟨_, rfl⟩, rfl, mm_WP.go [] 100 ⟨_, c_noWord (d + 3) _ _, ?_⟩⟩
  rintro r m1 ⟨rfl, ⟨h, rfl⟩ | ⟨-, rfl⟩⟩
  · exact absurd (ix_n (N := 6) (by decide) hw).1 h
  · refine e0 ⟨_, c_greatest d hC hW hHt hh hM hmi hw, ?_⟩
    rintro r m1 ⟨rfl, rfl⟩
    exact ⟨rfl, rfl⟩
theorem c_likeliest_r (d : Nat) {w : Int32} (hw : ¬ vp_in w 6) : sp (d + 5) 94 [.ref 6, .int w] (gm L xs A I F P) (rC L xs A I F P 1 (-1)) := by
  refine ⟨⟨_, rfl⟩, rfl, mm_WP.go [] 100 ⟨_, c_noWord (d + 3) _ _, ?_⟩⟩
  rintro r m1 ⟨rfl, ⟨h, rfl⟩ | ⟨h, rfl⟩⟩
  · refine e1 ⟨_, c_rf1 (d + 3), ?_⟩
    rintro r m1 ⟨rfl, rfl⟩
    exact ⟨rfl, rfl⟩
  · exact absurd hw h
end M9
