/-! refusals; kind, said, has, same, part -/
section M5
variable {L : Nat} {xs : Nat → Int32} {A I : Nat → Nat → Int32} {F : Nat → Nat → Option Nat} {P : mm_M} {n : Nat} {H S : Nat → Nat → Bool}
abbrev rC (L : Nat) (xs : Nat → Int32) (A I : Nat → Nat → Int32) (F : Nat → Nat → Option Nat) (P : mm_M) (k : Nat) (w : Int32) : mm_Q := fun r m => r = some (.int w) ∧ m = gm L xs (uA A 20 k (A 20 k + 1)) I F P
abbrev rM (L : Nat) (xs : Nat → Int32) (A I : Nat → Nat → Int32) (F : Nat → Nat → Option Nat) (P : mm_M) (k : Nat) (w : Int32) : mm_Q := fun r m => r = some (.int w) ∧ m = gm L xs (uA A 50 k (A 50 k + 1)) I F P
theorem c_rf1 (d : Nat) : sp (d + 1) 72 [.ref 6, .int (-1)] (gm L xs A I F P) (rC L xs A I F P 1 (-1)) := c_refuse d (by decide) (by decide) (vp_in_iff.mpr (by decide)) rfl
theorem c_rf2 (d : Nat) : sp (d + 1) 72 [.ref 6, .int (-2)] (gm L xs A I F P) (rC L xs A I F P 2 (-2)) := c_refuse d (by decide) (by decide) (vp_in_iff.mpr (by decide)) rfl
theorem c_rf3 (d : Nat) : sp (d + 1) 72 [.ref 6, .int (-3)] (gm L xs A I F P) (rC L xs A I F P 3 (-3)) := c_refuse d (by decide) (by decide) (vp_in_iff.mpr (by decide)) rfl
theorem c_rf4 (d : Nat) : sp (d + 1) 72 [.ref 6, .int (-4)] (gm L xs A I F P) (rC L xs A I F P 4 (-4)) := c_refuse d (by decide) (by decide) (vp_in_iff.mpr (by decide)) rfl
theorem c_rf6 (d : Nat) : sp (d + 1) 72 [.ref 6, .int (-6)] (gm L xs A I F P) (rC L xs A I F P 6 (-6)) := c_refuse d (by decide) (by decide) (vp_in_iff.mpr (by decide)) rfl
theorem m_rf1 (d : Nat) : sp (d + 1) 116 [.ref 38, .int (-1)] (gm L xs A I F P) (rM L xs A I F P 1 (-1)) := m_refuse d (vp_in_iff.mpr (by decide)) rfl
theorem m_rf2 (d : Nat) : sp (d + 1) 116 [.ref 38, .int (-2)] (gm L xs A I F P) (rM L xs A I F P 2 (-2)) := m_refuse d (vp_in_iff.mpr (by decide)) rfl
theorem m_rf3 (d : Nat) : sp (d + 1) 116 [.ref 38, .int (-3)] (gm L xs A I F P) (rM L xs A I F P 3 (-3)) := m_refuse d (vp_in_iff.mpr (by decide)) rfl
theorem m_rf4 (d : Nat) : sp (d + 1) 116 [.ref 38, .int (-4)] (gm L xs A I F P) (rM L xs A I F P 4 (-4)) := m_refuse d (vp_in_iff.mpr (by decide)) rfl
theorem m_rf6 (d : Nat) : sp (d + 1) 116 [.ref 38, .int (-6)] (gm L xs A I F P) (rM L xs A I F P 6 (-6)) := m_refuse d (vp_in_iff.mpr (by decide)) rfl
/-- behind a call whose answer is given on -/
theorem on_ret {Q Q2 : mm_Q} {r : Option Value} {m : mm_M} (h : Q r m) (hq : ∀ r m, Q r m → Q2 r m) : Q2 r m := hq r m h
-- kind
theorem c_kind (d : Nat) {m : Nat} (hm : m < 90) : sp (d + 4) 83 [.ref 6, .int (nI m)] (gm L xs A I F P) (ans (gm L xs A I F P) (nI (kd m))) := by
  refine ⟨⟨_, rfl⟩, rfl, mm_WP.go [] 100 ⟨_, c_noMeaning (d + 2) _ _, ?_⟩⟩
  rintro r m1 ⟨rfl, ⟨h, rfl⟩ | ⟨-, rfl⟩⟩
  · exact absurd (ix_n (N := 90) (by decide) hm).1 h
  · refine e0 ⟨_, c_kindOf (d + 2) hm, ?_⟩
    rintro r m1 ⟨rfl, rfl⟩
    exact ⟨rfl, rfl⟩
theorem c_kind_r (d : Nat) {m : Int32} (hm : ¬ vp_in m 90) : sp (d + 4) 83 [.ref 6, .int m] (gm L xs A I F P) (rC L xs A I F P 1 (-1)) := by
  refine ⟨⟨_, rfl⟩, rfl, mm_WP.go [] 100 ⟨_, c_noMeaning (d + 2) _ _, ?_⟩⟩
  rintro r m1 ⟨rfl, ⟨h, rfl⟩ | ⟨h, rfl⟩⟩
  · refine e1 ⟨_, c_rf1 (d + 2), ?_⟩
    rintro r m1 ⟨rfl, rfl⟩
    exact ⟨rfl, rfl⟩
  · exact absurd hm h
theorem m_kind (d : Nat) {m : Nat} (hm : m < 90) : sp (d + 4) 135 [.ref 38, .int (nI m)] (gm L xs A I F P) (ans (gm L xs A I F P) (nI (kd m))) := by
  refine ⟨⟨_, rfl⟩, rfl, mm_WP.go [] 100 ⟨_, m_isMeaning (d + 1) _ _, ?_⟩⟩
  rintro r m1 ⟨rfl, ⟨-, rfl⟩ | ⟨h, rfl⟩⟩
  · refine e1 ⟨_, m_kindOf (d + 2) hm _, ?_⟩
    rintro r m1 ⟨rfl, rfl⟩
    exact ⟨rfl, rfl⟩
  · exact absurd (ix_n (N := 90) (by decide) hm).1 h
theorem m_kind_r (d : Nat) {m : Int32} (hm : ¬ vp_in m 90) : sp (d + 4) 135 [.ref 38, .int m] (gm L xs A I F P) (rM L xs A I F P 1 (-1)) := by
  refine ⟨⟨_, rfl⟩, rfl, mm_WP.go [] 100 ⟨_, m_isMeaning (d + 1) _ _, ?_⟩⟩
  rintro r m1 ⟨rfl, ⟨h, rfl⟩ | ⟨h, rfl⟩⟩
  · exact absurd h hm
  · refine e0 ⟨_, m_rf1 (d + 2), ?_⟩
    rintro r m1 ⟨rfl, rfl⟩
    exact ⟨rfl, rfl⟩
-- judge, left, plainest refused
theorem c_judge_r (d : Nat) {w m : Int32} (hh : ¬ (vp_in w 6 ∧ vp_in m 90)) : sp (d + 4) 89 [.ref 6, .int w, .int m] (gm L xs A I F P) (rC L xs A I F P 1 (-1)) := by
  refine ⟨⟨_, rfl⟩, rfl, mm_WP.go [] 100 ⟨_, c_noWord (d + 2) _ _, ?_⟩⟩
  rintro r m1 ⟨rfl, ⟨h, rfl⟩ | ⟨h, rfl⟩⟩
  · refine n1 ⟨_, c_rf1 (d + 2), ?_⟩
    rintro r m1 ⟨rfl, rfl⟩
    exact ⟨rfl, rfl⟩
  · refine n0 ⟨_, c_noMeaning (d + 2) _ _, ?_⟩
    rintro r m1 ⟨rfl, ⟨h2, rfl⟩ | ⟨h2, rfl⟩⟩
    · refine e1 ⟨_, c_rf1 (d + 2), ?_⟩
      rintro r m1 ⟨rfl, rfl⟩
      exact ⟨rfl, rfl⟩
    · exact absurd ⟨Classical.not_not.mp h, Classical.not_not.mp h2⟩ hh
theorem m_judge_r (d : Nat) {w m : Int32} (hh : ¬ (vp_in w 6 ∧ vp_in m 90)) : sp (d + 4) 143 [.ref 38, .int w, .int m] (gm L xs A I F P) (rM L xs A I F P 1 (-1)) := by
  refine ⟨⟨_, rfl⟩, rfl, mm_WP.go [22] 100 ⟨_, m_isWord (d + 1) _ _, ?_⟩⟩
  rintro r m1 ⟨rfl, ⟨h, rfl⟩ | ⟨h, rfl⟩⟩
  · refine e1 ⟨_, m_isMeaning (d + 1) _ _, ?_⟩
    rintro r m1 ⟨rfl, ⟨h2, rfl⟩ | ⟨h2, rfl⟩⟩
    · exact absurd ⟨h, h2⟩ hh
    · refine n0 ⟨_, m_rf1 (d + 2), ?_⟩
      rintro r m1 ⟨rfl, rfl⟩
      exact ⟨rfl, rfl⟩
  · refine e0 ⟨_, m_rf1 (d + 2), ?_⟩
    rintro r m1 ⟨rfl, rfl⟩
    exact ⟨rfl, rfl⟩
theorem c_left_1 (d : Nat) {w sl i : Int32} (hw : ¬ vp_in w 6) : sp (d + 4) 87 [.ref 6, .int w, .int sl, .int i] (gm L xs A I F P) (rC L xs A I F P 1 (-1)) := by
  refine ⟨⟨_, rfl⟩, rfl, mm_WP.go [] 100 ⟨_, c_noWord (d + 2) _ _, ?_⟩⟩
  rintro r m1 ⟨rfl, ⟨h, rfl⟩ | ⟨h, rfl⟩⟩
  · refine e1 ⟨_, c_rf1 (d + 2), ?_⟩
    rintro r m1 ⟨rfl, rfl⟩
    exact ⟨rfl, rfl⟩
  · exact absurd hw h
theorem c_left_4 (d : Nat) {w sl i : Int32} (hw : vp_in w 6) (hh : sl < 0 ∨ i < -1) : sp (d + 4) 87 [.ref 6, .int w, .int sl, .int i] (gm L xs A I F P) (rC L xs A I F P 4 (-4)) := by
  refine ⟨⟨_, rfl⟩, rfl, mm_WP.go [22] 100 ⟨_, c_noWord (d + 2) _ _, ?_⟩⟩
  rintro r m1 ⟨rfl, ⟨h, rfl⟩ | ⟨h, rfl⟩⟩
  · exact absurd hw h
  · have t : wp (d + 3) (mm_Al 87) cd_Word_left (rC L xs A I F P 4 (-4)) 22 [some (.ref 6), some (.int w), some (.int sl), some (.int i)] [] (gm L xs A I F P) := by
      refine mm_WP.go [] 100 ⟨_, c_rf4 (d + 2), ?_⟩
      rintro r m1 ⟨rfl, rfl⟩
      exact ⟨rfl, rfl⟩
    refine e0 ⟨fun _ => t, fun c => ⟨fun c2 => ?_, fun _ => t⟩⟩
    rcases hh with hh | hh
    · exact absurd hh c
    · exact absurd c2 (Int32.not_le.mpr hh)
theorem c_left_6 (d : Nat) {w sl i : Int32} (hw : vp_in w 6) (h1 : ¬ sl < 0) (h2 : ¬ i < -1) (h3 : 3 < sl) : sp (d + 4) 87 [.ref 6, .int w, .int sl, .int i] (gm L xs A I F P) (rC L xs A I F P 6 (-6)) := by
  refine ⟨⟨_, rfl⟩, rfl, mm_WP.go [] 100 ⟨_, c_noWord (d + 2) _ _, ?_⟩⟩
  rintro r m1 ⟨rfl, ⟨h, rfl⟩ | ⟨h, rfl⟩⟩
  · exact absurd hw h
  · refine e0 ⟨fun c => absurd c h1, fun _ => ⟨fun _ => ⟨fun c => absurd c (Int32.not_le.mpr h3), fun _ => ⟨_, c_rf6 (d + 2), ?_⟩⟩, fun c => absurd (Int32.not_lt.mp h2) c⟩⟩
    rintro r m1 ⟨rfl, rfl⟩
    exact ⟨rfl, rfl⟩
theorem m_left_1 (d : Nat) {w sl i : Int32} (hw : ¬ vp_in w 6) : sp (d + 4) 140 [.ref 38, .int w, .int sl, .int i] (gm L xs A I F P) (rM L xs A I F P 1 (-1)) := by
  refine ⟨⟨_, rfl⟩, rfl, mm_WP.go [47] 100 ⟨_, m_isWord (d + 1) _ _, ?_⟩⟩
  rintro r m1 ⟨rfl, ⟨h, rfl⟩ | ⟨h, rfl⟩⟩
  · exact absurd h hw
  · refine n0 ⟨_, m_rf1 (d + 2), ?_⟩
    rintro r m1 ⟨rfl, rfl⟩
    exact ⟨rfl, rfl⟩
theorem m_left_4 (d : Nat) {w sl i : Int32} (hw : vp_in w 6) (hh : sl < 0 ∨ i < -1) : sp (d + 4) 140 [.ref 38, .int w, .int sl, .int i] (gm L xs A I F P) (rM L xs A I F P 4 (-4)) := by
  refine ⟨⟨_, rfl⟩, rfl, mm_WP.go [22, 29, 47] 100 ⟨_, m_isWord (d + 1) _ _, ?_⟩⟩
  rintro r m1 ⟨rfl, ⟨h, rfl⟩ | ⟨h, rfl⟩⟩
  · have t : wp (d + 3) (mm_Al 140) cd_Model_left (rM L xs A I F P 4 (-4)) 22 [some (.ref 38), some (.int w), some (.int sl), some (.int i), none, none] [] (gm L xs A I F P) := by
      refine mm_WP.go [] 100 ⟨_, m_rf4 (d + 2), ?_⟩
      rintro r m1 ⟨rfl, rfl⟩
      exact ⟨rfl, rfl⟩
    refine n1 ⟨fun _ => t, fun c => ⟨fun c2 => ?_, fun _ => t⟩⟩
    rcases hh with hh | hh
    · exact absurd hh c
    · exact absurd c2 (Int32.not_le.mpr hh)
  · exact absurd hw h
theorem m_left_6 (d : Nat) {w sl i : Int32} (hw : vp_in w 6) (h1 : ¬ sl < 0) (h2 : ¬ i < -1) (h3 : 3 < sl) : sp (d + 4) 140 [.ref 38, .int w, .int sl, .int i] (gm L xs A I F P) (rM L xs A I F P 6 (-6)) := by
  refine ⟨⟨_, rfl⟩, rfl, mm_WP.go [47] 100 ⟨_, m_isWord (d + 1) _ _, ?_⟩⟩
  rintro r m1 ⟨rfl, ⟨h, rfl⟩ | ⟨h, rfl⟩⟩
  · refine n1 ⟨fun c => absurd c h1, fun _ => ⟨fun _ => ⟨fun c => absurd c (Int32.not_le.mpr h3), fun _ => ⟨_, m_rf6 (d + 2), ?_⟩⟩, fun c => absurd (Int32.not_lt.mp h2) c⟩⟩
    rintro r m1 ⟨rfl, rfl⟩
    exact ⟨rfl, rfl⟩
  · exact absurd hw h
theorem c_plainest_1 (d : Nat) {w sl : Int32} (hw : ¬ vp_in w 6) : sp (d + 4) 88 [.ref 6, .int w, .int sl] (gm L xs A I F P) (rC L xs A I F P 1 (-1)) := by
  refine ⟨⟨_, rfl⟩, rfl, mm_WP.go [] 100 ⟨_, c_noWord (d + 2) _ _, ?_⟩⟩
  rintro r m1 ⟨rfl, ⟨h, rfl⟩ | ⟨h, rfl⟩⟩
  · refine e1 ⟨_, c_rf1 (d + 2), ?_⟩
    rintro r m1 ⟨rfl, rfl⟩
    exact ⟨rfl, rfl⟩
  · exact absurd hw h
theorem c_plainest_4 (d : Nat) {w sl : Int32} (hw : vp_in w 6) (h1 : sl < 0) : sp (d + 4) 88 [.ref 6, .int w, .int sl] (gm L xs A I F P) (rC L xs A I F P 4 (-4)) := by
  refine ⟨⟨_, rfl⟩, rfl, mm_WP.go [] 100 ⟨_, c_noWord (d + 2) _ _, ?_⟩⟩
  rintro r m1 ⟨rfl, ⟨h, rfl⟩ | ⟨h, rfl⟩⟩
  · exact absurd hw h
  · refine e0 ⟨fun c => absurd h1 (Int32.not_lt.mpr c), fun _ => ⟨_, c_rf4 (d + 2), ?_⟩⟩
    rintro r m1 ⟨rfl, rfl⟩
    exact ⟨rfl, rfl⟩
theorem c_plainest_6 (d : Nat) {w sl : Int32} (hw : vp_in w 6) (h1 : ¬ sl < 0) (h3 : 3 < sl) : sp (d + 4) 88 [.ref 6, .int w, .int sl] (gm L xs A I F P) (rC L xs A I F P 6 (-6)) := by
  refine ⟨⟨_, rfl⟩, rfl, mm_WP.go [] 100 ⟨_, c_noWord (d + 2) _ _, ?_⟩⟩
  rintro r m1 ⟨rfl, ⟨h, rfl⟩ | ⟨h, rfl⟩⟩
  · exact absurd hw h
  · refine e0 ⟨fun _ => ⟨fun c => absurd c (Int32.not_le.mpr h3), fun _ => ⟨_, c_rf6 (d + 2), ?_⟩⟩, fun c => absurd (Int32.not_lt.mp h1) c⟩
    rintro r m1 ⟨rfl, rfl⟩
    exact ⟨rfl, rfl⟩
theorem m_plainest_1 (d : Nat) {w sl : Int32} (hw : ¬ vp_in w 6) : sp (d + 4) 142 [.ref 38, .int w, .int sl] (gm L xs A I F P) (rM L xs A I F P 1 (-1)) := by
  refine ⟨⟨_, rfl⟩, rfl, mm_WP.go [42] 100 ⟨_, m_isWord (d + 1) _ _, ?_⟩⟩
  rintro r m1 ⟨rfl, ⟨h, rfl⟩ | ⟨h, rfl⟩⟩
  · exact absurd h hw
  · refine n0 ⟨_, m_rf1 (d + 2), ?_⟩
    rintro r m1 ⟨rfl, rfl⟩
    exact ⟨rfl, rfl⟩
theorem m_plainest_4 (d : Nat) {w sl : Int32} (hw : vp_in w 6) (h1 : sl < 0) : sp (d + 4) 142 [.ref 38, .int w, .int sl] (gm L xs A I F P) (rM L xs A I F P 4 (-4)) := by
  refine ⟨⟨_, rfl⟩, rfl, mm_WP.go [42] 100 ⟨_, m_isWord (d + 1) _ _, ?_⟩⟩
  rintro r m1 ⟨rfl, ⟨h, rfl⟩ | ⟨h, rfl⟩⟩
  · refine n1 ⟨fun c => absurd h1 (Int32.not_lt.mpr c), fun _ => ⟨_, m_rf4 (d + 2), ?_⟩⟩
    rintro r m1 ⟨rfl, rfl⟩
    exact ⟨rfl, rfl⟩
  · exact absurd hw h
theorem m_plainest_6 (d : Nat) {w sl : Int32} (hw : vp_in w 6) (h1 : ¬ sl < 0) (h3 : 3 < sl) : sp (d + 4) 142 [.ref 38, .int w, .int sl] (gm L xs A I F P) (rM L xs A I F P 6 (-6)) := by
  refine ⟨⟨_, rfl⟩, rfl, mm_WP.go [42] 100 ⟨_, m_isWord (d + 1) _ _, ?_⟩⟩
  rintro r m1 ⟨rfl, ⟨h, rfl⟩ | ⟨h, rfl⟩⟩
  · refine n1 ⟨fun _ => ⟨fun c => absurd c (Int32.not_le.mpr h3), fun _ => ⟨_, m_rf6 (d + 2), ?_⟩⟩, fun c => absurd (Int32.not_lt.mp h1) c⟩
    rintro r m1 ⟨rfl, rfl⟩
    exact ⟨rfl, rfl⟩
  · exact absurd hw h
-- said
theorem m_saidIn_loop {d : Nat} {B : Nat × Nat} {Q : mm_Q} (hR : RS n H S A I) {w : Nat} (hw : w < 6) (hq : Q (some (.int (nI (fb_ct (fun s => S s w) n)))) (gm L xs A I F P)) : ∀ (j k : Nat) (x y : Int32), j + k = n → x = nI k → y = nI (fb_ct (fun s => S s w) k) → wp d B cd_Model_saidIn Q 4 [some (.ref 38), some (.int (nI w)), some (.int y), some (.int x)] [] (gm L xs A I F P) := by
  obtain ⟨hn, hI, hS, hH⟩ := hR
  intro j
  induction j with
  | zero =>
    intro k x y hk hx hy
    have : k = n := by omega
    subst this
    subst hy
    exact mm_WP.go [4] 100 (lp_ge hx hI (by omega) (by omega) (fun _ => hq) (fun h => absurd h (by omega)))
  | succ j ih =>
    intro k x y hk hx hy
    have hkn : k < n := by omega
    refine mm_WP.go [4] 100 (lp_ge hx hI (by omega) (by omega) (fun h => absurd h (by omega)) (fun _ => ?_))
    subst hx
    have i1 := ix_ma (c := 6) (s := k) (w := w) (N := 144) (by decide) (by omega)
    have v1 : A 43 ((6 * nI k + nI w).toNatClampNeg) = bI (S k w) := by
      rw [show (6 * nI k + nI w).toNatClampNeg = 6 * k + w from i1.2]
      exact hS k w hkn hw
    refine ⟨i1.1, fun c => ?_, fun c => ?_⟩
    · have h1 : S k w = false := bI_0 (v1 ▸ c)
      refine ih (k + 1) _ _ (by omega) (nI_1 k) ?_
      rw [hy, fb_ct_succ, h1]
      exact Int32.add_zero _
    · have h1 : S k w = true := bI_1 (v1 ▸ c)
      refine ih (k + 1) _ _ (by omega) (nI_1 k) ?_
      rw [hy, fb_ct_succ, h1]
      exact nI_1 _
theorem m_saidIn (d : Nat) (hR : RS n H S A I) {w : Nat} (hw : w < 6) : sp (d + 1) 134 [.ref 38, .int (nI w)] (gm L xs A I F P) (ans (gm L xs A I F P) (nI (fb_ct (fun s => S s w) n))) := by
  refine ⟨⟨_, rfl⟩, rfl, mm_WP.go [4] 100 ?_⟩
  exact m_saidIn_loop hR hw ⟨rfl, rfl⟩ n 0 _ _ (by omega) rfl rfl
theorem m_said (d : Nat) (hR : RS n H S A I) {w : Nat} (hw : w < 6) : sp (d + 4) 133 [.ref 38, .int (nI w)] (gm L xs A I F P) (ans (gm L xs A I F P) (nI (fb_ct (fun s => S s w) n))) := by
  refine ⟨⟨_, rfl⟩, rfl, mm_WP.go [] 100 ⟨_, m_isWord (d + 1) _ _, ?_⟩⟩
  rintro r m1 ⟨rfl, ⟨-, rfl⟩ | ⟨h, rfl⟩⟩
  · refine e1 ⟨_, m_saidIn (d + 2) hR hw, ?_⟩
    rintro r m1 ⟨rfl, rfl⟩
    exact ⟨rfl, rfl⟩
  · exact absurd (ix_n (N := 6) (by decide) hw).1 h
theorem m_said_r (d : Nat) {w : Int32} (hw : ¬ vp_in w 6) : sp (d + 4) 133 [.ref 38, .int w] (gm L xs A I F P) (rM L xs A I F P 1 (-1)) := by
  refine ⟨⟨_, rfl⟩, rfl, mm_WP.go [] 100 ⟨_, m_isWord (d + 1) _ _, ?_⟩⟩
  rintro r m1 ⟨rfl, ⟨h, rfl⟩ | ⟨h, rfl⟩⟩
  · exact absurd h hw
  · refine e0 ⟨_, m_rf1 (d + 2), ?_⟩
    rintro r m1 ⟨rfl, rfl⟩
    exact ⟨rfl, rfl⟩
theorem c_said (d : Nat) (hC : CS n H S A I) {w : Nat} (hw : w < 6) : sp (d + 4) 82 [.ref 6, .int (nI w)] (gm L xs A I F P) (ans (gm L xs A I F P) (nI (fb_ct (fun s => S s w) n))) := by
  obtain ⟨hn, hI, hS, hH⟩ := hC
  have i1 := ix_n (w := w) (N := 6) (by decide) hw
  refine ⟨⟨_, rfl⟩, rfl, mm_WP.go [22] 100 ⟨_, c_noWord (d + 2) _ _, ?_⟩⟩
  rintro r m1 ⟨rfl, ⟨h, rfl⟩ | ⟨-, rfl⟩⟩
  · exact absurd i1.1 h
  · refine e0 ⟨i1.1, ?_⟩
    show wp (d + 3) (mm_Al 82) cd_Word_said _ 22 [some (.ref 6), some (.int (nI w))] [.int (A 27 ((nI w).toNatClampNeg))] (gm L xs A I F P)
    rw [i1.2, hS w hw]
    refine mm_WP.go [] 100 ⟨_, j_bitCount (d + 2) (sb_24 hn _) _, ?_⟩
    rintro r m1 ⟨rfl, rfl⟩
    rw [od_sb hn]
    exact ⟨rfl, rfl⟩
theorem c_said_r (d : Nat) {w : Int32} (hw : ¬ vp_in w 6) : sp (d + 4) 82 [.ref 6, .int w] (gm L xs A I F P) (rC L xs A I F P 1 (-1)) := by
  refine ⟨⟨_, rfl⟩, rfl, mm_WP.go [] 100 ⟨_, c_noWord (d + 2) _ _, ?_⟩⟩
  rintro r m1 ⟨rfl, ⟨h, rfl⟩ | ⟨h, rfl⟩⟩
  · refine e1 ⟨_, c_rf1 (d + 2), ?_⟩
    rintro r m1 ⟨rfl, rfl⟩
    exact ⟨rfl, rfl⟩
  · exact absurd hw h
-- has
theorem c_has (d : Nat) (hC : CS n H S A I) {s m : Nat} (hs : s < n) (hm : m < 90) : sp (d + 4) 86 [.ref 6, .int (nI s), .int (nI m)] (gm L xs A I F P) (ans (gm L xs A I F P) (bI (H s m))) := by
  obtain ⟨hn, hI, hS, hH⟩ := hC
  have i1 := ix_n (w := m) (N := 90) (by decide) hm
  refine ⟨⟨_, rfl⟩, rfl, mm_WP.go [30] 100 ⟨_, c_noScene (d + 2) hn hI _, ?_⟩⟩
  rintro r m1 ⟨rfl, ⟨h, rfl⟩ | ⟨-, rfl⟩⟩
  · exact absurd (ix_n (by omega) hs).1 h
  · refine n0 ⟨_, c_noMeaning (d + 2) _ _, ?_⟩
    rintro r m1 ⟨rfl, ⟨h, rfl⟩ | ⟨-, rfl⟩⟩
    · exact absurd i1.1 h
    · refine e0 ⟨i1.1, ?_⟩
      show wp (d + 3) (mm_Al 86) cd_Word_has _ 30 [some (.ref 6), some (.int (nI s)), some (.int (nI m))] [.int (A 26 ((nI m).toNatClampNeg))] (gm L xs A I F P)
      rw [i1.2, hH m hm]
      have h24 := sb_24 hn (fun s => H s m)
      refine mm_WP.go [] 100 ⟨_, c_isIn (d + 2) (by omega) (by omega) _, ?_⟩
      rw [sb_tb, decide_eq_true hs, Bool.true_and]
      rintro r m1 ⟨rfl, ⟨h, rfl⟩ | ⟨h, rfl⟩⟩
      · rw [h]
        exact e1 ⟨rfl, rfl⟩
      · rw [show H s m = false by simpa using h]
        exact e0 ⟨rfl, rfl⟩
theorem c_has_r (d : Nat) (hn : n ≤ 24) (hI : I 21 2 = nI n) {s m : Int32} (hh : ¬ (vp_in s n ∧ vp_in m 90)) : sp (d + 4) 86 [.ref 6, .int s, .int m] (gm L xs A I F P) (rC L xs A I F P 1 (-1)) := by
  refine ⟨⟨_, rfl⟩, rfl, mm_WP.go [] 100 ⟨_, c_noScene (d + 2) hn hI _, ?_⟩⟩
  rintro r m1 ⟨rfl, ⟨h, rfl⟩ | ⟨h, rfl⟩⟩
  · refine n1 ⟨_, c_rf1 (d + 2), ?_⟩
    rintro r m1 ⟨rfl, rfl⟩
    exact ⟨rfl, rfl⟩
  · refine n0 ⟨_, c_noMeaning (d + 2) _ _, ?_⟩
    rintro r m1 ⟨rfl, ⟨h2, rfl⟩ | ⟨h2, rfl⟩⟩
    · refine e1 ⟨_, c_rf1 (d + 2), ?_⟩
      rintro r m1 ⟨rfl, rfl⟩
      exact ⟨rfl, rfl⟩
    · exact absurd ⟨Classical.not_not.mp h, Classical.not_not.mp h2⟩ hh
theorem m_has (d : Nat) (hR : RS n H S A I) {s m : Nat} (hs : s < n) (hm : m < 90) : sp (d + 4) 139 [.ref 38, .int (nI s), .int (nI m)] (gm L xs A I F P) (ans (gm L xs A I F P) (bI (H s m))) := by
  obtain ⟨hn, hI, hS, hH⟩ := hR
  have i2 := ix_ma (c := 90) (s := s) (w := m) (N := 2160) (by decide) (by omega)
  have v2 : A 44 ((90 * nI s + nI m).toNatClampNeg) = bI (H s m) := by
    rw [show (90 * nI s + nI m).toNatClampNeg = 90 * s + m from i2.2]
    exact hH s m hs hm
  refine ⟨⟨_, rfl⟩, rfl, mm_WP.go [] 100 ⟨_, m_isScene (d + 1) hn hI _, ?_⟩⟩
  rintro r m1 ⟨rfl, ⟨-, rfl⟩ | ⟨h, rfl⟩⟩
  · refine e1 ⟨_, m_isMeaning (d + 1) _ _, ?_⟩
    rintro r m1 ⟨rfl, ⟨-, rfl⟩ | ⟨h, rfl⟩⟩
    · refine e1 ⟨i2.1, fun c => ?_, fun c => ?_⟩
      · have h9 : H s m = false := bI_0 (v2 ▸ c)
        rw [h9]
        exact ⟨rfl, rfl⟩
      · have h9 : H s m = true := bI_1 (v2 ▸ c)
        rw [h9]
        exact ⟨rfl, rfl⟩
    · exact absurd (ix_n (N := 90) (by decide) hm).1 h
  · exact absurd (ix_n (by omega) hs).1 h
theorem m_has_r (d : Nat) (hn : n ≤ 24) (hI : I 38 0 = nI n) {s m : Int32} (hh : ¬ (vp_in s n ∧ vp_in m 90)) : sp (d + 4) 139 [.ref 38, .int s, .int m] (gm L xs A I F P) (rM L xs A I F P 1 (-1)) := by
  refine ⟨⟨_, rfl⟩, rfl, mm_WP.go [] 100 ⟨_, m_isScene (d + 1) hn hI _, ?_⟩⟩
  rintro r m1 ⟨rfl, ⟨h, rfl⟩ | ⟨h, rfl⟩⟩
  · refine e1 ⟨_, m_isMeaning (d + 1) _ _, ?_⟩
    rintro r m1 ⟨rfl, ⟨h2, rfl⟩ | ⟨h2, rfl⟩⟩
    · exact absurd ⟨h, h2⟩ hh
    · refine e0 ⟨_, m_rf1 (d + 2), ?_⟩
      rintro r m1 ⟨rfl, rfl⟩
      exact ⟨rfl, rfl⟩
  · refine e0 ⟨_, m_rf1 (d + 2), ?_⟩
    rintro r m1 ⟨rfl, rfl⟩
    exact ⟨rfl, rfl⟩
-- same, part
theorem m_partOf_loop {d : Nat} {B : Nat × Nat} {Q : mm_Q} (hR : RS n H S A I) {a b : Nat} (ha : a < 90) (hb : b < 90) : ∀ (j k : Nat) (x : Int32), j + k = n → x = nI k → Q (some (.int (fi (fun s => H s a ^^ H s b) j k))) (gm L xs A I F P) → wp d B cd_Model_partOf Q 2 [some (.ref 38), some (.int (nI a)), some (.int (nI b)), some (.int x)] [] (gm L xs A I F P) := by
  obtain ⟨hn, hI, hS, hH⟩ := hR
  intro j
  induction j with
  | zero =>
    intro k x hk hx hq
    exact mm_WP.go [2] 100 (lp_ge hx hI (by omega) (by omega) (fun _ => hq) (fun h => absurd h (by omega)))
  | succ j ih =>
    intro k x hk hx hq
    have hkn : k < n := by omega
    refine mm_WP.go [2] 100 (lp_ge hx hI (by omega) (by omega) (fun h => absurd h (by omega)) (fun _ => ?_))
    subst hx
    have i1 := ix_ma (c := 90) (s := k) (w := a) (N := 2160) (by decide) (by omega)
    have i2 := ix_ma (c := 90) (s := k) (w := b) (N := 2160) (by decide) (by omega)
    have v1 : A 44 ((90 * nI k + nI a).toNatClampNeg) = bI (H k a) := by
      rw [show (90 * nI k + nI a).toNatClampNeg = 90 * k + a from i1.2]
      exact hH k a hkn ha
    have v2 : A 44 ((90 * nI k + nI b).toNatClampNeg) = bI (H k b) := by
      rw [show (90 * nI k + nI b).toNatClampNeg = 90 * k + b from i2.2]
      exact hH k b hkn hb
    rw [fi] at hq
    refine ⟨i1.1, i2.1, fun c => ?_, fun c => ?_⟩
    · rw [v1, v2] at c
      have : (H k a ^^ H k b) = false := by
        revert c
        cases H k a <;> cases H k b <;> decide
      rw [this] at hq
      exact ih (k + 1) _ (by omega) (nI_1 k) hq
    · rw [v1, v2] at c
      have : (H k a ^^ H k b) = true := by
        revert c
        cases H k a <;> cases H k b <;> decide
      rw [this] at hq
      exact hq
theorem m_partOf (d : Nat) (hR : RS n H S A I) {a b : Nat} (ha : a < 90) (hb : b < 90) : sp (d + 1) 174 [.ref 38, .int (nI a), .int (nI b)] (gm L xs A I F P) (ans (gm L xs A I F P) (fi (fun s => H s a ^^ H s b) n 0)) := by
  refine ⟨⟨_, rfl⟩, rfl, mm_WP.go [2] 100 ?_⟩
  exact m_partOf_loop hR ha hb n 0 _ (by omega) rfl ⟨rfl, rfl⟩
theorem m_part (d : Nat) (hR : RS n H S A I) {a b : Nat} (ha : a < 90) (hb : b < 90) : sp (d + 4) 176 [.ref 38, .int (nI a), .int (nI b)] (gm L xs A I F P) (ans (gm L xs A I F P) (fi (fun s => H s a ^^ H s b) n 0)) := by
  refine ⟨⟨_, rfl⟩, rfl, mm_WP.go [] 100 ⟨_, m_isMeaning (d + 1) _ _, ?_⟩⟩
  rintro r m1 ⟨rfl, ⟨-, rfl⟩ | ⟨h, rfl⟩⟩
  · refine e1 ⟨_, m_isMeaning (d + 1) _ _, ?_⟩
    rintro r m1 ⟨rfl, ⟨-, rfl⟩ | ⟨h, rfl⟩⟩
    · refine e1 ⟨_, m_partOf (d + 2) hR ha hb, ?_⟩
      rintro r m1 ⟨rfl, rfl⟩
      exact ⟨rfl, rfl⟩
    · exact absurd (ix_n (N := 90) (by decide) hb).1 h
  · exact absurd (ix_n (N := 90) (by decide) ha).1 h
theorem m_same (d : Nat) (hR : RS n H S A I) {a b : Nat} (ha : a < 90) (hb : b < 90) : sp (d + 4) 175 [.ref 38, .int (nI a), .int (nI b)] (gm L xs A I F P) (fun r m => m = gm L xs A I F P ∧ ((∀ i, i < n → (H i a ^^ H i b) = false) ∧ r = some (.int 1) ∨ ¬ (∀ i, i < n → (H i a ^^ H i b) = false) ∧ r = some (.int 0))) := by
  have hn := hR.1
  have hf := fi_neg (p := fun s => H s a ^^ H s b) n 0 (by omega)
  refine ⟨⟨_, rfl⟩, rfl, mm_WP.go [] 100 ⟨_, m_isMeaning (d + 1) _ _, ?_⟩⟩
  rintro r m1 ⟨rfl, ⟨-, rfl⟩ | ⟨h, rfl⟩⟩
  · refine e1 ⟨_, m_isMeaning (d + 1) _ _, ?_⟩
    rintro r m1 ⟨rfl, ⟨-, rfl⟩ | ⟨h, rfl⟩⟩
    · refine e1 ⟨_, m_partOf (d + 2) hR ha hb, ?_⟩
      rintro r m1 ⟨rfl, rfl⟩
      refine ⟨fun c => ?_, fun c => ?_⟩
      · refine ⟨rfl, Or.inr ⟨fun z => ?_, rfl⟩⟩
        exact absurd (hf.mpr (fun i _ h => z i (by omega))) (Int32.not_lt.mpr c)
      · refine ⟨rfl, Or.inl ⟨fun i hi => ?_, rfl⟩⟩
        exact hf.mp (Int32.not_le.mp c) i (Nat.zero_le _) (by omega)
    · exact absurd (ix_n (N := 90) (by decide) hb).1 h
  · exact absurd (ix_n (N := 90) (by decide) ha).1 h
theorem m_same_r (d : Nat) {a b : Int32} (hh : ¬ (vp_in a 90 ∧ vp_in b 90)) : sp (d + 4) 175 [.ref 38, .int a, .int b] (gm L xs A I F P) (rM L xs A I F P 1 (-1)) := by
  refine ⟨⟨_, rfl⟩, rfl, mm_WP.go [] 100 ⟨_, m_isMeaning (d + 1) _ _, ?_⟩⟩
  rintro r m1 ⟨rfl, ⟨h, rfl⟩ | ⟨h, rfl⟩⟩
  · refine e1 ⟨_, m_isMeaning (d + 1) _ _, ?_⟩
    rintro r m1 ⟨rfl, ⟨h2, rfl⟩ | ⟨h2, rfl⟩⟩
    · exact absurd ⟨h, h2⟩ hh
    · refine e0 ⟨_, m_rf1 (d + 2), ?_⟩
      rintro r m1 ⟨rfl, rfl⟩
      exact ⟨rfl, rfl⟩
  · refine e0 ⟨_, m_rf1 (d + 2), ?_⟩
    rintro r m1 ⟨rfl, rfl⟩
    exact ⟨rfl, rfl⟩
theorem m_part_r (d : Nat) {a b : Int32} (hh : ¬ (vp_in a 90 ∧ vp_in b 90)) : sp (d + 4) 176 [.ref 38, .int a, .int b] (gm L xs A I F P) (rM L xs A I F P 1 (-1)) := by
  refine ⟨⟨_, rfl⟩, rfl, mm_WP.go [] 100 ⟨_, m_isMeaning (d + 1) _ _, ?_⟩⟩
  rintro r m1 ⟨rfl, ⟨h, rfl⟩ | ⟨h, rfl⟩⟩
  · refine e1 ⟨_, m_isMeaning (d + 1) _ _, ?_⟩
    rintro r m1 ⟨rfl, ⟨h2, rfl⟩ | ⟨h2, rfl⟩⟩
    · exact absurd ⟨h, h2⟩ hh
    · refine e0 ⟨_, m_rf1 (d + 2), ?_⟩
      rintro r m1 ⟨rfl, rfl⟩
      exact ⟨rfl, rfl⟩
  · refine e0 ⟨_, m_rf1 (d + 2), ?_⟩
    rintro r m1 ⟨rfl, rfl⟩
    exact ⟨rfl, rfl⟩
theorem c_same (d : Nat) (hC : CS n H S A I) {a b : Nat} (ha : a < 90) (hb : b < 90) : sp (d + 4) 108 [.ref 6, .int (nI a), .int (nI b)] (gm L xs A I F P) (fun r m => m = gm L xs A I F P ∧ ((∀ i, i < n → (H i a ^^ H i b) = false) ∧ r = some (.int 1) ∨ ¬ (∀ i, i < n → (H i a ^^ H i b) = false) ∧ r = some (.int 0))) := by
  obtain ⟨hn, hI, hS, hH⟩ := hC
  have i1 := ix_n (w := a) (N := 90) (by decide) ha
  have i2 := ix_n (w := b) (N := 90) (by decide) hb
  have e : (A 26 ((nI a).toNatClampNeg) = A 26 ((nI b).toNatClampNeg)) ↔ (∀ i, i < n → (H i a ^^ H i b) = false) := by
    rw [i1.2, i2.2, hH a ha, hH b hb, sb_nI hn]
    refine ⟨fun h i hi => ?_, fun h i hi => ?_⟩
    · rw [h i hi]; simp
    · simpa using h i hi
  refine ⟨⟨_, rfl⟩, rfl, mm_WP.go [] 100 ⟨_, c_noMeaning (d + 2) _ _, ?_⟩⟩
  rintro r m1 ⟨rfl, ⟨h, rfl⟩ | ⟨-, rfl⟩⟩
  · exact absurd i1.1 h
  · refine n0 ⟨_, c_noMeaning (d + 2) _ _, ?_⟩
    rintro r m1 ⟨rfl, ⟨h, rfl⟩ | ⟨-, rfl⟩⟩
    · exact absurd i2.1 h
    · refine e0 ⟨i1.1, i2.1, fun c => ?_, fun c => ?_⟩
      · exact ⟨rfl, Or.inr ⟨fun z => c (e.mpr z), rfl⟩⟩
      · exact ⟨rfl, Or.inl ⟨e.mp c, rfl⟩⟩
theorem c_part (d : Nat) (hC : CS n H S A I) {a b : Nat} (ha : a < 90) (hb : b < 90) : sp (d + 4) 109 [.ref 6, .int (nI a), .int (nI b)] (gm L xs A I F P) (ans (gm L xs A I F P) (fi (fun s => H s a ^^ H s b) n 0)) := by
  obtain ⟨hn, hI, hS, hH⟩ := hC
  have i1 := ix_n (w := a) (N := 90) (by decide) ha
  have i2 := ix_n (w := b) (N := 90) (by decide) hb
  refine ⟨⟨_, rfl⟩, rfl, mm_WP.go [39] 100 ⟨_, c_noMeaning (d + 2) _ _, ?_⟩⟩
  rintro r m1 ⟨rfl, ⟨h, rfl⟩ | ⟨-, rfl⟩⟩
  · exact absurd i1.1 h
  · refine n0 ⟨_, c_noMeaning (d + 2) _ _, ?_⟩
    rintro r m1 ⟨rfl, ⟨h, rfl⟩ | ⟨-, rfl⟩⟩
    · exact absurd i2.1 h
    · refine e0 ⟨i1.1, i2.1, ?_⟩
      show wp (d + 3) (mm_Al 109) cd_Word_part _ 39 [some (.ref 6), some (.int (nI a)), some (.int (nI b))] [.int (A 26 ((nI a).toNatClampNeg) ^^^ A 26 ((nI b).toNatClampNeg))] (gm L xs A I F P)
      rw [i1.2, i2.2, hH a ha, hH b hb, sb_xor hn]
      refine mm_WP.go [] 100 ⟨_, c_firstIn_sb (d + 1) hn _ _, ?_⟩
      rintro r m1 ⟨rfl, rfl⟩
      exact ⟨rfl, rfl⟩
theorem c_same_r (d : Nat) {a b : Int32} (hh : ¬ (vp_in a 90 ∧ vp_in b 90)) : sp (d + 4) 108 [.ref 6, .int a, .int b] (gm L xs A I F P) (rC L xs A I F P 1 (-1)) := by
  refine ⟨⟨_, rfl⟩, rfl, mm_WP.go [] 100 ⟨_, c_noMeaning (d + 2) _ _, ?_⟩⟩
  rintro r m1 ⟨rfl, ⟨h, rfl⟩ | ⟨h, rfl⟩⟩
  · refine n1 ⟨_, c_rf1 (d + 2), ?_⟩
    rintro r m1 ⟨rfl, rfl⟩
    exact ⟨rfl, rfl⟩
  · refine n0 ⟨_, c_noMeaning (d + 2) _ _, ?_⟩
    rintro r m1 ⟨rfl, ⟨h2, rfl⟩ | ⟨h2, rfl⟩⟩
    · refine e1 ⟨_, c_rf1 (d + 2), ?_⟩
      rintro r m1 ⟨rfl, rfl⟩
      exact ⟨rfl, rfl⟩
    · exact absurd ⟨Classical.not_not.mp h, Classical.not_not.mp h2⟩ hh
theorem c_part_r (d : Nat) {a b : Int32} (hh : ¬ (vp_in a 90 ∧ vp_in b 90)) : sp (d + 4) 109 [.ref 6, .int a, .int b] (gm L xs A I F P) (rC L xs A I F P 1 (-1)) := by
  refine ⟨⟨_, rfl⟩, rfl, mm_WP.go [] 100 ⟨_, c_noMeaning (d + 2) _ _, ?_⟩⟩
  rintro r m1 ⟨rfl, ⟨h, rfl⟩ | ⟨h, rfl⟩⟩
  · refine n1 ⟨_, c_rf1 (d + 2), ?_⟩
    rintro r m1 ⟨rfl, rfl⟩
    exact ⟨rfl, rfl⟩
  · refine n0 ⟨_, c_noMeaning (d + 2) _ _, ?_⟩
    rintro r m1 ⟨rfl, ⟨h2, rfl⟩ | ⟨h2, rfl⟩⟩
    · refine e1 ⟨_, c_rf1 (d + 2), ?_⟩
      rintro r m1 ⟨rfl, rfl⟩
      exact ⟨rfl, rfl⟩
    · exact absurd ⟨Classical.not_not.mp h, Classical.not_not.mp h2⟩ hh
end M5
