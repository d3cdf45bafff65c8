/-! plainest, judge, said, has, same, part -/
/-- weights, at an array of either -/
def WT (wt : Nat → Nat) (f : Nat → Int32) : Prop := ∀ k, k < 8 → f k = nI (wt k) ∧ 1 ≤ wt k ∧ wt k ≤ 99
def oW (wk : Nat → Nat) : Option Nat → Nat
  | none => 0
  | some b => wk b
section M4
variable {L : Nat} {xs : Nat → Int32} {A I : Nat → Nat → Int32} {F : Nat → Nat → Option Nat} {P : mm_M} {n : Nat} {H S : Nat → Nat → Bool}
theorem c_heaviest_loop {d : Nat} {B : Nat × Nat} {Q : mm_Q} (hC : CS n H S A I) {wt : Nat → Nat} (hW : WT wt (A 28)) {w : Nat} (hw : w < 6) (sl : Int32) :
    ∀ (j k : Nat) (b : Option Nat) (x y z : Int32) (u : Option Value), j + k = 90 → x = nI k → y = oN b → z = nI (oW (fun m => wt (kd m)) b) → (∀ c, b = some c → c < 90) → (∀ v, u = some v → ∃ q, v = .int q) → Q (some (.int (oN (hv (Lp n H S w sl) (fun m => wt (kd m)) j k b)))) (gm L xs A I F P) → wp (d + 2) B cd_Told_heaviestLeft Q 9 [some (.ref 21), some (.int (nI w)), some (.int sl), some (.int y), some (.int z), some (.int x), u] [] (gm L xs A I F P) := by
  intro j
  induction j with
  | zero =>
    intro k b x y z u hk hx hy hz hb hu hq
    refine mm_WP.go [9] 100 (lp_ge (N := 90) hx rfl (by omega) (by omega) (fun h => ?_) (fun h => absurd h (by omega)))
    subst hy
    exact hq
  | succ j ih =>
    intro k b x y z u hk hx hy hz hb hu hq
    refine mm_WP.go [9] 100 (lp_ge (N := 90) hx rfl (by omega) (by omega) (fun h => absurd h (by omega)) (fun _ => ?_))
    subst hx
    have hk90 : k < 90 := by omega
    refine ⟨_, c_kindOf (d + 1) hk90, ?_⟩
    rintro r m ⟨rfl, rfl⟩
    have i1 := ix_n (w := kd k) (N := 8) (by decide) (kd_lt k)
    obtain ⟨w1, w2, w3⟩ := hW (kd k) (kd_lt k)
    have hwk : A 28 ((nI (kd k)).toNatClampNeg) = nI (wt (kd k)) := by rw [i1.2, w1]
    have hbw : oW (fun m => wt (kd m)) b ≤ 99 := by
      cases b with
      | none => exact Nat.zero_le _
      | some c => exact (hW (kd c) (kd_lt c)).2.2
    refine ⟨i1.1, fun c => ?_, fun c => ?_⟩
    · -- not heavier
      rw [hwk, hz, nI_leI (by omega) (by omega)] at c
      have hq2 : hv (Lp n H S w sl) (fun m => wt (kd m)) (j + 1) k b = hv (Lp n H S w sl) (fun m => wt (kd m)) j (k + 1) b := by
        cases b with
        | none => simp only [oW] at c; omega
        | some b0 =>
          simp only [oW] at c
          rw [hv, if_neg (fun q => by omega)]
      rw [hq2] at hq
      exact ih (k + 1) b _ _ _ _ (by omega) (nI_1 k) hy hz hb (fun v hv => ⟨_, (Option.some.inj hv).symm⟩) hq
    · rw [hwk, hz, nI_leI (by omega) (by omega)] at c
      refine ⟨_, c_isLeft d hC hw hk90 sl, ?_⟩
      rintro r m ⟨rfl, ⟨h, rfl⟩ | ⟨h, rfl⟩⟩
      · have hq2 : hv (Lp n H S w sl) (fun m => wt (kd m)) (j + 1) k b = hv (Lp n H S w sl) (fun m => wt (kd m)) j (k + 1) (some k) := by
          cases b with
          | none => rw [hv, if_pos (Lp_iff.mpr h)]
          | some b0 =>
            simp only [oW] at c
            rw [hv, if_pos ⟨by omega, Lp_iff.mpr h⟩]
        rw [hq2] at hq
        exact e1 (ih (k + 1) (some k) _ _ _ _ (by omega) (nI_1 k) rfl hwk (fun c hc => by cases hc; exact hk90) (fun v hv => ⟨_, (Option.some.inj hv).symm⟩) hq)
      · have hq2 : hv (Lp n H S w sl) (fun m => wt (kd m)) (j + 1) k b = hv (Lp n H S w sl) (fun m => wt (kd m)) j (k + 1) b := by
          cases b with
          | none => rw [hv, if_neg (fun z => h (Lp_iff.mp z))]
          | some b0 => rw [hv, if_neg (fun z => h (Lp_iff.mp z.2))]
        rw [hq2] at hq
        exact e0 (ih (k + 1) b _ _ _ _ (by omega) (nI_1 k) hy hz hb (fun v hv => ⟨_, (Option.some.inj hv).symm⟩) hq)
theorem c_heaviest (d : Nat) (hC : CS n H S A I) {wt : Nat → Nat} (hW : WT wt (A 28)) {w : Nat} (hw : w < 6) (sl : Int32) : sp (d + 3) 57 [.ref 21, .int (nI w), .int sl] (gm L xs A I F P) (ans (gm L xs A I F P) (oN (hv (Lp n H S w sl) (fun m => wt (kd m)) 90 0 none))) := by
  refine ⟨⟨_, rfl⟩, rfl, mm_WP.go [9] 100 ?_⟩
  exact c_heaviest_loop hC hW hw sl 90 0 none _ _ _ none rfl rfl rfl rfl (fun c hc => by cases hc) (fun v hv => by cases hv) ⟨rfl, rfl⟩
theorem m_plainest_loop {d : Nat} {B : Nat × Nat} {Q : mm_Q} (hR : RS n H S A I) {wt : Nat → Nat} (hW : WT wt (A 45)) {w : Nat} (hw : w < 6) (sl : Int32) :
    ∀ (j k : Nat) (b : Option Nat) (x y : Int32) (u : Option Value), j + k = 90 → x = nI k → y = oN b → (∀ c, b = some c → c < 90) → (∀ v, u = some v → ∃ q, v = .int q) → Q (some (.int (oN (hv (Lp n H S w sl) (fun m => wt (kd m)) j k b)))) (gm L xs A I F P) → wp (d + 2) B cd_Model_plainest Q 42 [some (.ref 38), some (.int (nI w)), some (.int sl), some (.int y), some (.int x), u] [] (gm L xs A I F P) := by
  intro j
  induction j with
  | zero =>
    intro k b x y u hk hx hy hb hu hq
    refine mm_WP.go [42] 100 (lp_ge (N := 90) hx rfl (by omega) (by omega) (fun h => ?_) (fun h => absurd h (by omega)))
    subst hy
    exact hq
  | succ j ih =>
    intro k b x y u hk hx hy hb hu hq
    refine mm_WP.go [42, 82] 100 (lp_ge (N := 90) hx rfl (by omega) (by omega) (fun h => absurd h (by omega)) (fun _ => ?_))
    subst hx
    have hk90 : k < 90 := by omega
    -- behind the comparison
    have tail1 : (match b with | none => True | some b0 => wt (kd b0) < wt (kd k)) → wp (d + 2) B cd_Model_plainest Q 82 [some (.ref 38), some (.int (nI w)), some (.int sl), some (.int y), some (.int (nI k)), some (.int 1)] [] (gm L xs A I F P) := by
      intro hh
      refine mm_WP.go [42] 100 (e1 ⟨_, m_isLeft (d + 1) hR hw hk90 sl, ?_⟩)
      rintro r m ⟨rfl, ⟨h, rfl⟩ | ⟨h, rfl⟩⟩
      · have hq2 : hv (Lp n H S w sl) (fun m => wt (kd m)) (j + 1) k b = hv (Lp n H S w sl) (fun m => wt (kd m)) j (k + 1) (some k) := by
          cases b with
          | none => rw [hv, if_pos (Lp_iff.mpr h)]
          | some b0 => rw [hv, if_pos ⟨hh, Lp_iff.mpr h⟩]
        rw [hq2] at hq
        exact e1 (ih (k + 1) (some k) _ _ _ (by omega) (nI_1 k) rfl (fun c hc => by cases hc; exact hk90) (fun v hv => ⟨_, (Option.some.inj hv).symm⟩) hq)
      · have hq2 : hv (Lp n H S w sl) (fun m => wt (kd m)) (j + 1) k b = hv (Lp n H S w sl) (fun m => wt (kd m)) j (k + 1) b := by
          cases b with
          | none => rw [hv, if_neg (fun z => h (Lp_iff.mp z))]
          | some b0 => rw [hv, if_neg (fun z => h (Lp_iff.mp z.2))]
        rw [hq2] at hq
        exact e0 (ih (k + 1) b _ _ _ (by omega) (nI_1 k) hy hb (fun v hv => ⟨_, (Option.some.inj hv).symm⟩) hq)
    have tail0 : (∃ b0, b = some b0 ∧ ¬ wt (kd b0) < wt (kd k)) → wp (d + 2) B cd_Model_plainest Q 82 [some (.ref 38), some (.int (nI w)), some (.int sl), some (.int y), some (.int (nI k)), some (.int 0)] [] (gm L xs A I F P) := by
      rintro ⟨b0, rfl, hh⟩
      rw [hv, if_neg (fun z => hh z.1)] at hq
      exact mm_WP.go [42] 100 (e0 (ih (k + 1) (some b0) _ _ _ (by omega) (nI_1 k) hy hb (fun v hv => ⟨_, (Option.some.inj hv).symm⟩) hq))
    cases b with
    | none =>
      subst hy
      exact ⟨fun _ => tail1 trivial, fun c => absurd (by decide) c⟩
    | some b0 =>
      have hb0 := hb b0 rfl
      subst hy
      refine ⟨fun c => absurd c (nI_pos (by omega)), fun _ => ⟨_, m_kindOf (d + 1) hk90 _, ?_⟩⟩
      rintro r m ⟨rfl, rfl⟩
      have i1 := ix_n (w := kd k) (N := 8) (by decide) (kd_lt k)
      have i2 := ix_n (w := kd b0) (N := 8) (by decide) (kd_lt b0)
      obtain ⟨w1, w2, w3⟩ := hW (kd k) (kd_lt k)
      obtain ⟨v1, v2, v3⟩ := hW (kd b0) (kd_lt b0)
      have hwk : A 45 ((nI (kd k)).toNatClampNeg) = nI (wt (kd k)) := by rw [i1.2, w1]
      have hwb : A 45 ((nI (kd b0)).toNatClampNeg) = nI (wt (kd b0)) := by rw [i2.2, v1]
      refine ⟨i1.1, _, m_kindOf (d + 1) hb0 _, ?_⟩
      rintro r m ⟨rfl, rfl⟩
      refine ⟨i2.1, fun c => ?_, fun c => ?_⟩
      · rw [hwk, hwb, nI_leI (by omega) (by omega)] at c
        exact tail0 ⟨b0, rfl, by omega⟩
      · rw [hwk, hwb, nI_leI (by omega) (by omega)] at c
        exact tail1 (by show _ < _; omega)
/-- plainest, not refused -/
theorem m_plainest (d : Nat) (hR : RS n H S A I) {wt : Nat → Nat} (hW : WT wt (A 45)) {w : Nat} (hw : w < 6) {sl : Int32} (h1 : ¬ sl < 0) (h3 : ¬ 3 < sl) : sp (d + 3) 142 [.ref 38, .int (nI w), .int sl] (gm L xs A I F P) (ans (gm L xs A I F P) (oN (hv (Lp n H S w sl) (fun m => wt (kd m)) 90 0 none))) := by
  refine ⟨⟨_, rfl⟩, rfl, mm_WP.go [42] 100 ⟨_, m_isWord d _ _, ?_⟩⟩
  rintro r m ⟨rfl, ⟨-, rfl⟩ | ⟨h, rfl⟩⟩
  · refine n1 ⟨fun _ => ⟨fun _ => ?_, fun c => absurd (Int32.not_lt.mp h3) c⟩, fun c => absurd (Int32.not_lt.mp h1) c⟩
    exact m_plainest_loop hR hW hw sl 90 0 none _ _ none rfl rfl rfl (fun c hc => by cases hc) (fun v hv => by cases hv) ⟨rfl, rfl⟩
  · exact absurd (ix_n (N := 6) (by decide) hw).1 h
theorem c_plainest (d : Nat) (hC : CS n H S A I) {wt : Nat → Nat} (hW : WT wt (A 28)) {w : Nat} (hw : w < 6) {sl : Int32} (h1 : ¬ sl < 0) (h3 : ¬ 3 < sl) : sp (d + 4) 88 [.ref 6, .int (nI w), .int sl] (gm L xs A I F P) (ans (gm L xs A I F P) (oN (hv (Lp n H S w sl) (fun m => wt (kd m)) 90 0 none))) := by
  refine ⟨⟨_, rfl⟩, rfl, mm_WP.go [] 100 ⟨_, c_noWord (d + 2) _ _, ?_⟩⟩
  rintro r m ⟨rfl, ⟨h, rfl⟩ | ⟨-, rfl⟩⟩
  · exact absurd (ix_n (N := 6) (by decide) hw).1 h
  · refine e0 ⟨fun _ => ⟨fun _ => ?_, fun c => absurd (Int32.not_lt.mp h3) c⟩, fun c => absurd (Int32.not_lt.mp h1) c⟩
    refine ⟨_, c_heaviest d hC hW hw sl, ?_⟩
    rintro r m ⟨rfl, rfl⟩
    exact ⟨rfl, rfl⟩
theorem m_judge_loop {d : Nat} {B : Nat × Nat} {Q : mm_Q} (hR : RS n H S A I) {w m : Nat} (hw : w < 6) (hm : m < 90) : ∀ (j k : Nat) (x : Int32), j + k = n → x = nI k → Q (some (.int (fi (fun s => S s w && !H s m) j k))) (gm L xs A I F P) → wp d B cd_Model_judge Q 22 [some (.ref 38), some (.int (nI w)), some (.int (nI m)), some (.int x)] [] (gm L xs A I F P) := by
  obtain ⟨hn, hI, hS, hH⟩ := hR
  intro j
  induction j with
  | zero =>
    intro k x hk hx hq
    exact mm_WP.go [22] 100 (lp_ge hx hI (by omega) (by omega) (fun _ => hq) (fun h => absurd h (by omega)))
  | succ j ih =>
    intro k x hk hx hq
    have hkn : k < n := by omega
    refine mm_WP.go [22] 100 (lp_ge hx hI (by omega) (by omega) (fun h => absurd h (by omega)) (fun _ => ?_))
    subst hx
    have i1 := ix_ma (c := 6) (s := k) (w := w) (N := 144) (by decide) (by omega)
    have i2 := ix_ma (c := 90) (s := k) (w := m) (N := 2160) (by decide) (by omega)
    have v1 : A 43 ((6 * nI k + nI w).toNatClampNeg) = bI (S k w) := by
      rw [show (6 * nI k + nI w).toNatClampNeg = 6 * k + w from i1.2]
      exact hS k w hkn hw
    have v2 : A 44 ((90 * nI k + nI m).toNatClampNeg) = bI (H k m) := by
      rw [show (90 * nI k + nI m).toNatClampNeg = 90 * k + m from i2.2]
      exact hH k m hkn hm
    rw [fi] at hq
    refine ⟨i1.1, fun c => ?_, fun c => ⟨i2.1, fun c2 => ?_, fun c2 => ?_⟩⟩
    · have h1 : S k w = false := bI_0 (v1 ▸ c)
      rw [h1] at hq
      exact ih (k + 1) _ (by omega) (nI_1 k) hq
    · have h1 : H k m = true := bI_1 (v2 ▸ c2)
      rw [h1, Bool.not_true, Bool.and_false] at hq
      exact ih (k + 1) _ (by omega) (nI_1 k) hq
    · have h1 : S k w = true := bI_1 (v1 ▸ c)
      have h2 : H k m = false := bI_0 (v2 ▸ c2)
      rw [h1, h2] at hq
      exact hq
theorem m_judge (d : Nat) (hR : RS n H S A I) {w m : Nat} (hw : w < 6) (hm : m < 90) : sp (d + 3) 143 [.ref 38, .int (nI w), .int (nI m)] (gm L xs A I F P) (ans (gm L xs A I F P) (fi (fun s => S s w && !H s m) n 0)) := by
  refine ⟨⟨_, rfl⟩, rfl, mm_WP.go [22] 100 ⟨_, m_isWord d _ _, ?_⟩⟩
  rintro r m1 ⟨rfl, ⟨-, rfl⟩ | ⟨h, rfl⟩⟩
  · refine e1 ⟨_, m_isMeaning d _ _, ?_⟩
    rintro r m1 ⟨rfl, ⟨-, rfl⟩ | ⟨h, rfl⟩⟩
    · exact n1 (m_judge_loop hR hw hm n 0 _ (by omega) rfl ⟨rfl, rfl⟩)
    · exact absurd (ix_n (N := 90) (by decide) hm).1 h
  · exact absurd (ix_n (N := 6) (by decide) hw).1 h
theorem c_judge (d : Nat) (hC : CS n H S A I) {w m : Nat} (hw : w < 6) (hm : m < 90) : sp (d + 4) 89 [.ref 6, .int (nI w), .int (nI m)] (gm L xs A I F P) (ans (gm L xs A I F P) (fi (fun s => S s w && !H s m) n 0)) := by
  obtain ⟨hn, hI, hS, hH⟩ := hC
  have i1 := ix_n (w := w) (N := 6) (by decide) hw
  have i2 := ix_n (w := m) (N := 90) (by decide) hm
  refine ⟨⟨_, rfl⟩, rfl, mm_WP.go [41] 100 ⟨_, c_noWord (d + 2) _ _, ?_⟩⟩
  rintro r m1 ⟨rfl, ⟨h, rfl⟩ | ⟨-, rfl⟩⟩
  · exact absurd i1.1 h
  · refine n0 ⟨_, c_noMeaning (d + 2) _ _, ?_⟩
    rintro r m1 ⟨rfl, ⟨h, rfl⟩ | ⟨-, rfl⟩⟩
    · exact absurd i2.1 h
    · refine e0 ⟨i1.1, i2.1, ?_⟩
      have e : A 27 ((nI w).toNatClampNeg) &&& (A 26 ((nI m).toNatClampNeg) ^^^ (-1)) = nI (sb n (fun s => S s w && !H s m)) := by
        rw [i1.2, i2.2, hS w hw, hH m hm, sb_andn hn]
      show wp (d + 3) (mm_Al 89) cd_Word_judge _ 41 [some (.ref 6), some (.int (nI w)), some (.int (nI m))] [.int (A 27 ((nI w).toNatClampNeg) &&& (A 26 ((nI m).toNatClampNeg) ^^^ (-1)))] (gm L xs A I F P)
      rw [e]
      refine mm_WP.go [] 100 ⟨_, c_firstIn_sb (d + 1) hn _ _, ?_⟩
      rintro r m1 ⟨rfl, rfl⟩
      exact ⟨rfl, rfl⟩
end M4
