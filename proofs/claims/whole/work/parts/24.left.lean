/-! left, plainest: loops over the meanings -/
/-- is it left, with so many slips -/
def Lp (n : Nat) (H S : Nat → Nat → Bool) (w : Nat) (sl : Int32) (m : Nat) : Bool := decide ((lf n H S w m : Int) ≤ sl.toInt)
/-- the i-th, from k on, of j more, with a ahead; behind the end: how many, if i is below 0, else none -/
def lv (p : Nat → Bool) (i : Int32) : Nat → Nat → Nat → Int32
  | 0, _, a => if i < 0 then nI a else -9
  | j + 1, k, a => if p k then (if nI a = i then nI k else lv p i j (k + 1) (a + 1)) else lv p i j (k + 1) a
theorem lv_neg {p : Nat → Bool} {i : Int32} (hi : i < 0) : ∀ (j k : Nat), j + k < 2 ^ 31 → lv p i j k (fb_ct p k) = nI (fb_ct p (j + k))
  | 0, k, _ => by rw [lv, if_pos hi, Nat.zero_add]
  | j + 1, k, h => by
    have hc : fb_ct p k ≤ k := fb_ct_le p k
    rw [lv, show j + 1 + k = j + (k + 1) by omega, ← lv_neg hi j (k + 1) (by omega), fb_ct_succ]
    by_cases hp : p k = true
    · rw [if_pos hp, if_pos hp, if_neg]
      intro e
      rw [← e] at hi
      exact nI_pos (by omega) hi
    · rw [if_neg hp, if_neg hp]
      rfl
/-- the heaviest, the first of such -/
def hv (p : Nat → Bool) (wk : Nat → Nat) : Nat → Nat → Option Nat → Option Nat
  | 0, _, b => b
  | j + 1, k, none => hv p wk j (k + 1) (if p k then some k else none)
  | j + 1, k, some b => hv p wk j (k + 1) (if wk b < wk k ∧ p k = true then some k else some b)
def oN : Option Nat → Int32
  | none => -9
  | some m => nI m
section M3
variable {L : Nat} {xs : Nat → Int32} {A I : Nat → Nat → Int32} {F : Nat → Nat → Option Nat} {P : mm_M} {n : Nat} {H S : Nat → Nat → Bool}
theorem Lp_iff {w m : Nat} {sl : Int32} : Lp n H S w sl m = true ↔ (lf n H S w m : Int) ≤ sl.toInt := decide_eq_true_iff
theorem c_countLeft_loop {d : Nat} {B : Nat × Nat} {Q : mm_Q} (hC : CS n H S A I) {w : Nat} (hw : w < 6) (sl : Int32) (hq : Q (some (.int (nI (fb_ct (Lp n H S w sl) 90)))) (gm L xs A I F P)) :
    ∀ (j k : Nat) (x y : Int32), j + k = 90 → x = nI k → y = nI (fb_ct (Lp n H S w sl) k) → wp (d + 2) B cd_Told_countLeft Q 5 [some (.ref 21), some (.int (nI w)), some (.int sl), some (.int y), some (.int x)] [] (gm L xs A I F P) := by
  intro j
  induction j with
  | zero =>
    intro k x y hk hx hy
    refine mm_WP.go [5] 100 (lp_ge (N := 90) hx rfl (by omega) (by omega) (fun h => ?_) (fun h => absurd h (by omega)))
    subst h
    subst hy
    exact hq
  | succ j ih =>
    intro k x y hk hx hy
    refine mm_WP.go [5] 100 (lp_ge (N := 90) hx rfl (by omega) (by omega) (fun h => absurd h (by omega)) (fun _ => ?_))
    subst hx
    refine ⟨_, c_isLeft d hC hw (by omega) sl, ?_⟩
    rintro r m ⟨rfl, ⟨h, rfl⟩ | ⟨h, rfl⟩⟩
    · refine e1 (ih (k + 1) _ _ (by omega) (nI_1 k) ?_)
      rw [hy, fb_ct_succ, if_pos (Lp_iff.mpr h)]
      exact nI_1 _
    · refine e0 (ih (k + 1) _ _ (by omega) (nI_1 k) ?_)
      rw [hy, fb_ct_succ, if_neg (fun z => h (Lp_iff.mp z))]
      rfl
theorem c_countLeft (d : Nat) (hC : CS n H S A I) {w : Nat} (hw : w < 6) (sl : Int32) : sp (d + 3) 54 [.ref 21, .int (nI w), .int sl] (gm L xs A I F P) (ans (gm L xs A I F P) (nI (fb_ct (Lp n H S w sl) 90))) := by
  refine ⟨⟨_, rfl⟩, rfl, mm_WP.go [5] 100 ?_⟩
  exact c_countLeft_loop hC hw sl ⟨rfl, rfl⟩ 90 0 _ _ rfl rfl rfl
theorem c_leftAt_loop {d : Nat} {B : Nat × Nat} {Q : mm_Q} (hC : CS n H S A I) {w : Nat} (hw : w < 6) (sl i : Int32) (hi : ¬ i < 0) :
    ∀ (j k a : Nat) (x y : Int32), j + k = 90 → x = nI k → y = nI a → Q (some (.int (lv (Lp n H S w sl) i j k a))) (gm L xs A I F P) → wp (d + 2) B cd_Told_leftAt Q 6 [some (.ref 21), some (.int (nI w)), some (.int sl), some (.int i), some (.int y), some (.int x)] [] (gm L xs A I F P) := by
  intro j
  induction j with
  | zero =>
    intro k a x y hk hx hy hq
    refine mm_WP.go [6] 100 (lp_ge (N := 90) hx rfl (by omega) (by omega) (fun h => ?_) (fun h => absurd h (by omega)))
    rw [lv, if_neg hi] at hq
    exact hq
  | succ j ih =>
    intro k a x y hk hx hy hq
    refine mm_WP.go [6] 100 (lp_ge (N := 90) hx rfl (by omega) (by omega) (fun h => absurd h (by omega)) (fun _ => ?_))
    subst hx
    subst hy
    refine ⟨_, c_isLeft d hC hw (by omega) sl, ?_⟩
    rintro r m ⟨rfl, ⟨h, rfl⟩ | ⟨h, rfl⟩⟩
    · rw [lv, if_pos (Lp_iff.mpr h)] at hq
      refine e1 ⟨fun c => ?_, fun c => ?_⟩
      · rw [if_neg c] at hq
        exact ih (k + 1) (a + 1) _ _ (by omega) (nI_1 k) (nI_1 a) hq
      · rw [if_pos c] at hq
        exact hq
    · rw [lv, if_neg (fun z => h (Lp_iff.mp z))] at hq
      exact e0 (ih (k + 1) a _ _ (by omega) (nI_1 k) rfl hq)
theorem c_leftAt (d : Nat) (hC : CS n H S A I) {w : Nat} (hw : w < 6) (sl i : Int32) (hi : ¬ i < 0) : sp (d + 3) 56 [.ref 21, .int (nI w), .int sl, .int i] (gm L xs A I F P) (ans (gm L xs A I F P) (lv (Lp n H S w sl) i 90 0 0)) := by
  refine ⟨⟨_, rfl⟩, rfl, mm_WP.go [6] 100 ?_⟩
  exact c_leftAt_loop hC hw sl i hi 90 0 0 _ _ rfl rfl rfl ⟨rfl, rfl⟩
theorem m_left_loop {d : Nat} {B : Nat × Nat} {Q : mm_Q} (hR : RS n H S A I) {w : Nat} (hw : w < 6) (sl i : Int32) :
    ∀ (j k a : Nat) (x y : Int32), j + k = 90 → x = nI k → y = nI a → Q (some (.int (lv (Lp n H S w sl) i j k a))) (gm L xs A I F P) → wp (d + 1) B cd_Model_left Q 47 [some (.ref 38), some (.int (nI w)), some (.int sl), some (.int i), some (.int y), some (.int x)] [] (gm L xs A I F P) := by
  intro j
  induction j with
  | zero =>
    intro k a x y hk hx hy hq
    refine mm_WP.go [47] 100 (lp_ge (N := 90) hx rfl (by omega) (by omega) (fun h => ?_) (fun h => absurd h (by omega)))
    rw [lv] at hq
    refine ⟨fun c => ?_, fun c => ?_⟩
    · rw [if_neg (Int32.not_lt.mpr c)] at hq
      exact hq
    · rw [if_pos (Int32.not_le.mp c)] at hq
      subst hy
      exact hq
  | succ j ih =>
    intro k a x y hk hx hy hq
    refine mm_WP.go [47] 100 (lp_ge (N := 90) hx rfl (by omega) (by omega) (fun h => absurd h (by omega)) (fun _ => ?_))
    subst hx
    subst hy
    refine ⟨_, m_isLeft d hR hw (by omega) sl, ?_⟩
    rintro r m ⟨rfl, ⟨h, rfl⟩ | ⟨h, rfl⟩⟩
    · rw [lv, if_pos (Lp_iff.mpr h)] at hq
      refine e1 ⟨fun c => ?_, fun c => ?_⟩
      · rw [if_neg c] at hq
        exact ih (k + 1) (a + 1) _ _ (by omega) (nI_1 k) (nI_1 a) hq
      · rw [if_pos c] at hq
        exact hq
    · rw [lv, if_neg (fun z => h (Lp_iff.mp z))] at hq
      exact e0 (ih (k + 1) a _ _ (by omega) (nI_1 k) rfl hq)
/-- the reference's left, the call not refused -/
theorem m_left (d : Nat) (hR : RS n H S A I) {w : Nat} (hw : w < 6) {sl i : Int32} (h1 : ¬ sl < 0) (h2 : ¬ i < -1) (h3 : ¬ 3 < sl) : sp (d + 3) 140 [.ref 38, .int (nI w), .int sl, .int i] (gm L xs A I F P) (ans (gm L xs A I F P) (lv (Lp n H S w sl) i 90 0 0)) := by
  refine ⟨⟨_, rfl⟩, rfl, mm_WP.go [47] 100 ⟨_, m_isWord d _ _, ?_⟩⟩
  rintro r m ⟨rfl, ⟨-, rfl⟩ | ⟨h, rfl⟩⟩
  · refine n1 ⟨fun c => absurd c h1, fun _ => ⟨fun _ => ⟨fun _ => ?_, fun c => absurd (Int32.not_lt.mp h3) c⟩, fun c => absurd (Int32.not_lt.mp h2) c⟩⟩
    exact m_left_loop hR hw sl i 90 0 0 _ _ rfl rfl rfl ⟨rfl, rfl⟩
  · exact absurd (ix_n (N := 6) (by decide) hw).1 h
/-- the class's -/
theorem c_left (d : Nat) (hC : CS n H S A I) {w : Nat} (hw : w < 6) {sl i : Int32} (h1 : ¬ sl < 0) (h2 : ¬ i < -1) (h3 : ¬ 3 < sl) : sp (d + 4) 87 [.ref 6, .int (nI w), .int sl, .int i] (gm L xs A I F P) (ans (gm L xs A I F P) (lv (Lp n H S w sl) i 90 0 0)) := by
  refine ⟨⟨_, rfl⟩, rfl, mm_WP.go [] 100 ⟨_, c_noWord (d + 2) _ _, ?_⟩⟩
  rintro r m ⟨rfl, ⟨h, rfl⟩ | ⟨-, rfl⟩⟩
  · exact absurd (ix_n (N := 6) (by decide) hw).1 h
  · refine e0 ⟨fun c => absurd c h1, fun _ => ⟨fun _ => ⟨fun _ => ⟨fun c => ?_, fun c => ?_⟩, fun c => absurd (Int32.not_lt.mp h3) c⟩, fun c => absurd (Int32.not_lt.mp h2) c⟩⟩
    · refine ⟨_, c_leftAt d hC hw sl i (Int32.not_lt.mpr c), ?_⟩
      rintro r m ⟨rfl, rfl⟩
      exact ⟨rfl, rfl⟩
    · refine ⟨_, c_countLeft d hC hw sl, ?_⟩
      rintro r m ⟨rfl, rfl⟩
      refine ⟨?_, rfl⟩
      have h := lv_neg (p := Lp n H S w sl) (Int32.not_le.mp c) 90 0 (by decide)
      rw [show lv (Lp n H S w sl) i 90 0 0 = nI (fb_ct (Lp n H S w sl) 90) from h]
end M3
