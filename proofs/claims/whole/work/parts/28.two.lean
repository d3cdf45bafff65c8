/-! two -/
def an0 (p : Nat → Bool) : Nat → Nat → Bool
  | 0, _ => true
  | j + 1, k => !p k && an0 p j (k + 1)
section M7
variable {L : Nat} {xs : Nat → Int32} {A I : Nat → Nat → Int32} {F : Nat → Nat → Option Nat} {P : mm_M} {n : Nat} {H S : Nat → Nat → Bool}
theorem Lp0 {w m : Nat} : ((lf n H S w m : Int) ≤ (0 : Int32).toInt) ↔ Lp n H S w 0 m = true := Lp_iff.symm
theorem c_isTwo (d : Nat) (hC : CS n H S A I) {w a b : Nat} (hw : w < 6) (ha : a < 90) (hb : b < 90) : sp (d + 3) 59 [.ref 21, .int (nI w), .int (nI a), .int (nI b)] (gm L xs A I F P) (yes (gm L xs A I F P) (qt n H S w a b = true)) := by
  have hC2 := hC
  obtain ⟨hn, hI, hS, hH⟩ := hC
  have i1 := ix_n (w := w) (N := 6) (by decide) hw
  have i2 := ix_n (w := a) (N := 90) (by decide) ha
  have i3 := ix_n (w := b) (N := 90) (by decide) hb
  have e : A 27 ((nI w).toNatClampNeg) &&& ((A 26 ((nI a).toNatClampNeg) ||| A 26 ((nI b).toNatClampNeg)) ^^^ (-1)) = nI (sb n (fun s => S s w && !(H s a || H s b))) := by
    rw [i1.2, i2.2, i3.2, hS w hw, hH a ha, hH b hb, sb_or hn, sb_andn hn]
  have h24 := sb_24 hn (fun s => S s w && !(H s a || H s b))
  have e2 : (nI (sb n (fun s => S s w && !(H s a || H s b))) = 0) ↔ sb n (fun s => S s w && !(H s a || H s b)) = 0 := by
    rw [show (0 : Int32) = nI 0 from rfl, nI_eq (by omega) (by omega)]
  refine ⟨⟨_, rfl⟩, rfl, mm_WP.go [49] 100 ⟨i1.1, i2.1, i3.1, ?_⟩⟩
  have no : qt n H S w a b = false → wp (d + 2) (mm_Al 59) cd_Told_isTwo (yes (gm L xs A I F P) (qt n H S w a b = true)) 49 [some (.ref 21), some (.int (nI w)), some (.int (nI a)), some (.int (nI b))] [] (gm L xs A I F P) := by
    intro h
    exact mm_WP.go [] 100 ⟨rfl, rfl, Or.inr ⟨fun z => absurd (h.symm.trans z) (by decide), rfl⟩⟩
  refine ⟨fun c => ?_, fun c => ?_⟩
  · refine no ?_
    unfold qt
    rw [decide_eq_false (fun z => c (e.trans (e2.mpr z)))]
    rfl
  · have h1 := e2.mp (e.symm.trans c)
    refine ⟨_, c_isLeft d hC2 hw ha 0, ?_⟩
    rintro r m1 ⟨rfl, ⟨h, rfl⟩ | ⟨h, rfl⟩⟩
    · refine n1 (no ?_)
      unfold qt
      rw [Lp0.mp h]
      simp
    · refine n0 ⟨_, c_isLeft d hC2 hw hb 0, ?_⟩
      rintro r m1 ⟨rfl, ⟨h2, rfl⟩ | ⟨h2, rfl⟩⟩
      · refine n1 (no ?_)
        unfold qt
        rw [Lp0.mp h2]
        simp
      · refine n0 ⟨rfl, rfl, Or.inl ⟨?_, rfl⟩⟩
        unfold qt
        rw [decide_eq_true h1, show Lp n H S w 0 a = false by simpa using fun z => h (Lp0.mpr z), show Lp n H S w 0 b = false by simpa using fun z => h2 (Lp0.mpr z)]
        rfl
theorem c_ct_in {d : Nat} {B : Nat × Nat} {Q : mm_Q} (hC : CS n H S A I) {w a : Nat} (hw : w < 6) (ha : a < 90) (K : Nat) (next : ∀ (y x4 : Int32), y = nI K → wp (d + 3) B cd_Told_countTwos Q 42 [some (.ref 21), some (.int (nI w)), some (.int y), some (.int (nI a)), some (.int x4)] [] (gm L xs A I F P)) :
    ∀ (j b c : Nat) (y x : Int32), j + b = 90 → x = nI b → y = nI c → c + c2i (qt n H S w) a j b = K → wp (d + 3) B cd_Told_countTwos Q 15 [some (.ref 21), some (.int (nI w)), some (.int y), some (.int (nI a)), some (.int x)] [] (gm L xs A I F P) := by
  intro j
  induction j with
  | zero =>
    intro b c y x hj hx hy hc
    refine mm_WP.go [15, 42] 100 (lp_ge (N := 90) hx rfl (by omega) (by omega) (fun _ => ?_) (fun h => absurd h (by omega)))
    exact next y x (by rw [hy, ← hc]; rfl)
  | succ j ih =>
    intro b c y x hj hx hy hc
    have hb : b < 90 := by omega
    refine mm_WP.go [15, 42] 100 (lp_ge (N := 90) hx rfl (by omega) (by omega) (fun h => absurd h (by omega)) (fun _ => ?_))
    subst hx
    rw [c2i] at hc
    refine ⟨_, c_isTwo d hC hw ha hb, ?_⟩
    rintro r m1 ⟨rfl, ⟨h, rfl⟩ | ⟨h, rfl⟩⟩
    · rw [if_pos h] at hc
      exact e1 (ih (b + 1) (c + 1) _ _ (by omega) (nI_1 b) (by rw [hy]; exact nI_1 c) (by omega))
    · rw [if_neg h] at hc
      exact e0 (ih (b + 1) c _ _ (by omega) (nI_1 b) hy (by omega))
theorem c_ct_out {d : Nat} {B : Nat × Nat} {Q : mm_Q} (hC : CS n H S A I) {w : Nat} (hw : w < 6) (K : Nat) (hq : Q (some (.int (nI K))) (gm L xs A I F P)) :
    ∀ (j a c : Nat) (y x : Int32) (u : Option Value), j + a = 90 → x = nI a → y = nI c → c + c2 (qt n H S w) j a = K → wp (d + 3) B cd_Told_countTwos Q 4 [some (.ref 21), some (.int (nI w)), some (.int y), some (.int x), u] [] (gm L xs A I F P) := by
  intro j
  induction j with
  | zero =>
    intro a c y x u hj hx hy hc
    refine mm_WP.go [4] 100 (lp_ge (N := 90) hx rfl (by omega) (by omega) (fun _ => ?_) (fun h => absurd h (by omega)))
    rw [hy, show c = K by rw [← hc]; rfl]
    exact hq
  | succ j ih =>
    intro a c y x u hj hx hy hc
    refine mm_WP.go [4, 15] 100 (lp_ge (N := 90) hx rfl (by omega) (by omega) (fun h => absurd h (by omega)) (fun _ => ?_))
    subst hx
    rw [c2] at hc
    refine c_ct_in hC hw (by omega) (c + c2i (qt n H S w) a (89 - a) (a + 1)) ?_ (89 - a) (a + 1) c _ _ (by omega) (nI_1 a) hy rfl
    intro y2 x3 hy2
    exact mm_WP.go [4] 100 (ih (a + 1) (c + c2i (qt n H S w) a (89 - a) (a + 1)) _ _ _ (by omega) (nI_1 a) hy2 (by omega))
theorem c_ft_in {d : Nat} {B : Nat × Nat} {Q : mm_Q} (hC : CS n H S A I) {w a : Nat} (hw : w < 6) (ha : a < 90) (z : Int32) (next : ∀ (x4 : Int32), Q (some (.int z)) (gm L xs A I F P) → wp (d + 3) B cd_Told_firstTwo Q 41 [some (.ref 21), some (.int (nI w)), some (.int (nI a)), some (.int x4)] [] (gm L xs A I F P)) :
    ∀ (j b : Nat) (x : Int32), j + b = 90 → x = nI b → Q (some (.int (s2i (qt n H S w) a z j b))) (gm L xs A I F P) → wp (d + 3) B cd_Told_firstTwo Q 12 [some (.ref 21), some (.int (nI w)), some (.int (nI a)), some (.int x)] [] (gm L xs A I F P) := by
  intro j
  induction j with
  | zero =>
    intro b x hj hx hq
    refine mm_WP.go [12, 41] 100 (lp_ge (N := 90) hx rfl (by omega) (by omega) (fun _ => ?_) (fun h => absurd h (by omega)))
    exact next x hq
  | succ j ih =>
    intro b x hj hx hq
    have hb : b < 90 := by omega
    refine mm_WP.go [12, 41] 100 (lp_ge (N := 90) hx rfl (by omega) (by omega) (fun h => absurd h (by omega)) (fun _ => ?_))
    subst hx
    rw [s2i] at hq
    refine ⟨_, c_isTwo d hC hw ha hb, ?_⟩
    rintro r m1 ⟨rfl, ⟨h, rfl⟩ | ⟨h, rfl⟩⟩
    · rw [if_pos h] at hq
      refine e1 ?_
      have e : (100 : Int32) * nI a + nI b = nI (100 * a + b) := by rw [show (100 : Int32) = nI 100 from rfl, pk_mul, nI_add]
      rw [← e] at hq
      exact hq
    · rw [if_neg h] at hq
      exact e0 (ih (b + 1) _ (by omega) (nI_1 b) hq)
theorem c_ft_out {d : Nat} {B : Nat × Nat} {Q : mm_Q} (hC : CS n H S A I) {w : Nat} (hw : w < 6) :
    ∀ (j a : Nat) (x : Int32) (u : Option Value), j + a = 90 → x = nI a → Q (some (.int (s2 (qt n H S w) j a))) (gm L xs A I F P) → wp (d + 3) B cd_Told_firstTwo Q 2 [some (.ref 21), some (.int (nI w)), some (.int x), u] [] (gm L xs A I F P) := by
  intro j
  induction j with
  | zero =>
    intro a x u hj hx hq
    exact mm_WP.go [2] 100 (lp_ge (N := 90) hx rfl (by omega) (by omega) (fun _ => hq) (fun h => absurd h (by omega)))
  | succ j ih =>
    intro a x u hj hx hq
    refine mm_WP.go [2, 12] 100 (lp_ge (N := 90) hx rfl (by omega) (by omega) (fun h => absurd h (by omega)) (fun _ => ?_))
    subst hx
    rw [s2] at hq
    refine c_ft_in hC hw (by omega) (s2 (qt n H S w) j (a + 1)) ?_ (89 - a) (a + 1) _ (by omega) (nI_1 a) hq
    intro x4 hq2
    exact mm_WP.go [2] 100 (ih (a + 1) _ _ (by omega) (nI_1 a) hq2)
/-- two, not refused: how many, the first -/
def v2 (n : Nat) (H S : Nat → Nat → Bool) (w : Nat) (wh : Int32) : Int32 := if wh = 0 then nI (c2 (qt n H S w) 90 0) else s2 (qt n H S w) 90 0
theorem c_two (d : Nat) (hC : CS n H S A I) {w : Nat} (hw : w < 6) {wh : Int32} (hwh : wh = 0 ∨ wh = 1) : sp (d + 5) 98 [.ref 6, .int (nI w), .int wh] (gm L xs A I F P) (ans (gm L xs A I F P) (v2 n H S w wh)) := by
  have h1 : sp (d + 4) 58 [.ref 21, .int (nI w)] (gm L xs A I F P) (ans (gm L xs A I F P) (nI (c2 (qt n H S w) 90 0))) := by
    refine ⟨⟨_, rfl⟩, rfl, mm_WP.go [4] 100 ?_⟩
    exact c_ct_out (d := d) hC hw (c2 (qt n H S w) 90 0) ⟨rfl, rfl⟩ 90 0 0 _ _ none rfl rfl rfl (Nat.zero_add _)
  have h2 : sp (d + 4) 60 [.ref 21, .int (nI w)] (gm L xs A I F P) (ans (gm L xs A I F P) (s2 (qt n H S w) 90 0)) := by
    refine ⟨⟨_, rfl⟩, rfl, mm_WP.go [2] 100 ?_⟩
    exact c_ft_out (d := d) hC hw 90 0 _ none rfl rfl ⟨rfl, rfl⟩
  refine ⟨⟨_, rfl⟩, rfl, mm_WP.go [29] 100 ⟨_, c_noWord (d + 3) _ _, ?_⟩⟩
  rintro r m1 ⟨rfl, ⟨h, rfl⟩ | ⟨-, rfl⟩⟩
  · exact absurd (ix_n (N := 6) (by decide) hw).1 h
  · have t : wp (d + 4) (mm_Al 98) cd_Word_two (ans (gm L xs A I F P) (v2 n H S w wh)) 29 [some (.ref 6), some (.int (nI w)), some (.int wh)] [] (gm L xs A I F P) := by
      refine mm_WP.go [] 100 ⟨fun c => ⟨_, h2, ?_⟩, fun c => ⟨_, h1, ?_⟩⟩
      · rintro r m1 ⟨rfl, rfl⟩
        unfold v2
        rw [if_neg c]
        exact ⟨rfl, rfl⟩
      · rintro r m1 ⟨rfl, rfl⟩
        unfold v2
        rw [if_pos c]
        exact ⟨rfl, rfl⟩
    refine e0 ⟨fun _ => t, fun c => ⟨fun _ => t, fun c2 => ?_⟩⟩
    rcases hwh with h | h
    · exact absurd h c
    · exact absurd h c2
theorem c_two_1 (d : Nat) {w wh : Int32} (hw : ¬ vp_in w 6) : sp (d + 5) 98 [.ref 6, .int w, .int wh] (gm L xs A I F P) (rC L xs A I F P 1 (-1)) := by
  refine ⟨⟨_, rfl⟩, rfl, mm_WP.go [] 100 ⟨_, c_noWord (d + 3) _ _, ?_⟩⟩
  rintro r m1 ⟨rfl, ⟨h, rfl⟩ | ⟨h, rfl⟩⟩
  · refine e1 ⟨_, c_rf1 (d + 3), ?_⟩
    rintro r m1 ⟨rfl, rfl⟩
    exact ⟨rfl, rfl⟩
  · exact absurd hw h
theorem c_two_2 (d : Nat) {w wh : Int32} (hw : vp_in w 6) (hwh : ¬ (wh = 0 ∨ wh = 1)) : sp (d + 5) 98 [.ref 6, .int w, .int wh] (gm L xs A I F P) (rC L xs A I F P 2 (-2)) := by
  refine ⟨⟨_, rfl⟩, rfl, mm_WP.go [29] 100 ⟨_, c_noWord (d + 3) _ _, ?_⟩⟩
  rintro r m1 ⟨rfl, ⟨h, rfl⟩ | ⟨h, rfl⟩⟩
  · exact absurd hw h
  · refine e0 ⟨fun c => absurd (Or.inl c) hwh, fun _ => ⟨fun c => absurd (Or.inr c) hwh, fun _ => ⟨_, c_rf2 (d + 3), ?_⟩⟩⟩
    rintro r m1 ⟨rfl, rfl⟩
    exact ⟨rfl, rfl⟩
theorem vp2 {x : Int32} : vp_in x 2 ↔ (x = 0 ∨ x = 1) := by
  rw [vp_in_iff, fa_eq, fa_eq, show (0 : Int32).toInt = 0 from rfl, show (1 : Int32).toInt = 1 from rfl]
  omega
theorem m_two_1 (d : Nat) {w wh : Int32} (hw : ¬ vp_in w 6) : sp (d + 5) 159 [.ref 38, .int w, .int wh] (gm L xs A I F P) (rM L xs A I F P 1 (-1)) := by
  refine ⟨⟨_, rfl⟩, rfl, mm_WP.go [39] 100 ⟨_, m_isWord (d + 2) _ _, ?_⟩⟩
  rintro r m1 ⟨rfl, ⟨h, rfl⟩ | ⟨h, rfl⟩⟩
  · exact absurd h hw
  · refine n0 ⟨_, m_rf1 (d + 3), ?_⟩
    rintro r m1 ⟨rfl, rfl⟩
    exact ⟨rfl, rfl⟩
theorem m_two_2 (d : Nat) {w wh : Int32} (hw : vp_in w 6) (hwh : ¬ (wh = 0 ∨ wh = 1)) : sp (d + 5) 159 [.ref 38, .int w, .int wh] (gm L xs A I F P) (rM L xs A I F P 2 (-2)) := by
  refine ⟨⟨_, rfl⟩, rfl, mm_WP.go [39] 100 ⟨_, m_isWord (d + 2) _ _, ?_⟩⟩
  rintro r m1 ⟨rfl, ⟨-, rfl⟩ | ⟨h, rfl⟩⟩
  · refine n1 ⟨_, m_in (d + 3) _ _ _ _, ?_⟩
    intro r m1 hy
    obtain ⟨rfl, ⟨h, rfl⟩ | ⟨h, rfl⟩⟩ := yes_iff (in_vp (b := 1) (n := 2) rfl) hy
    · exact absurd (vp2.mp h) hwh
    · refine n0 ⟨_, m_rf2 (d + 3), ?_⟩
      rintro r m1 ⟨rfl, rfl⟩
      exact ⟨rfl, rfl⟩
  · exact absurd hw h
/-- none of them, from k on -/
theorem an0_iff {p : Nat → Bool} : ∀ (j k : Nat), an0 p j k = true ↔ ∀ i, k ≤ i → i < k + j → p i = false
  | 0, k => ⟨fun _ i h1 h2 => by omega, fun _ => rfl⟩
  | j + 1, k => by
    rw [an0, Bool.and_eq_true, an0_iff j (k + 1), Bool.not_eq_true']
    refine ⟨fun h i h1 h2 => ?_, fun h => ⟨h k (Nat.le_refl _) (by omega), fun i h1 h2 => h i (by omega) (by omega)⟩⟩
    rcases Nat.eq_or_lt_of_le h1 with h3 | h3
    · rw [← h3]; exact h.1
    · exact h.2 i (by omega) (by omega)
/-- the scenes' loop: is it still so -/
theorem m_two_sc {d : Nat} {B : Nat × Nat} {Q : mm_Q} (hR : RS n H S A I) {w a b : Nat} (hw : w < 6) (ha : a < 90) (hb : b < 90) (wh y f : Int32) (fin : Bool)
    (next : ∀ x8, wp (d + 1) B cd_Model_two Q 165 [some (.ref 38), some (.int (nI w)), some (.int wh), some (.int y), some (.int f), some (.int (nI a)), some (.int (nI b)), some (.int (bI fin)), some (.int x8)] [] (gm L xs A I F P)) :
    ∀ (j k : Nat) (x : Int32) (is : Bool), j + k = n → x = nI k → (is && an0 (fun s => S s w && !(H s a || H s b)) j k) = fin → wp (d + 1) B cd_Model_two Q 91 [some (.ref 38), some (.int (nI w)), some (.int wh), some (.int y), some (.int f), some (.int (nI a)), some (.int (nI b)), some (.int (bI is)), some (.int x)] [] (gm L xs A I F P) := by
  obtain ⟨hn, hI, hS, hH⟩ := hR
  intro j
  induction j with
  | zero =>
    intro k x is hj hx hf
    refine mm_WP.go [91, 165] 100 (lp_ge hx hI (by omega) (by omega) (fun h => ?_) (fun h => absurd h (by omega)))
    rw [an0, Bool.and_true] at hf
    subst hf
    exact next x
  | succ j ih =>
    intro k x is hj hx hf
    have hkn : k < n := by omega
    refine mm_WP.go [91, 159, 165] 100 (lp_ge hx hI (by omega) (by omega) (fun h => absurd h (by omega)) (fun _ => ?_))
    cases is with
    | false =>
      rw [Bool.false_and] at hf
      subst hf
      exact e0 (next x)
    | true =>
      refine e1 ?_
      subst hx
      have i1 := ix_ma (c := 6) (s := k) (w := w) (N := 144) (by decide) (by omega)
      have i2 := ix_ma (c := 90) (s := k) (w := a) (N := 2160) (by decide) (by omega)
      have i3 := ix_ma (c := 90) (s := k) (w := b) (N := 2160) (by decide) (by omega)
      have v1 : A 43 ((6 * nI k + nI w).toNatClampNeg) = bI (S k w) := by
        rw [show (6 * nI k + nI w).toNatClampNeg = 6 * k + w from i1.2]
        exact hS k w hkn hw
      have v2 : A 44 ((90 * nI k + nI a).toNatClampNeg) = bI (H k a) := by
        rw [show (90 * nI k + nI a).toNatClampNeg = 90 * k + a from i2.2]
        exact hH k a hkn ha
      have v3 : A 44 ((90 * nI k + nI b).toNatClampNeg) = bI (H k b) := by
        rw [show (90 * nI k + nI b).toNatClampNeg = 90 * k + b from i3.2]
        exact hH k b hkn hb
      have step : ∀ q : Bool, q = !(S k w && !(H k a || H k b)) → wp (d + 1) B cd_Model_two Q 159 [some (.ref 38), some (.int (nI w)), some (.int wh), some (.int y), some (.int f), some (.int (nI a)), some (.int (nI b)), some (.int (bI q)), some (.int (nI k))] [] (gm L xs A I F P) := by
        intro q hqv
        refine mm_WP.go [91] 100 (ih (k + 1) _ q (by omega) (nI_1 k) ?_)
        rw [← hf, Bool.true_and, hqv, an0]
      refine ⟨i1.1, fun c => ?_, fun c => ⟨i2.1, fun c2 => ?_, fun c2 => ⟨i3.1, fun c3 => ?_, fun c3 => ?_⟩⟩⟩
      · have h1 : S k w = false := bI_0 (v1 ▸ c)
        exact step true (by rw [h1]; rfl)
      · have h1 : H k a = true := bI_1 (v2 ▸ c2)
        exact step true (by rw [h1]; simp)
      · have h0 : S k w = true := bI_1 (v1 ▸ c)
        have h1 : H k a = false := bI_0 (v2 ▸ c2)
        have h2 : H k b = false := bI_0 (v3 ▸ c3)
        exact step false (by rw [h0, h1, h2]; rfl)
      · have h2 : H k b = true := bI_1 (v3 ▸ c3)
        exact step true (by rw [h2]; simp)
theorem qt_eq {w a b : Nat} : qt n H S w a b = ((!Lp n H S w 0 a && !Lp n H S w 0 b) && an0 (fun s => S s w && !(H s a || H s b)) n 0) := by
  have h : decide (sb n (fun s => S s w && !(H s a || H s b)) = 0) = an0 (fun s => S s w && !(H s a || H s b)) n 0 := by
    have h0 : (sb n (fun s => S s w && !(H s a || H s b)) = 0) ↔ (sb n (fun s => S s w && !(H s a || H s b)) = sb n (fun _ => false)) := by rw [sb_zero]
    rw [Bool.eq_iff_iff, an0_iff, decide_eq_true_iff, h0, sb_inj]
    exact ⟨fun h s _ h2 => h s (by omega), fun h s h2 => h s (Nat.zero_le _) (by omega)⟩
  unfold qt
  rw [h, Bool.and_comm]
/-- what comes out, with c found, f the first of these, cnt and srch of the rest -/
def v3 (wh : Int32) (c : Nat) (f : Int32) (cnt : Nat) (srch : Int32) : Int32 := if wh = 0 then nI (c + cnt) else if c = 0 then srch else f
theorem m_two_in {d : Nat} {B : Nat × Nat} {Q : mm_Q} (hR : RS n H S A I) {w a : Nat} (hw : w < 6) (ha : a < 90) (wh : Int32) (rc rb : Nat) (rs : Int32) (hrb : rb < 100000)
    (next : ∀ (c : Nat) (y f x6 : Int32) (u7 u8 : Option Value), (c = 0 → f = -9) → y = nI c → c ≤ rb → Q (some (.int (v3 wh c f rc rs))) (gm L xs A I F P) → wp (d + 1) B cd_Model_two Q 208 [some (.ref 38), some (.int (nI w)), some (.int wh), some (.int y), some (.int f), some (.int (nI a)), some (.int x6), u7, u8] [] (gm L xs A I F P)) :
    ∀ (j b c : Nat) (y f x : Int32) (u7 u8 : Option Value), (c = 0 → f = -9) → j + b = 90 → x = nI b → y = nI c → c + j ≤ rb → Q (some (.int (v3 wh c f (c2i (qt n H S w) a j b + rc) (s2i (qt n H S w) a rs j b)))) (gm L xs A I F P) → wp (d + 1) B cd_Model_two Q 52 [some (.ref 38), some (.int (nI w)), some (.int wh), some (.int y), some (.int f), some (.int (nI a)), some (.int x), u7, u8] [] (gm L xs A I F P) := by
  have hn := hR.1
  intro j
  induction j with
  | zero =>
    intro b c y f x u7 u8 hf0 hj hx hy hc hq
    refine mm_WP.go [52, 208] 100 (lp_ge (N := 90) hx rfl (by omega) (by omega) (fun _ => ?_) (fun h => absurd h (by omega)))
    rw [c2i, s2i, Nat.zero_add] at hq
    exact next c y f x u7 u8 hf0 hy (by omega) hq
  | succ j ih =>
    intro b c y f x u7 u8 hf0 hj hx hy hc hq
    have hb : b < 90 := by omega
    refine mm_WP.go [52, 86, 91] 100 (lp_ge (N := 90) hx rfl (by omega) (by omega) (fun h => absurd h (by omega)) (fun _ => ?_))
    subst hx
    -- behind the scenes' loop
    have fin : ∀ x8, wp (d + 1) B cd_Model_two Q 165 [some (.ref 38), some (.int (nI w)), some (.int wh), some (.int y), some (.int f), some (.int (nI a)), some (.int (nI b)), some (.int (bI (qt n H S w a b))), some (.int x8)] [] (gm L xs A I F P) := by
      intro x8
      cases hz : qt n H S w a b with
      | false =>
        rw [c2i, s2i, hz] at hq
        simp only [Bool.false_eq_true, if_false, Nat.zero_add] at hq
        refine mm_WP.go [52] 100 (e0 (e0 ?_))
        exact ih (b + 1) c _ _ _ _ _ hf0 (by omega) (nI_1 b) (by rw [hy]; exact Int32.add_zero _) (by omega) hq
      | true =>
        rw [c2i, s2i, hz] at hq
        simp only [if_true] at hq
        have e : (100 : Int32) * nI a + nI b = nI (100 * a + b) := by rw [show (100 : Int32) = nI 100 from rfl, pk_mul, nI_add]
        refine mm_WP.go [52] 100 (e1 ⟨fun hc0 => e1 ?_, fun hc0 => e1 ?_⟩)
        · have hc1 : c ≠ 0 := fun h => hc0 (by rw [hy, h]; rfl)
          refine ih (b + 1) (c + 1) _ _ _ _ _ (fun h => absurd h (by omega)) (by omega) (nI_1 b) (by rw [hy]; exact nI_1 c) (by omega) ?_
          unfold v3 at hq ⊢
          rw [if_neg hc1] at hq
          rw [if_neg (show ¬ c + 1 = 0 by omega), show c + 1 + (c2i (qt n H S w) a j (b + 1) + rc) = c + (1 + c2i (qt n H S w) a j (b + 1) + rc) by omega]
          exact hq
        · have hc1 : c = 0 := by
            rw [hy, show (0 : Int32) = nI 0 from rfl, nI_eq (by omega) (by omega)] at hc0
            exact hc0
          refine ih (b + 1) (c + 1) _ _ _ _ _ (fun h => absurd h (by omega)) (by omega) (nI_1 b) (by rw [hy]; exact nI_1 c) (by omega) ?_
          unfold v3 at hq ⊢
          rw [if_pos hc1, ← e] at hq
          rw [if_neg (show ¬ c + 1 = 0 by omega), show c + 1 + (c2i (qt n H S w) a j (b + 1) + rc) = c + (1 + c2i (qt n H S w) a j (b + 1) + rc) by omega]
          exact hq
    have mid : ∀ q : Bool, q = (!Lp n H S w 0 a && !Lp n H S w 0 b) → wp (d + 1) B cd_Model_two Q 86 [some (.ref 38), some (.int (nI w)), some (.int wh), some (.int y), some (.int f), some (.int (nI a)), some (.int (nI b)), u7, u8] [.int (bI q)] (gm L xs A I F P) := by
      intro q hqv
      refine mm_WP.go [91] 100 ?_
      refine m_two_sc hR hw ha hb wh y f (qt n H S w a b) fin n 0 _ q (by omega) rfl ?_
      rw [qt_eq, hqv]
    refine ⟨_, m_isLeft d hR hw ha 0, ?_⟩
    rintro r m1 ⟨rfl, ⟨h, rfl⟩ | ⟨h, rfl⟩⟩
    · exact n1 (mid false (by rw [Lp0.mp h]; rfl))
    · refine n0 ⟨_, m_isLeft d hR hw hb 0, ?_⟩
      have ha0 : Lp n H S w 0 a = false := by simpa using fun z => h (Lp0.mpr z)
      rintro r m1 ⟨rfl, ⟨h2, rfl⟩ | ⟨h2, rfl⟩⟩
      · exact n1 (mid false (by rw [Lp0.mp h2]; simp))
      · have hb0 : Lp n H S w 0 b = false := by simpa using fun z => h2 (Lp0.mpr z)
        exact n0 (mid true (by rw [ha0, hb0]; rfl))
theorem m_two_out {d : Nat} {B : Nat × Nat} {Q : mm_Q} (hR : RS n H S A I) {w : Nat} (hw : w < 6) (wh : Int32) :
    ∀ (j a c : Nat) (y f x : Int32) (u6 u7 u8 : Option Value), j + a = 90 → x = nI a → y = nI c → c + 90 * j < 100000 → Q (some (.int (v3 wh c f (c2 (qt n H S w) j a) (s2 (qt n H S w) j a)))) (gm L xs A I F P) → (c = 0 → f = -9) → wp (d + 1) B cd_Model_two Q 39 [some (.ref 38), some (.int (nI w)), some (.int wh), some (.int y), some (.int f), some (.int x), u6, u7, u8] [] (gm L xs A I F P) := by
  intro j
  induction j with
  | zero =>
    intro a c y f x u6 u7 u8 hj hx hy hc hq hf
    refine mm_WP.go [39] 100 (lp_ge (N := 90) hx rfl (by omega) (by omega) (fun _ => ?_) (fun h => absurd h (by omega)))
    rw [c2, s2] at hq
    unfold v3 at hq
    refine ⟨fun c1 => ?_, fun c1 => ?_⟩
    · rw [if_neg c1] at hq
      by_cases h0 : c = 0
      · rw [if_pos h0, ← hf h0] at hq
        exact hq
      · rw [if_neg h0] at hq
        exact hq
    · rw [if_pos c1, Nat.add_zero] at hq
      subst hy
      exact hq
  | succ j ih =>
    intro a c y f x u6 u7 u8 hj hx hy hc hq hf
    refine mm_WP.go [39, 52] 100 (lp_ge (N := 90) hx rfl (by omega) (by omega) (fun h => absurd h (by omega)) (fun _ => ?_))
    subst hx
    rw [c2, s2] at hq
    refine m_two_in hR hw (by omega) wh (c2 (qt n H S w) j (a + 1)) (c + 90) (s2 (qt n H S w) j (a + 1)) (by omega) ?_ (89 - a) (a + 1) c _ _ _ _ _ hf (by omega) (nI_1 a) hy (by omega) hq
    intro c2' y2 f2 x6 u7' u8' hf2 hy2 hc2 hq2
    exact mm_WP.go [39] 100 (ih (a + 1) c2' _ _ _ _ _ _ (by omega) (nI_1 a) hy2 (by omega) hq2 hf2)
theorem m_two (d : Nat) (hR : RS n H S A I) {w : Nat} (hw : w < 6) {wh : Int32} (hwh : wh = 0 ∨ wh = 1) : sp (d + 5) 159 [.ref 38, .int (nI w), .int wh] (gm L xs A I F P) (ans (gm L xs A I F P) (v2 n H S w wh)) := by
  refine ⟨⟨_, rfl⟩, rfl, mm_WP.go [39] 100 ⟨_, m_isWord (d + 2) _ _, ?_⟩⟩
  rintro r m1 ⟨rfl, ⟨-, rfl⟩ | ⟨h, rfl⟩⟩
  · refine n1 ⟨_, m_in (d + 3) _ _ _ _, ?_⟩
    intro r m1 hy
    obtain ⟨rfl, ⟨h, rfl⟩ | ⟨h, rfl⟩⟩ := yes_iff (in_vp (b := 1) (n := 2) rfl) hy
    · refine n1 ?_
      refine m_two_out (d := d + 3) hR hw wh 90 0 0 _ _ _ none none none rfl rfl rfl (by decide) ?_ (fun _ => rfl)
      unfold v3 ans v2
      rw [if_pos rfl, Nat.zero_add]
      exact ⟨rfl, rfl⟩
    · exact absurd (vp2.mpr hwh) h
  · exact absurd (ix_n (N := 6) (by decide) hw).1 h
end M7
