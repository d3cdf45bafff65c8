/-! never, two: loops over pairs of meanings -/
def c2i (q : Nat → Nat → Bool) (a : Nat) : Nat → Nat → Nat
  | 0, _ => 0
  | j + 1, b => (if q a b then 1 else 0) + c2i q a j (b + 1)
def c2 (q : Nat → Nat → Bool) : Nat → Nat → Nat
  | 0, _ => 0
  | j + 1, a => c2i q a (89 - a) (a + 1) + c2 q j (a + 1)
def s2i (q : Nat → Nat → Bool) (a : Nat) (z : Int32) : Nat → Nat → Int32
  | 0, _ => z
  | j + 1, b => if q a b then nI (100 * a + b) else s2i q a z j (b + 1)
def s2 (q : Nat → Nat → Bool) : Nat → Nat → Int32
  | 0, _ => -9
  | j + 1, a => s2i q a (s2 q j (a + 1)) (89 - a) (a + 1)
/-- downward: pairs by the greater -/
def d2 (q : Nat → Nat → Bool) : Nat → Nat
  | 0 => 0
  | a + 1 => d2 q a + fb_ct (q a) a
theorem c2i_ct (q : Nat → Nat → Bool) (a : Nat) : ∀ j b, c2i q a j b = fb_ct (fun t => q a (b + t)) j
  | 0, _ => rfl
  | j + 1, b => by
    rw [c2i, c2i_ct q a j (b + 1), Nat.add_comm j 1, fb_ct_split, fb_ct_succ, fb_ct, Nat.zero_add]
    congr 1
    apply fb_ct_cong
    intro k _
    rw [show b + 1 + k = b + (1 + k) by omega]
/-- the same by a bound N -/
def c3 (q : Nat → Nat → Bool) (N : Nat) : Nat → Nat → Nat
  | 0, _ => 0
  | j + 1, a => fb_ct (fun t => q a (a + 1 + t)) (N - 1 - a) + c3 q N j (a + 1)
theorem c2_c3 (q : Nat → Nat → Bool) : ∀ j a, c2 q j a = c3 q 90 j a
  | 0, _ => rfl
  | j + 1, a => by rw [c2, c3, c2i_ct, c2_c3 q j (a + 1)]
theorem c3_step (q : Nat → Nat → Bool) (N : Nat) : ∀ j a, j + a = N → c3 q (N + 1) j a = c3 q N j a + fb_ct (fun t => q (a + t) N) j
  | 0, _, _ => rfl
  | j + 1, a, h => by
    rw [c3, c3, c3_step q N j (a + 1) (by omega), show N + 1 - 1 - a = (N - 1 - a) + 1 by omega, fb_ct_succ, show a + 1 + (N - 1 - a) = N by omega, Nat.add_comm j 1, fb_ct_split, fb_ct_succ, fb_ct]
    have : fb_ct (fun t => q (a + 1 + t) N) j = fb_ct (fun k => q (a + (1 + k)) N) j := fb_ct_cong (fun k _ => by rw [show a + 1 + k = a + (1 + k) by omega])
    rw [this]
    simp only [Nat.add_zero]
    omega
theorem c3_last (q : Nat → Nat → Bool) (N : Nat) : ∀ j a, j + a = N → c3 q (N + 1) (j + 1) a = c3 q (N + 1) j a
  | 0, a, h => by
    rw [c3, c3, c3, show N + 1 - 1 - a = 0 by omega]
    rfl
  | j + 1, a, h => by
    rw [c3, c3_last q N j (a + 1) (by omega)]
    conv => rhs; rw [c3]
theorem c3_d2 (q : Nat → Nat → Bool) (hs : ∀ a b, q a b = q b a) : ∀ N, c3 q N N 0 = d2 q N
  | 0 => rfl
  | N + 1 => by
    rw [c3_last q N N 0 rfl, c3_step q N N 0 rfl, c3_d2 q hs N, d2]
    congr 1
    apply fb_ct_cong
    intro k _
    rw [Nat.zero_add]
    exact hs k N
theorem c2i_le (q : Nat → Nat → Bool) (a : Nat) (j b : Nat) : c2i q a j b ≤ j := by rw [c2i_ct]; exact fb_ct_le _ _
theorem c2_le (q : Nat → Nat → Bool) : ∀ j a, c2 q j a ≤ 89 * j
  | 0, _ => Nat.le_refl _
  | j + 1, a => by
    have h1 := c2i_le q a (89 - a) (a + 1)
    have h2 := c2_le q j (a + 1)
    rw [c2]
    omega
/-- no scene parts them -/
def qs (n : Nat) (H : Nat → Nat → Bool) (a b : Nat) : Bool := decide (sb n (fun s => H s a) = sb n (fun s => H s b))
/-- the two meanings of a word -/
def qt (n : Nat) (H S : Nat → Nat → Bool) (w a b : Nat) : Bool := decide (sb n (fun s => S s w && !(H s a || H s b)) = 0) && (!Lp n H S w 0 a && !Lp n H S w 0 b)
section M6
variable {L : Nat} {xs : Nat → Int32} {A I : Nat → Nat → Int32} {F : Nat → Nat → Option Nat} {P : mm_M} {n : Nat} {H S : Nat → Nat → Bool}
theorem c_unp_in {d : Nat} {B : Nat × Nat} {Q : mm_Q} (hC : CS n H S A I) {a : Nat} (ha : a < 90) (K : Nat) (next : ∀ (y x3 : Int32), y = nI K → wp d B cd_Told_countUnparted Q 44 [some (.ref 21), some (.int y), some (.int (nI a)), some (.int x3)] [] (gm L xs A I F P)) :
    ∀ (j b c : Nat) (y x : Int32), j + b = 90 → a < b → x = nI b → y = nI c → c + c2i (qs n H) a j b = K → wp d B cd_Told_countUnparted Q 14 [some (.ref 21), some (.int y), some (.int (nI a)), some (.int x)] [] (gm L xs A I F P) := by
  obtain ⟨hn, hI, hS, hH⟩ := hC
  intro j
  induction j with
  | zero =>
    intro b c y x hj hab hx hy hc
    refine mm_WP.go [14, 44] 100 (lp_ge (N := 90) hx rfl (by omega) (by omega) (fun _ => ?_) (fun h => absurd h (by omega)))
    exact next y x (by rw [hy, ← hc]; rfl)
  | succ j ih =>
    intro b c y x hj hab hx hy hc
    have hb : b < 90 := by omega
    refine mm_WP.go [14, 44] 100 (lp_ge (N := 90) hx rfl (by omega) (by omega) (fun h => absurd h (by omega)) (fun _ => ?_))
    subst hx
    have i1 := ix_n (w := a) (N := 90) (by decide) ha
    have i2 := ix_n (w := b) (N := 90) (by decide) hb
    have h1 := sb_24 hn (fun s => H s a)
    have h2 := sb_24 hn (fun s => H s b)
    have e : (A 26 ((nI a).toNatClampNeg) = A 26 ((nI b).toNatClampNeg)) ↔ qs n H a b = true := by
      rw [i1.2, i2.2, hH a ha, hH b hb, nI_eq (by omega) (by omega)]
      unfold qs
      exact decide_eq_true_iff.symm
    rw [c2i] at hc
    refine ⟨i1.1, i2.1, fun z => ?_, fun z => ?_⟩
    · rw [if_neg (fun q => z (e.mpr q))] at hc
      exact ih (b + 1) c _ _ (by omega) (by omega) (nI_1 b) hy (by omega)
    · rw [if_pos (e.mp z)] at hc
      exact ih (b + 1) (c + 1) _ _ (by omega) (by omega) (nI_1 b) (by rw [hy]; exact nI_1 c) (by omega)
theorem c_unp_out {d : Nat} {B : Nat × Nat} {Q : mm_Q} (hC : CS n H S A I) (K : Nat) (hq : Q (some (.int (nI K))) (gm L xs A I F P)) :
    ∀ (j a c : Nat) (y x : Int32) (u : Option Value), j + a = 90 → x = nI a → y = nI c → c + c2 (qs n H) j a = K → wp d B cd_Told_countUnparted Q 4 [some (.ref 21), some (.int y), some (.int x), u] [] (gm L xs A I F P) := by
  intro j
  induction j with
  | zero =>
    intro a c y x u hj hx hy hc
    refine mm_WP.go [4] 100 (lp_ge (N := 90) hx rfl (by omega) (by omega) (fun _ => ?_) (fun h => absurd h (by omega)))
    rw [hy, show c = K by rw [← hc]; rfl]
    exact hq
  | succ j ih =>
    intro a c y x u hj hx hy hc
    refine mm_WP.go [4, 14] 100 (lp_ge (N := 90) hx rfl (by omega) (by omega) (fun h => absurd h (by omega)) (fun _ => ?_))
    subst hx
    rw [c2] at hc
    refine c_unp_in hC (by omega) (c + c2i (qs n H) a (89 - a) (a + 1)) ?_ (89 - a) (a + 1) c _ _ (by omega) (by omega) (nI_1 a) hy rfl
    intro y2 x3 hy2
    exact mm_WP.go [4] 100 (ih (a + 1) (c + c2i (qs n H) a (89 - a) (a + 1)) _ _ _ (by omega) (nI_1 a) hy2 (by omega))
theorem c_never (d : Nat) (hC : CS n H S A I) : sp (d + 4) 107 [.ref 6] (gm L xs A I F P) (ans (gm L xs A I F P) (nI (c2 (qs n H) 90 0))) := by
  have h : sp (d + 3) 65 [.ref 21] (gm L xs A I F P) (ans (gm L xs A I F P) (nI (c2 (qs n H) 90 0))) := by
    refine ⟨⟨_, rfl⟩, rfl, mm_WP.go [4] 100 ?_⟩
    exact c_unp_out hC (c2 (qs n H) 90 0) ⟨rfl, rfl⟩ 90 0 0 _ _ none rfl rfl rfl (Nat.zero_add _)
  refine ⟨⟨_, rfl⟩, rfl, mm_WP.go [] 100 ⟨_, h, ?_⟩⟩
  rintro r m1 ⟨rfl, rfl⟩
  exact ⟨rfl, rfl⟩
theorem m_nev_in {d : Nat} {B : Nat × Nat} {Q : mm_Q} (hR : RS n H S A I) {a : Nat} (ha : a < 90) (K : Nat) (next : ∀ (y x3 : Int32), y = nI K → wp (d + 1) B cd_Model_never Q 40 [some (.ref 38), some (.int y), some (.int (nI a)), some (.int x3)] [] (gm L xs A I F P)) :
    ∀ (j b : Nat) (y x : Int32) (c : Nat), j + b = a → x = nI b → y = nI (c + fb_ct (qs n H a) b) → c + fb_ct (qs n H a) a = K → wp (d + 1) B cd_Model_never Q 12 [some (.ref 38), some (.int y), some (.int (nI a)), some (.int x)] [] (gm L xs A I F P) := by
  have hn := hR.1
  intro j
  induction j with
  | zero =>
    intro b y x c hj hx hy hc
    refine mm_WP.go [12, 40] 100 (lp_ge (N := a) hx rfl (by omega) (by omega) (fun _ => ?_) (fun h => absurd h (by omega)))
    have : b = a := by omega
    subst this
    exact next y x (by rw [hy, hc])
  | succ j ih =>
    intro b y x c hj hx hy hc
    have hb : b < 90 := by omega
    refine mm_WP.go [12, 40] 100 (lp_ge (N := a) hx rfl (by omega) (by omega) (fun h => absurd h (by omega)) (fun _ => ?_))
    subst hx
    have hf := fi_neg (p := fun s => H s a ^^ H s b) n 0 (by omega)
    have e : (fi (fun s => H s a ^^ H s b) n 0 < 0) ↔ qs n H a b = true := by
      rw [hf]
      unfold qs
      rw [decide_eq_true_iff, sb_inj]
      refine ⟨fun h i hi => ?_, fun h i _ hi => ?_⟩
      · simpa using h i (Nat.zero_le _) (by omega)
      · rw [h i (by omega)]; simp
    refine ⟨_, m_partOf d hR ha hb, ?_⟩
    rintro r m1 ⟨rfl, rfl⟩
    refine ⟨fun z => ?_, fun z => ?_⟩
    · refine ih (b + 1) _ _ c (by omega) (nI_1 b) ?_ hc
      rw [hy, fb_ct_succ, if_neg (fun q => absurd (e.mpr q) (Int32.not_lt.mpr z))]
      exact Int32.add_zero _
    · refine ih (b + 1) _ _ c (by omega) (nI_1 b) ?_ hc
      rw [hy, fb_ct_succ, if_pos (e.mp (Int32.not_le.mp z)), ← Nat.add_assoc]
      exact nI_1 _
theorem m_nev_out {d : Nat} {B : Nat × Nat} {Q : mm_Q} (hR : RS n H S A I) (hq : Q (some (.int (nI (d2 (qs n H) 90)))) (gm L xs A I F P)) :
    ∀ (j a : Nat) (y x : Int32) (u : Option Value), j + a = 90 → x = nI a → y = nI (d2 (qs n H) a) → wp (d + 1) B cd_Model_never Q 4 [some (.ref 38), some (.int y), some (.int x), u] [] (gm L xs A I F P) := by
  intro j
  induction j with
  | zero =>
    intro a y x u hj hx hy
    refine mm_WP.go [4] 100 (lp_ge (N := 90) hx rfl (by omega) (by omega) (fun h => ?_) (fun h => absurd h (by omega)))
    subst h
    rw [hy]
    exact hq
  | succ j ih =>
    intro a y x u hj hx hy
    refine mm_WP.go [4, 12] 100 (lp_ge (N := 90) hx rfl (by omega) (by omega) (fun h => absurd h (by omega)) (fun _ => ?_))
    subst hx
    refine m_nev_in hR (by omega) (d2 (qs n H) (a + 1)) ?_ a 0 _ _ (d2 (qs n H) a) (by omega) rfl hy rfl
    intro y2 x3 hy2
    exact mm_WP.go [4] 100 (ih (a + 1) _ _ _ (by omega) (nI_1 a) hy2)
theorem m_never (d : Nat) (hR : RS n H S A I) : sp (d + 4) 173 [.ref 38] (gm L xs A I F P) (ans (gm L xs A I F P) (nI (c2 (qs n H) 90 0))) := by
  refine ⟨⟨_, rfl⟩, rfl, mm_WP.go [4] 100 ?_⟩
  refine m_nev_out (d := d + 2) hR ?_ 90 0 _ _ none rfl rfl rfl
  rw [c2_c3, c3_d2]
  · exact ⟨rfl, rfl⟩
  · intro a b
    unfold qs
    exact decide_eq_decide.mpr eq_comm
end M6
