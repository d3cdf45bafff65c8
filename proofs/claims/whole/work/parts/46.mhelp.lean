/-! the reference: help -/
def al (p : Nat → Bool) : Nat → Bool
  | 0 => true
  | k + 1 => al p k && p k
theorem al_iff {p : Nat → Bool} : ∀ k, al p k = true ↔ ∀ i, i < k → p i = true
  | 0 => ⟨fun _ i hi => absurd hi (Nat.not_lt_zero i), fun _ => rfl⟩
  | k + 1 => by
    rw [al, Bool.and_eq_true, al_iff k]
    refine ⟨fun h i hi => ?_, fun h => ⟨fun i hi => h i (by omega), h k (by omega)⟩⟩
    rcases Nat.lt_or_ge i k with h2 | h2
    · exact h.1 i h2
    · have : i = k := by omega
      subst this
      exact h.2
theorem al_mono {p : Nat → Bool} {j k : Nat} (hjk : j ≤ k) (h : al p j = false) : al p k = false := by
  cases h2 : al p k
  · rfl
  · rw [(al_iff j).mpr (fun i hi => (al_iff k).mp h2 i (by omega))] at h
    exact absurd h (by decide)
theorem bI_t {b : Bool} (h : b = true) : bI b = 1 := by rw [h]; rfl
theorem bI_f {b : Bool} (h : b = false) : bI b = 0 := by rw [h]; rfl
/-- those of a set have it -/
def hs1 (sh : Nat → Nat) (H : Nat → Nat → Bool) (T m i : Nat) : Bool := !T.testBit i || H (sh i) m
section M23
variable {L : Nat} {xs : Nat → Int32} {A I : Nat → Nat → Int32} {F : Nat → Nat → Option Nat} {P : mm_M} {n : Nat} {H S : Nat → Nat → Bool} {K : Nat} {sh : Nat → Nat}
theorem m_lb_in {d : Nat} {B : Nat × Nat} {Q : mm_Q} (hR : RS n H S A I) (hs : SHN n K sh A I) {w c : Int32} {T o : Nat} (ho : o < 90) (hT : T < 2 ^ 12) (a : Bool)
    (hq : ∀ u, wp d B cd_Model_leftBy Q 82 [some (.ref 38), some (.int w), some (.int (nI T)), some (.int c), some (.int (nI o)), some (.int (bI (a && al (hs1 sh H T o) K))), some (.int u)] [] (gm L xs A I F P)) :
    ∀ (j k : Nat) (x v : Int32), j + k = K → x = nI k → v = bI (a && al (hs1 sh H T o) k) → wp d B cd_Model_leftBy Q 25 [some (.ref 38), some (.int w), some (.int (nI T)), some (.int c), some (.int (nI o)), some (.int v), some (.int x)] [] (gm L xs A I F P) := by
  obtain ⟨hn, hI, hS, hH⟩ := hR
  obtain ⟨hK, _, hI2, hA⟩ := hs
  intro j
  induction j with
  | zero =>
    intro k x v hk hx hv
    refine mm_WP.go [25, 82] 100 (lp_ge hx hI2 (by omega) (by omega) (fun h => ?_) (fun h => absurd h (by omega)))
    subst h
    rw [hv]
    exact hq _
  | succ j ih =>
    intro k x v hk hx hv
    refine mm_WP.go [25, 82] 100 (lp_ge hx hI2 (by omega) (by omega) (fun h => absurd h (by omega)) (fun hkK => ?_))
    subst hx
    obtain ⟨a1, a2⟩ := hA k hkK
    have hi := ix_n (w := k) (N := 12) (by decide) (by omega)
    cases hb : a && al (hs1 sh H T o) k
    · rw [hb] at hv
      subst hv
      refine e0 ?_
      have e : (a && al (hs1 sh H T o) K) = false := by
        cases ha : a
        · rfl
        · rw [ha, Bool.true_and] at hb
          rw [Bool.true_and]
          exact al_mono (by omega) hb
      have h2 := hq (nI k)
      rw [e] at h2
      exact h2
    · rw [hb] at hv
      subst hv
      have hb2 := hb
      rw [Bool.and_eq_true] at hb2
      have hT2 : T < 2 ^ 31 := Nat.lt_of_lt_of_le hT (by decide)
      refine e1 ?_
      have ez := sr_b hT2 (show k < 31 by omega)
      refine ⟨fun c => ?_, fun c => ⟨hi.1, ?_⟩⟩
      · have h1 : T.testBit k = false := bI_0 (ez ▸ c)
        refine ih (k + 1) _ _ (by omega) (nI_1 k) (bI_t ?_).symm
        rw [hb2.1, al, hb2.2]
        unfold hs1
        rw [h1]
        rfl
      · have h1 : T.testBit k = true := bI_1 (ez ▸ c)
        rw [show A 53 ((nI k).toNatClampNeg) = nI (sh k) by rw [hi.2]; exact a1]
        have i2 := ix_ma (c := 90) (s := sh k) (w := o) (N := 2160) (by decide) (by omega)
        have v2 : A 44 ((90 * nI (sh k) + nI o).toNatClampNeg) = bI (H (sh k) o) := by
          rw [show (90 * nI (sh k) + nI o).toNatClampNeg = 90 * sh k + o from i2.2]
          exact hH (sh k) o a2 ho
        refine ⟨i2.1, fun c => ?_, fun c => ?_⟩
        · have h2 : H (sh k) o = false := bI_0 (v2 ▸ c)
          refine ih (k + 1) _ _ (by omega) (nI_1 k) (bI_f ?_).symm
          rw [hb2.1, al, hb2.2]
          unfold hs1
          rw [h1, h2]
          rfl
        · have h2 : H (sh k) o = true := bI_1 (v2 ▸ c)
          refine ih (k + 1) _ _ (by omega) (nI_1 k) (bI_t ?_).symm
          rw [hb2.1, al, hb2.2]
          unfold hs1
          rw [h1, h2]
          rfl
/-- how many are left by a set of places -/
def fT (n : Nat) (H S : Nat → Nat → Bool) (w K : Nat) (sh : Nat → Nat) (T : Nat) : Nat := fb_ct (fun o => L0 n H S w o && al (hs1 sh H T o) K) 90
theorem fT_le {w T : Nat} : fT n H S w K sh T ≤ 90 := fb_ct_le _ _
theorem m_lb_loop {d : Nat} {B : Nat × Nat} {Q : mm_Q} (hR : RS n H S A I) (hs : SHN n K sh A I) {w T : Nat} (hw : w < 6) (hT : T < 2 ^ 12) (hq : Q (some (.int (nI (fT n H S w K sh T)))) (gm L xs A I F P)) :
    ∀ (j k : Nat) (x y : Int32) (u1 u2 : Option Value), j + k = 90 → x = nI k → y = nI (fb_ct (fun o => L0 n H S w o && al (hs1 sh H T o) K) k) → wp (d + 1) B cd_Model_leftBy Q 5 [some (.ref 38), some (.int (nI w)), some (.int (nI T)), some (.int y), some (.int x), u1, u2] [] (gm L xs A I F P) := by
  intro j
  induction j with
  | zero =>
    intro k x y u1 u2 hk hx hy
    refine mm_WP.go [5] 100 (lp_ge (N := 90) hx rfl (by omega) (by omega) (fun h => ?_) (fun h => absurd h (by omega)))
    subst h
    rw [hy]
    exact hq
  | succ j ih =>
    intro k x y u1 u2 hk hx hy
    refine mm_WP.go [5, 25] 100 (lp_ge (N := 90) hx rfl (by omega) (by omega) (fun h => absurd h (by omega)) (fun _ => ?_))
    subst hx
    have fin : ∀ u, wp (d + 1) B cd_Model_leftBy Q 82 [some (.ref 38), some (.int (nI w)), some (.int (nI T)), some (.int y), some (.int (nI k)), some (.int (bI (L0 n H S w k && al (hs1 sh H T k) K))), some (.int u)] [] (gm L xs A I F P) := by
      intro u
      cases hb : L0 n H S w k && al (hs1 sh H T k) K
      · refine mm_WP.go [5] 100 (e0 (ih (k + 1) _ _ _ _ (by omega) (nI_1 k) ?_))
        rw [hy, fb_ct_succ, hb]
        exact Int32.add_zero _
      · refine mm_WP.go [5] 100 (e1 (ih (k + 1) _ _ _ _ (by omega) (nI_1 k) ?_))
        rw [hy, fb_ct_succ, hb]
        exact nI_1 _
    refine cy (m_isLeft d hR hw (by omega) 0) (fun h => ?_) (fun h => ?_)
    · exact m_lb_in hR hs (by omega) hT (L0 n H S w k) fin K 0 _ _ rfl rfl (by rw [show L0 n H S w k = true from Lp_iff.mpr h]; rfl)
    · exact m_lb_in hR hs (by omega) hT (L0 n H S w k) fin K 0 _ _ rfl rfl (by rw [L0_ff h]; rfl)
theorem m_leftBy (d : Nat) (hR : RS n H S A I) (hs : SHN n K sh A I) {w T : Nat} (hw : w < 6) (hT : T < 2 ^ 12) : sp (d + 2) 172 [.ref 38, .int (nI w), .int (nI T)] (gm L xs A I F P) (ans (gm L xs A I F P) (nI (fT n H S w K sh T))) := by
  refine ⟨⟨_, rfl⟩, rfl, mm_WP.go [5] 100 ?_⟩
  exact m_lb_loop hR hs hw hT ⟨rfl, rfl⟩ 90 0 _ _ _ _ rfl rfl rfl
theorem m_hp_in {d : Nat} {B : Nat × Nat} {Q : mm_Q} (hR : RS n H S A I) (hs : SHN n K sh A I) {w z y l : Int32} {T o : Nat} (ho : o < 90) (hT : T < 2 ^ 12) (a : Bool)
    (hq : ∀ u, wp d B cd_Model_help Q 162 [some (.ref 38), some (.int w), some (.int (nI o)), some (.int z), some (.int y), some (.int l), some (.int (nI T)), some (.int (bI (a && al (hs1 sh H T o) K))), some (.int u)] [] (gm L xs A I F P)) :
    ∀ (j k : Nat) (x v : Int32), j + k = K → x = nI k → v = bI (a && al (hs1 sh H T o) k) → wp d B cd_Model_help Q 105 [some (.ref 38), some (.int w), some (.int (nI o)), some (.int z), some (.int y), some (.int l), some (.int (nI T)), some (.int v), some (.int x)] [] (gm L xs A I F P) := by
  obtain ⟨hn, hI, hS, hH⟩ := hR
  obtain ⟨hK, _, hI2, hA⟩ := hs
  intro j
  induction j with
  | zero =>
    intro k x v hk hx hv
    refine mm_WP.go [105, 162] 100 (lp_ge hx hI2 (by omega) (by omega) (fun h => ?_) (fun h => absurd h (by omega)))
    subst h
    rw [hv]
    exact hq _
  | succ j ih =>
    intro k x v hk hx hv
    refine mm_WP.go [105, 162] 100 (lp_ge hx hI2 (by omega) (by omega) (fun h => absurd h (by omega)) (fun hkK => ?_))
    subst hx
    obtain ⟨a1, a2⟩ := hA k hkK
    have hi := ix_n (w := k) (N := 12) (by decide) (by omega)
    cases hb : a && al (hs1 sh H T o) k
    · rw [hb] at hv
      subst hv
      refine e0 ?_
      have e : (a && al (hs1 sh H T o) K) = false := by
        cases ha : a
        · rfl
        · rw [ha, Bool.true_and] at hb
          rw [Bool.true_and]
          exact al_mono (by omega) hb
      have h2 := hq (nI k)
      rw [e] at h2
      exact h2
    · rw [hb] at hv
      subst hv
      have hb2 := hb
      rw [Bool.and_eq_true] at hb2
      have hT2 : T < 2 ^ 31 := Nat.lt_of_lt_of_le hT (by decide)
      refine e1 ?_
      have ez := sr_b hT2 (show k < 31 by omega)
      refine ⟨fun c => ?_, fun c => ⟨hi.1, ?_⟩⟩
      · have h1 : T.testBit k = false := bI_0 (ez ▸ c)
        refine ih (k + 1) _ _ (by omega) (nI_1 k) (bI_t ?_).symm
        rw [hb2.1, al, hb2.2]
        unfold hs1
        rw [h1]
        rfl
      · have h1 : T.testBit k = true := bI_1 (ez ▸ c)
        rw [show A 53 ((nI k).toNatClampNeg) = nI (sh k) by rw [hi.2]; exact a1]
        have i2 := ix_ma (c := 90) (s := sh k) (w := o) (N := 2160) (by decide) (by omega)
        have v2 : A 44 ((90 * nI (sh k) + nI o).toNatClampNeg) = bI (H (sh k) o) := by
          rw [show (90 * nI (sh k) + nI o).toNatClampNeg = 90 * sh k + o from i2.2]
          exact hH (sh k) o a2 ho
        refine ⟨i2.1, fun c => ?_, fun c => ?_⟩
        · have h2 : H (sh k) o = false := bI_0 (v2 ▸ c)
          refine ih (k + 1) _ _ (by omega) (nI_1 k) (bI_f ?_).symm
          rw [hb2.1, al, hb2.2]
          unfold hs1
          rw [h1, h2]
          rfl
        · have h2 : H (sh k) o = true := bI_1 (v2 ▸ c)
          refine ih (k + 1) _ _ (by omega) (nI_1 k) (bI_t ?_).symm
          rw [hb2.1, al, hb2.2]
          unfold hs1
          rw [h1, h2]
          rfl
/-- may it be chosen -/
def pT (H : Nat → Nat → Bool) (K : Nat) (sh : Nat → Nat) (m z T : Nat) : Bool := decide (k24 T = z) && al (hs1 sh H T m) K
theorem m_hp_loop {d : Nat} {B : Nat × Nat} {Q : mm_Q} (hR : RS n H S A I) {q : Nat → Bool} {w m z : Nat} (hw : w < 6) (hm : m < 90) (hz : z ≤ 3) (hs : SHN n (fb_ct q 24) (shn q 24) A I) :
    ∀ (j k : Nat) (x y l : Int32) (b : Option Nat) (u1 u2 : Option Value), j + k = 2 ^ fb_ct q 24 → x = nI k → y = oM b → l = nI (ol (fT n H S w (fb_ct q 24) (shn q 24)) b) → (∀ c, b = some c → c < 2 ^ fb_ct q 24) → (∀ b2, (∀ c, b2 = some c → c < 2 ^ fb_ct q 24) → b2 = ns (pT H (fb_ct q 24) (shn q 24) m z) (fT n H S w (fb_ct q 24) (shn q 24)) j k b → Q (some (.int (oN (oS q b2)))) (gm L xs A I F P)) →
      wp (d + 2) B cd_Model_help Q 75 [some (.ref 38), some (.int (nI w)), some (.int (nI m)), some (.int (nI z)), some (.int y), some (.int l), some (.int x), u1, u2] [] (gm L xs A I F P) := by
  have hs0 := hs
  obtain ⟨hK, hn, hI2, hA2⟩ := hs
  have hp := pow_K hK
  have hsh : (1 : Int32) <<< (I 38 24 &&& 31) = nI (2 ^ fb_ct q 24) := by rw [hI2, sh_one _ (by omega)]
  intro j
  induction j with
  | zero =>
    intro k x y l b u1 u2 hk hx hy hl hb hq
    refine mm_WP.go [75] 100 (lp_ge hx hsh (by omega) (by omega) (fun h => ?_) (fun h => absurd h (by omega)))
    cases b with
    | none =>
      subst hy
      exact ⟨fun c => absurd c (by decide), fun _ => hq none hb rfl⟩
    | some c0 =>
      have hc := hb c0 rfl
      subst hy
      refine ⟨fun _ => ca (m_scenesOf (d + 1) hs0 hc) (hq (some c0) hb rfl), fun c => absurd (nI_pos' (by omega)) c⟩
  | succ j ih =>
    intro k x y l b u1 u2 hk hx hy hl hb hq
    refine mm_WP.go [75, 105] 100 (lp_ge hx hsh (by omega) (by omega) (fun h => absurd h (by omega)) (fun hk2 => ?_))
    subst hx
    have hk24 : k < 2 ^ 24 := Nat.lt_of_lt_of_le (show k < 4096 by omega) (by decide)
    have hk12 : k < 2 ^ 12 := show k < 4096 by omega
    have l1 := k24_le k
    have f1 := fT_le (n := n) (H := H) (S := S) (w := w) (K := fb_ct q 24) (sh := shn q 24) (T := k)
    have fin : ∀ u, wp (d + 2) B cd_Model_help Q 162 [some (.ref 38), some (.int (nI w)), some (.int (nI m)), some (.int (nI z)), some (.int y), some (.int l), some (.int (nI k)), some (.int (bI (pT H (fb_ct q 24) (shn q 24) m z k))), some (.int u)] [] (gm L xs A I F P) := by
      intro u
      cases hpk : pT H (fb_ct q 24) (shn q 24) m z k
      · refine mm_WP.go [75] 100 (e0 (ih (k + 1) _ _ _ b _ _ (by omega) (nI_1 k) hy hl hb (fun b2 h2 h3 => hq b2 h2 ?_)))
        rw [h3, ns_no hpk]
      · refine mm_WP.go [75] 100 (e1 (ca (m_leftBy d hR hs0 hw hk12) ?_))
        cases b with
        | none =>
          subst hy
          refine ⟨fun _ => ih (k + 1) _ _ _ (some k) _ _ (by omega) (nI_1 k) rfl rfl (fun c hc => by cases hc; omega) (fun b2 h2 h3 => hq b2 h2 ?_), fun c => absurd (by decide) c⟩
          rw [h3, ns, if_pos hpk]
        | some c0 =>
          have hc := hb c0 rfl
          have f2 := fT_le (n := n) (H := H) (S := S) (w := w) (K := fb_ct q 24) (sh := shn q 24) (T := c0)
          have hl2 : l = nI (fT n H S w (fb_ct q 24) (shn q 24) c0) := hl
          subst hy
          refine ⟨fun c => absurd c (nI_pos (by omega)), fun _ => ⟨fun c => ?_, fun c => ?_⟩⟩
          · rw [hl2, nI_leI (by omega) (by omega)] at c
            refine ih (k + 1) _ _ _ (some c0) _ _ (by omega) (nI_1 k) rfl hl hb (fun b2 h2 h3 => hq b2 h2 ?_)
            rw [h3, ns, if_neg (fun z => by omega)]
          · rw [hl2, nI_leI (by omega) (by omega)] at c
            refine ih (k + 1) _ _ _ (some k) _ _ (by omega) (nI_1 k) rfl rfl (fun c hc => by cases hc; omega) (fun b2 h2 h3 => hq b2 h2 ?_)
            rw [h3, ns, if_pos ⟨hpk, by omega⟩]
    refine ca (m_ones (d + 1) (by omega) _) ?_
    rw [k24_od hk24]
    refine ⟨fun c => ?_, fun c => ?_⟩
    · have c2 : ¬ k24 k = z := fun e => c (by rw [e])
      exact m_hp_in hR hs0 hm hk12 (decide (k24 k = z)) fin _ 0 _ _ rfl rfl (by rw [decide_eq_false c2]; rfl)
    · have c2 : k24 k = z := (nI_eq (by omega) (by omega)).mp c
      exact m_hp_in hR hs0 hm hk12 (decide (k24 k = z)) fin _ 0 _ _ rfl rfl (by rw [decide_eq_true c2]; rfl)
theorem al_sc {w m T : Nat} (hT : T < 2 ^ fb_ct (am n S w) 24) : al (hs1 (shn (am n S w) 24) H T m) (fb_ct (am n S w) 24) = true ↔ ∀ s, (sc 24 (am n S w) T).testBit s = true → H s m = true := by
  rw [al_iff]
  constructor
  · intro h s hs
    obtain ⟨a, b⟩ := sc_sub hs
    rw [sc_tb b, Bool.and_eq_true] at hs
    have h2 : fb_ct (am n S w) s < fb_ct (am n S w) 24 := by
      have := fb_ct_mono (am n S w) (show s + 1 ≤ 24 by omega)
      rw [fb_ct_succ, a] at this
      simp at this
      omega
    have h3 := h _ h2
    unfold hs1 at h3
    rw [hs.2, shn_of 24 b a] at h3
    exact h3
  · intro h i hi
    obtain ⟨a, b, c⟩ := shn_k hi
    unfold hs1
    cases ht : T.testBit i
    · rfl
    · have h2 : (sc 24 (am n S w) T).testBit (shn (am n S w) 24 i) = true := by
        rw [sc_tb a, b, c, ht]
        rfl
      rw [h _ h2]
      rfl
theorem mn_hp (hn : n ≤ 24) {w m z : Nat} {b : Option Nat} (h : mn (pT H (fb_ct (am n S w) 24) (shn (am n S w) 24) m z) (fT n H S w (fb_ct (am n S w) 24) (shn (am n S w) 24)) (2 ^ fb_ct (am n S w) 24) b) : mn (pH (uX n H S w m) z) (fX n H S w) (2 ^ 24) (oS (am n S w) b) := by
  have hK := am_12 (n := n) (S := S) (w := w) (s := 24)
  refine mn_map h (fun T hT => ⟨sc_lt _ _ _, ?_, ?_⟩) (fun X hX hp => ?_) (fun i k hi hk hik => sc_le hi hk hik)
  · rw [Bool.eq_iff_iff]
    unfold pH pT
    rw [bp_iff, Bool.and_eq_true, decide_eq_true_eq, al_sc hT]
    have hk := k24_sc hT hK
    unfold k24 at hk ⊢
    rw [hk]
    constructor
    · rintro ⟨h1, h2⟩
      refine ⟨h2, fun s hs => ?_⟩
      have h3 := h1 s hs
      rw [uX_tb (sc_sub hs).2, Bool.and_eq_true] at h3
      exact h3.2
    · rintro ⟨h1, h2⟩
      refine ⟨fun s hs => ?_, h1⟩
      obtain ⟨a, b⟩ := sc_sub hs
      rw [uX_tb b, a, h2 s hs]
      rfl
  · unfold fX fT
    refine fb_ct_cong (fun o ho => ?_)
    rw [Bool.and_comm]
    congr 1
    rw [Bool.eq_iff_iff, hqa_iff, al_sc hT]
    exact ⟨fun h s hs => h s (am_n (sc_sub hs).1) hs, fun h s _ hs => h s hs⟩
  · obtain ⟨h1, _⟩ := bp_iff.mp hp
    refine sc_all 24 X hX (fun i hi => ?_)
    have h2 := h1 i hi
    have h3 : i < 24 := Classical.byContradiction fun h => by
      rw [Nat.testBit_lt_two_pow (Nat.lt_of_lt_of_le uX_lt (Nat.pow_le_pow_right (by decide) (by omega)))] at h2
      exact absurd h2 (by decide)
    rw [uX_tb h3, Bool.and_eq_true] at h2
    exact h2.1
theorem m_help (d : Nat) (hR : RS n H S A I) {w m z : Nat} (hw : w < 6) (hm : m < 90) (hz1 : 1 ≤ z) (hz : z ≤ 3) (hl : L0 n H S w m = true) : sp (d + 8) 171 [.ref 38, .int (nI w), .int (nI m), .int (nI z)] (gm L xs A I F P) (fun r m1 => ∃ b, mn (pH (uX n H S w m) z) (fX n H S w) (2 ^ 24) b ∧ an L xs A I F P (oN b) r m1) := by
  refine ⟨⟨_, rfl⟩, rfl, mm_WP.go [75] 100 (cy (m_isWord (d + 5) _ _) (fun _ => e1 ?_) (fun h => absurd (ix_n (N := 6) (by decide) hw).1 h))⟩
  refine cy (m_isMeaning (d + 5) _ _) (fun _ => n1 ?_) (fun h => absurd (ix_n (N := 90) (by decide) hm).1 h)
  refine ⟨fun _ => ⟨fun _ => ?_, fun c => absurd ((nI_leI (a := z) (b := 3) (by omega) (by omega)).mpr hz) c⟩, fun c => absurd ((nI_leI (a := 1) (b := z) (by omega) (by omega)).mpr hz1) c⟩
  refine cy (m_isLeft (d + 6) hR hw hm 0) (fun _ => n1 ⟨_, m_findShown (d + 6) hR hw, ?_⟩) (fun h => absurd (Lp_iff.mp hl) h)
  rintro r m1 ⟨rfl, f, hs, rfl⟩
  refine m_hp_loop (A := uR A 53 f) (I := uI I 38 24 (nI (fb_ct (am n S w) 24))) (q := am n S w) (d := d + 5) hR hw hm hz hs (2 ^ fb_ct (am n S w) 24) 0 _ _ _ none _ _ rfl rfl rfl rfl (fun c hc => by cases hc) (fun b2 _ h2 => ?_)
  rw [h2]
  exact ⟨_, mn_hp hR.1 (ns_mn0 _ _ _), rfl, _, _, ob_R rfl, oi_I rfl, rfl⟩
theorem m_help_1 (d : Nat) {w m z : Int32} (hh : ¬ (vp_in w 6 ∧ vp_in m 90)) : sp (d + 8) 171 [.ref 38, .int w, .int m, .int z] (gm L xs A I F P) (rM L xs A I F P 1 (-1)) := by
  refine ⟨⟨_, rfl⟩, rfl, mm_WP.go [75] 100 (cy (m_isWord (d + 5) _ _) (fun h => e1 ?_) (fun h => e0 (ca (m_rf1 (d + 6)) ⟨rfl, rfl⟩)))⟩
  exact cy (m_isMeaning (d + 5) _ _) (fun h2 => absurd ⟨h, h2⟩ hh) (fun h2 => n0 (ca (m_rf1 (d + 6)) ⟨rfl, rfl⟩))
theorem m_help_4 (d : Nat) {w m z : Int32} (hw : vp_in w 6) (hm : vp_in m 90) (hz : z < 1) : sp (d + 8) 171 [.ref 38, .int w, .int m, .int z] (gm L xs A I F P) (rM L xs A I F P 4 (-4)) := by
  refine ⟨⟨_, rfl⟩, rfl, mm_WP.go [75] 100 (cy (m_isWord (d + 5) _ _) (fun h => e1 ?_) (fun h => absurd hw h))⟩
  exact cy (m_isMeaning (d + 5) _ _) (fun _ => n1 ⟨fun c => absurd hz (Int32.not_lt.mpr c), fun _ => ca (m_rf4 (d + 6)) ⟨rfl, rfl⟩⟩) (fun h => absurd hm h)
theorem m_help_6 (d : Nat) {w m z : Int32} (hw : vp_in w 6) (hm : vp_in m 90) (hz1 : ¬ z < 1) (hz : 3 < z) : sp (d + 8) 171 [.ref 38, .int w, .int m, .int z] (gm L xs A I F P) (rM L xs A I F P 6 (-6)) := by
  refine ⟨⟨_, rfl⟩, rfl, mm_WP.go [75] 100 (cy (m_isWord (d + 5) _ _) (fun h => e1 ?_) (fun h => absurd hw h))⟩
  exact cy (m_isMeaning (d + 5) _ _) (fun _ => n1 ⟨fun _ => ⟨fun c => absurd hz (Int32.not_lt.mpr c), fun _ => ca (m_rf6 (d + 6)) ⟨rfl, rfl⟩⟩, fun c => absurd (Int32.not_lt.mp hz1) c⟩) (fun h => absurd hm h)
theorem m_help_3 (d : Nat) (hR : RS n H S A I) {w m : Nat} {z : Int32} (hw : w < 6) (hm : m < 90) (hz1 : ¬ z < 1) (hz : ¬ 3 < z) (hl : ¬ L0 n H S w m = true) : sp (d + 8) 171 [.ref 38, .int (nI w), .int (nI m), .int z] (gm L xs A I F P) (rM L xs A I F P 3 (-3)) := by
  refine ⟨⟨_, rfl⟩, rfl, mm_WP.go [75] 100 (cy (m_isWord (d + 5) _ _) (fun _ => e1 ?_) (fun h => absurd (ix_n (N := 6) (by decide) hw).1 h))⟩
  refine cy (m_isMeaning (d + 5) _ _) (fun _ => n1 ?_) (fun h => absurd (ix_n (N := 90) (by decide) hm).1 h)
  refine ⟨fun _ => ⟨fun _ => ?_, fun c => absurd (Int32.not_lt.mp hz) c⟩, fun c => absurd (Int32.not_lt.mp hz1) c⟩
  exact cy (m_isLeft (d + 6) hR hw hm 0) (fun h => absurd (Lp_iff.mpr h) hl) (fun h => n0 (ca (m_rf3 (d + 6)) ⟨rfl, rfl⟩))
end M23
