/-! saying, of both -/
def wA (w p : Nat) : Nat := if p = 0 then w / 100 else if p = 1 then w / 10 % 10 else w % 10
def ok3 (w : Nat) : Prop := W3 w ∧ ¬ w / 100 = w / 10 % 10 ∧ ¬ w / 100 = w % 10 ∧ ¬ w / 10 % 10 = w % 10
def O3 (x : Int32) : Prop := ∃ w, x = nI w ∧ ok3 w
theorem O3_iff {w : Nat} (hw : w < 2 ^ 31) : O3 (nI w) ↔ ok3 w := by
  refine ⟨fun ⟨v, e, h⟩ => ?_, fun h => ⟨w, rfl, h⟩⟩
  have hv : v < 600 := h.1.1
  have := (nI_eq hw (by omega)).mp e
  rw [this]
  exact h
theorem i_nat {x : Int32} (h : ¬ x < 0) : ∃ w, w < 2 ^ 31 ∧ x = nI w := by
  rw [fa_lt, Int32.toInt_zero] at h
  have h2 := Int32.toInt_lt x
  have h3 : x.toInt.toNat < 2 ^ 31 := by omega
  refine ⟨x.toInt.toNat, h3, Int32.toInt_inj.mp ?_⟩
  rw [nI_toInt h3]
  omega
theorem d_100 {w : Nat} (hw : w < 2 ^ 31) : nI w / 100 = nI (w / 100) := pk_div (d := 100) hw (by decide) (by decide)
theorem d_10 {w : Nat} (hw : w < 2 ^ 31) : nI w / 10 - nI w / 10 / 10 * 10 = nI (w / 10 % 10) := by
  rw [show nI w / 10 = nI (w / 10) from pk_div (d := 10) hw (by decide) (by decide)]
  exact pk_rem (d := 10) (by omega) (by decide) (by decide)
theorem d_1 {w : Nat} (hw : w < 2 ^ 31) : nI w - nI w / 10 * 10 = nI (w % 10) := pk_rem (d := 10) hw (by decide) (by decide)
theorem c_wordAt (d : Nat) {w p : Nat} (hw : w < 2 ^ 31) (hp : p < 3) (mem : mm_M) : sp (d + 1) 102 [.int (nI w), .int (nI p)] mem (ans mem (nI (wA w p))) := by
  match p, hp with
  | 0, _ => exact ⟨trivial, rfl, mm_WP.go [] 20 ⟨fun _ => ⟨by decide, congrArg (fun z => some (Value.int z)) (d_100 hw), rfl⟩, fun c => absurd rfl c⟩⟩
  | 1, _ => exact ⟨trivial, rfl, mm_WP.go [] 20 ⟨fun c => absurd c (by decide), fun _ => ⟨fun _ => ⟨by decide, by decide, congrArg (fun z => some (Value.int z)) (d_10 hw), rfl⟩, fun c => absurd rfl c⟩⟩⟩
  | 2, _ => exact ⟨trivial, rfl, mm_WP.go [] 20 ⟨fun c => absurd c (by decide), fun _ => ⟨fun c => absurd c (by decide), fun _ => ⟨by decide, congrArg (fun z => some (Value.int z)) (d_1 hw), rfl⟩⟩⟩⟩
  | p + 3, h => exact absurd h (by omega)
theorem c_no3 (d : Nat) (x : Int32) (mem : mm_M) : sp (d + 2) 101 [.int x] mem (yes mem (¬ O3 x)) := by
  by_cases h0 : x < 0
  · refine ⟨trivial, rfl, mm_WP.go [] 60 ⟨fun c => absurd h0 (Int32.not_lt.mpr c), fun _ => ⟨rfl, rfl, Or.inl ⟨fun ⟨w, e, h⟩ => ?_, rfl⟩⟩⟩⟩
    rw [e] at h0
    have : w < 600 := h.1.1
    exact nI_pos (by omega) h0
  · obtain ⟨w, hw, rfl⟩ := i_nat h0
    have hiff := O3_iff hw
    have yy : ¬ ok3 w → fits .boolean (.int 1) = true ∧ yes mem (¬ O3 (nI w)) (some (.int 1)) mem := fun h => ⟨rfl, rfl, Or.inl ⟨fun z => h (hiff.mp z), rfl⟩⟩
    have v6 : ∀ k : Nat, k < 2 ^ 31 → (vp_in (nI k) 6 ↔ k < 6) := fun k hk => by
      rw [vp_in_iff, nI_toInt hk]
      omega
    have ee : ∀ a b : Nat, a < 2 ^ 31 → b < 2 ^ 31 → (nI a = nI b ↔ a = b) := fun a b ha hb => nI_eq ha hb
    have w1 : wA w 0 = w / 100 := rfl
    have w2 : wA w 1 = w / 10 % 10 := rfl
    have w3 : wA w 2 = w % 10 := rfl
    refine ⟨trivial, rfl, mm_WP.go [] 80 ⟨fun _ => ca (c_wordAt d (p := 0) hw (by decide) mem) (ca (c_wordAt d (p := 1) hw (by decide) mem) (ca (c_wordAt d (p := 2) hw (by decide) mem) ?_)), fun c => absurd (Int32.not_lt.mp h0) c⟩⟩
    rw [w1, w2, w3]
    refine cy (c_noWord d _ _) (fun h => n1 (yy ?_)) (fun h => n0 (cy (c_noWord d _ _) (fun h2 => n1 (yy ?_)) (fun h2 => n0 (cy (c_noWord d _ _) (fun h3 => n1 (yy ?_)) (fun h3 => n0 ⟨fun c => yy ?_, fun c1 => ⟨fun c => yy ?_, fun c2 => ⟨fun c3 => ⟨rfl, rfl, Or.inr ⟨fun z => z (hiff.mpr ?_), rfl⟩⟩, fun c => yy ?_⟩⟩⟩)))))
    · rw [v6 _ (by omega)] at h
      exact fun z => h (by have := z.1.1; omega)
    · rw [v6 _ (by omega)] at h2
      exact fun z => h2 z.1.2.1
    · rw [v6 _ (by omega)] at h3
      exact fun z => h3 z.1.2.2
    · rw [ee _ _ (by omega) (by omega)] at c
      exact fun z => z.2.1 c
    · rw [ee _ _ (by omega) (by omega)] at c
      exact fun z => z.2.2.1 c
    · rw [v6 _ (by omega)] at h h2 h3
      rw [ee _ _ (by omega) (by omega)] at c1 c2 c3
      exact ⟨⟨by omega, by omega, by omega⟩, c1, c2, c3⟩
    · rw [ee _ _ (by omega) (by omega)] at c
      exact fun z => z.2.2.2 c
def stY (X : Tl) (s w : Nat) : Tl := (X.1, X.2.1, X.2.2.1, X.2.2.2.1, X.2.2.2.2.1, X.2.2.2.2.2.1, X.2.2.2.2.2.2.1, xY X + 1, fun j => if j = xY X then s else xA X j, fun j => if j = xY X then w else xB X j)
theorem stY_at {a b f g : Nat → Int32} {ya yb : Nat → Nat} {y s w : Nat} (h : ∀ i, i < y → a i = nI (ya i) ∧ b i = nI (yb i)) (hf : f = upd a y (nI s)) (hg : g = upd b y (nI w)) : ∀ i, i < y + 1 → f i = nI (if i = y then s else ya i) ∧ g i = nI (if i = y then w else yb i) := by
  intro i hi
  subst hf
  subst hg
  rw [upd_at, upd_at]
  by_cases c : i = y
  · rw [if_pos c, if_pos c, if_pos c, if_pos c]
    exact ⟨rfl, rfl⟩
  · rw [if_neg c, if_neg c, if_neg c, if_neg c]
    exact h i (by omega)
section M40
variable {L : Nat} {xs : Nat → Int32} {A I : Nat → Nat → Int32} {F : Nat → Nat → Option Nat} {P : mm_M} {X : Tl} {Z : Option Tl} {t : Nat → Nat} {N : Nat} {rf : Nat → Int32}
theorem c_saying (d : Nat) (ho : okT X) (h : CI (X, Z, t, N, rf) A I F P) {s w : Nat} (hs : s < xN X) (hw : ok3 w) (hy : xY X < 20) : sp (d + 3) 100 [.ref 6, .int (nI s), .int (nI w)] (gm L xs A I F P) (cQ L xs A I (stY X s w, Z, t, N, rf) (.int (nI (xY X + 1)))) := by
  obtain ⟨⟨a1, a2, a3, a4, a5, a6, a7, a8, a9, a10⟩, h2⟩ := h
  have a9 : I 21 11 = nI (xY X) := a9
  have hn := ho.1
  have iy : vp_in (I 21 11) 20 ∧ (I 21 11).toNatClampNeg = xY X := by
    rw [a9]
    exact ix_n (by decide) hy
  have h20 : ¬ (20 : Int32) ≤ I 21 11 := by
    rw [a9, show (20 : Int32) = nI 20 from rfl, nI_leI (by omega) (by omega)]
    omega
  have add : sp (d + 2) 61 [.ref 21, .int (nI s), .int (nI w)] (gm L xs A I F P) (cQ L xs A I (stY X s w, Z, t, N, rf) (.int (nI (xY X + 1)))) := by
    refine ⟨⟨_, rfl⟩, rfl, mm_WP.go [] 60 ⟨fun c => absurd c h20, fun _ => ⟨iy.1, iy.1, trivial, congrArg (fun z => some (Value.int z)) (show I 21 11 + 1 = _ by rw [a9, nI_1]), uR (uR A 30 (upd (A 30) ((I 21 11).toNatClampNeg) (nI s))) 31 (upd (A 31) ((I 21 11).toNatClampNeg) (nI w)), uI I 21 11 (I 21 11 + 1), F, P, rfl, ⟨⟨a1, a2, a3, a4, a5, a6, a7, a8, ?_, ?_⟩, h2⟩, (sR.rf.r (by decide) _).r (by decide) _, tR.rf.i (by decide) _ _⟩⟩⟩
    · show I 21 11 + 1 = nI (xY X + 1)
      rw [a9, nI_1]
    · rw [iy.2]
      exact stY_at a10 rfl rfl
  refine ⟨⟨_, rfl⟩, rfl, mm_WP.go [] 60 (cy (c_noScene (d + 1) hn a1 _) (fun z => absurd (ix_n (by omega) hs).1 z) (fun _ => n0 (cy (c_no3 d _ _) (fun z => absurd ⟨w, rfl, hw⟩ z) (fun _ => e0 ⟨fun _ => ⟨_, add, ?_⟩, fun c => absurd (Int32.not_le.mp h20) c⟩))))⟩
  rintro r m ⟨rfl, hq⟩
  exact ⟨rfl, hq⟩
theorem c_saying_1 (d : Nat) (ho : okT X) (h : CI (X, Z, t, N, rf) A I F P) {s x : Int32} (hh : ¬ (vp_in s (xN X) ∧ O3 x)) : sp (d + 3) 100 [.ref 6, .int s, .int x] (gm L xs A I F P) (rC L xs A I F P 1 (-1)) :=
  ⟨⟨_, rfl⟩, rfl, mm_WP.go [] 60 (cy (c_noScene (d + 1) ho.1 h.1.1 _) (fun _ => n1 (ca (c_rf1 (d + 1)) ⟨rfl, rfl⟩)) (fun z => n0 (cy (c_no3 d _ _) (fun _ => e1 (ca (c_rf1 (d + 1)) ⟨rfl, rfl⟩)) (fun z2 => absurd ⟨Classical.not_not.mp z, Classical.not_not.mp z2⟩ hh))))⟩
theorem c_saying_6 (d : Nat) (ho : okT X) (h : CI (X, Z, t, N, rf) A I F P) {s x : Int32} (hh : vp_in s (xN X) ∧ O3 x) (hy : xY X = 20) : sp (d + 3) 100 [.ref 6, .int s, .int x] (gm L xs A I F P) (rC L xs A I F P 6 (-6)) := by
  have a9 : I 21 11 = nI (xY X) := h.1.2.2.2.2.2.2.2.2.1
  rw [hy] at a9
  have h20 : ¬ I 21 11 < (20 : Int32) := by
    rw [a9]
    decide
  exact ⟨⟨_, rfl⟩, rfl, mm_WP.go [] 60 (cy (c_noScene (d + 1) ho.1 h.1.1 _) (fun z => absurd hh.1 z) (fun _ => n0 (cy (c_no3 d _ _) (fun z => absurd hh.2 z) (fun _ => e0 ⟨fun c => absurd c h20, fun _ => ca (c_rf6 (d + 1)) ⟨rfl, rfl⟩⟩))))⟩
theorem m_saying_g (d : Nat) (ho : okT X) (h : RI (X, Z, t, N, rf) A I) {s x : Int32} {Q : mm_Q} (bad : ¬ (vp_in s (xN X) ∧ O3 x) → ∀ a b c, wp (d + 2) (mm_Al 161) cd_Model_saying Q 68 [some (.ref 38), some (.int s), some (.int x), some (.int a), some (.int b), some (.int c)] [] (gm L xs A I F P)) (good : vp_in s (xN X) → O3 x → ∀ a b c, wp (d + 2) (mm_Al 161) cd_Model_saying Q 74 [some (.ref 38), some (.int s), some (.int x), some (.int a), some (.int b), some (.int c)] [] (gm L xs A I F P)) : sp (d + 3) 161 [.ref 38, .int s, .int x] (gm L xs A I F P) Q := by
  have hr : RT X A I := h.1
  refine ⟨⟨_, rfl⟩, rfl, mm_WP.go [68, 74] 80 ⟨by decide, by decide, by decide, by decide, cy (m_isScene d ho.1 hr.1 _) (fun z => e1 ⟨fun c => bad (fun q => ?_) _ _ _, fun c => ?_⟩) (fun z => e0 (bad (fun q => z q.1) _ _ _))⟩⟩
  · obtain ⟨w, rfl, hw⟩ := q.2
    have : w < 600 := hw.1.1
    exact nI_pos (by omega) c
  · obtain ⟨w, hw, rfl⟩ := i_nat c
    have hiff := O3_iff hw
    have bad2 : ¬ ok3 w → ∀ a b c, wp (d + 2) (mm_Al 161) cd_Model_saying Q 68 [some (.ref 38), some (.int s), some (.int (nI w)), some (.int a), some (.int b), some (.int c)] [] (gm L xs A I F P) := fun k => bad (fun q => k (hiff.mp q.2))
    have l5 : ∀ k : Nat, k < 2 ^ 31 → ((5 : Int32) < nI k ↔ 5 < k) := fun k hk => nI_ltI (a := 5) (by decide) hk
    have ee : ∀ a b : Nat, a < 2 ^ 31 → b < 2 ^ 31 → (nI a = nI b ↔ a = b) := fun a b ha hb => nI_eq ha hb
    refine ⟨fun c => bad2 (fun z => ?_) _ _ _, fun c1 => ⟨fun c => bad2 (fun z => ?_) _ _ _, fun c2 => ⟨fun c => bad2 (fun z => ?_) _ _ _, fun c3 => ⟨fun c => bad2 (fun z => ?_) _ _ _, fun c4 => ⟨fun c => bad2 (fun z => ?_) _ _ _, fun c5 => ⟨fun c6 => good z (hiff.mpr ?_) _ _ _, fun c => bad2 (fun z => ?_) _ _ _⟩⟩⟩⟩⟩⟩
    · rw [d_100 hw, l5 _ (by omega)] at c
      have := z.1.1
      omega
    · rw [d_10 hw, l5 _ (by omega)] at c
      have := z.1.2.1
      omega
    · rw [d_1 hw, l5 _ (by omega)] at c
      have := z.1.2.2
      omega
    · rw [d_100 hw, d_10 hw, ee _ _ (by omega) (by omega)] at c
      exact z.2.1 c
    · rw [d_100 hw, d_1 hw, ee _ _ (by omega) (by omega)] at c
      exact z.2.2.1 c
    · rw [d_100 hw, l5 _ (by omega)] at c1
      rw [d_10 hw, l5 _ (by omega)] at c2
      rw [d_1 hw, l5 _ (by omega)] at c3
      rw [d_100 hw, d_10 hw, ee _ _ (by omega) (by omega)] at c4
      rw [d_100 hw, d_1 hw, ee _ _ (by omega) (by omega)] at c5
      rw [d_10 hw, d_1 hw, ee _ _ (by omega) (by omega)] at c6
      exact ⟨⟨by omega, by omega, by omega⟩, c4, c5, c6⟩
    · rw [d_10 hw, d_1 hw, ee _ _ (by omega) (by omega)] at c
      exact z.2.2.2 c
theorem m_saying (d : Nat) (ho : okT X) (h : RI (X, Z, t, N, rf) A I) {s w : Nat} (hs : s < xN X) (hw : ok3 w) (hy : xY X < 20) : sp (d + 3) 161 [.ref 38, .int (nI s), .int (nI w)] (gm L xs A I F P) (mQ L xs A I F P (stY X s w, Z, t, N, rf) (.int (nI (xY X + 1)))) := by
  have h0 := h
  obtain ⟨⟨a1, a2, a3, a4, a5, a6, a7, a8, a9, a10⟩, h2⟩ := h
  have a9 : I 38 11 = nI (xY X) := a9
  have hn := ho.1
  have iy : vp_in (I 38 11) 20 ∧ (I 38 11).toNatClampNeg = xY X := by
    rw [a9]
    exact ix_n (by decide) hy
  have h20 : ¬ I 38 11 = 20 := by
    rw [a9, show (20 : Int32) = nI 20 from rfl, nI_eq (by omega) (by omega)]
    omega
  refine m_saying_g d ho h0 (fun z => absurd ⟨(ix_n (by omega) hs).1, ⟨w, rfl, hw⟩⟩ z) (fun _ _ a b c => mm_WP.go [] 60 ⟨fun _ => ⟨iy.1, iy.1, trivial, congrArg (fun z => some (Value.int z)) (show I 38 11 + 1 = _ by rw [a9, nI_1]), uR (uR A 47 (upd (A 47) ((I 38 11).toNatClampNeg) (nI s))) 48 (upd (A 48) ((I 38 11).toNatClampNeg) (nI w)), uI I 38 11 (I 38 11 + 1), rfl, ⟨⟨a1, a2, a3, a4, a5, a6, a7, a8, ?_, ?_⟩, h2⟩, (sC.rf.r (by decide) _).r (by decide) _, tC.rf.i (by decide) _ _⟩, fun c => absurd c h20⟩)
  · show I 38 11 + 1 = nI (xY X + 1)
    rw [a9, nI_1]
  · rw [iy.2]
    exact stY_at a10 rfl rfl
theorem m_saying_1 (d : Nat) (ho : okT X) (h : RI (X, Z, t, N, rf) A I) {s x : Int32} (hh : ¬ (vp_in s (xN X) ∧ O3 x)) : sp (d + 3) 161 [.ref 38, .int s, .int x] (gm L xs A I F P) (rM L xs A I F P 1 (-1)) :=
  m_saying_g d ho h (fun _ a b c => mm_WP.go [] 60 (ca (m_rf1 (d + 1)) ⟨rfl, rfl⟩)) (fun z1 z2 => absurd ⟨z1, z2⟩ hh)
theorem m_saying_6 (d : Nat) (ho : okT X) (h : RI (X, Z, t, N, rf) A I) {s x : Int32} (hh : vp_in s (xN X) ∧ O3 x) (hy : xY X = 20) : sp (d + 3) 161 [.ref 38, .int s, .int x] (gm L xs A I F P) (rM L xs A I F P 6 (-6)) := by
  have a9 : I 38 11 = nI (xY X) := h.1.2.2.2.2.2.2.2.2.1
  rw [hy] at a9
  exact m_saying_g d ho h (fun z => absurd hh z) (fun _ _ a b c => mm_WP.go [] 60 ⟨fun c => absurd a9 c, fun _ => ca (m_rf6 (d + 1)) ⟨rfl, rfl⟩⟩)
end M40
theorem bo_saying (d : Nat) {E : St} (hE : okE E) (s x : Int32) : ∃ u E2, bo (d + 3) 100 161 [.int s, .int x] E (.int u) E2 := by
  obtain ⟨X, Z, t, N, rf⟩ := E
  have ho : okT X := hE.1
  have hn := ho.1
  by_cases hh : vp_in s (xN X) ∧ O3 x
  · by_cases hy : xY X = 20
    · exact bo_rf (k := 6) hE (by decide) (fun L xs A I F P h => c_saying_6 d ho h hh hy) (fun L xs A I F P h => m_saying_6 d ho h hh hy)
    · have hy20 : xY X ≤ 20 := ho.2.2.2.2.2.2.1
      obtain ⟨k, hk, rfl⟩ := vp_in_of hh.1 (by omega)
      obtain ⟨w, rfl, hw⟩ := hh.2
      refine ⟨_, (stY X k w, Z, t, N, rf), ⟨⟨ho.1, ho.2.1, ho.2.2.1, ho.2.2.2.1, ho.2.2.2.2.1, ho.2.2.2.2.2.1, by show xY X + 1 ≤ 20; omega, fun i hi => ?_⟩, hE.2⟩, fun L xs A I F P h => c_saying d ho h hk hw (by omega), fun L xs A I F P h => m_saying d ho h hk hw (by omega)⟩
      have hi : i < xY X + 1 := hi
      show (if i = xY X then k else xA X i) < xN X ∧ W3 (if i = xY X then w else xB X i)
      by_cases c : i = xY X
      · rw [if_pos c, if_pos c]
        exact ⟨hk, hw.1⟩
      · rw [if_neg c, if_neg c]
        exact ho.2.2.2.2.2.2.2 i (by omega)
  · exact bo_rf (k := 1) hE (by decide) (fun L xs A I F P h => c_saying_1 d ho h hh) (fun L xs A I F P h => m_saying_1 d ho h hh)
