/-! the rows of the law that ask -/
theorem CI_ob {E : St} {A A2 I I2 : Nat → Nat → Int32} {F : Nat → Nat → Option Nat} {P : mm_M} (hA : ob A2 = ob A) (hI : oi I2 = oi I) (h : CI E A I F P) : CI E A2 I2 F P := CI_of (fun a _ => congrFun hA a) (fun a _ => congrFun hI a) h
theorem RI_ob {E : St} {A A2 I I2 : Nat → Nat → Int32} (hA : ob A2 = ob A) (hI : oi I2 = oi I) (h : RI E A I) : RI E A2 I2 := RI_of (fun a _ => congrFun hA a) (fun a _ => congrFun hI a) h
theorem bo_an {D j j2 : Nat} {as : List Value} {E : St} (v : Int32) (hE : okE E) (hc : ∀ (L : Nat) (xs : Nat → Int32) A I F P, CI E A I F P → sp D j (.ref 6 :: as) (gm L xs A I F P) (an L xs A I F P v)) (hm : ∀ (L : Nat) (xs : Nat → Int32) A I F P, RI E A I → sp D j2 (.ref 38 :: as) (gm L xs A I F P) (an L xs A I F P v)) : bo D j j2 as E (.int v) E := by
  refine ⟨hE, fun L xs A I F P h => mm_Sp.post (hc L xs A I F P h) ?_, fun L xs A I F P h => mm_Sp.post (hm L xs A I F P h) ?_⟩
  · rintro r m ⟨rfl, A2, I2, e1, e2, rfl⟩
    exact ⟨rfl, _, _, _, _, rfl, CI_ob e1 e2 h, fun a _ => congrFun e1 a, fun a _ => congrFun e2 a⟩
  · rintro r m ⟨rfl, A2, I2, e1, e2, rfl⟩
    exact ⟨rfl, _, _, rfl, RI_ob e1 e2 h, fun a _ => congrFun e1 a, fun a _ => congrFun e2 a⟩
section AS
variable {E : St}
theorem bo_said (hE : okE E) (w : Int32) : ∃ v E2, bo 20 82 133 [.int w] E (.int v) E2 := by
  obtain ⟨X, Z, t, N, rf⟩ := E
  have ho : okT X := hE.1
  rcases vp_cases w (n := 6) (by decide) with ⟨k, hk, rfl⟩ | hw
  · exact ⟨_, _, bo_ans (.int (nI (fb_ct (fun s => xS X s k) (xN X)))) hE (fun L xs A I F P h => c_said 16 (CT_CS ho h.1) hk) (fun L xs A I F P h => m_said 16 (RT_RS ho h.1) hk)⟩
  · exact bo_rf (k := 1) hE (by decide) (fun L xs A I F P h => c_said_r 16 hw) (fun L xs A I F P h => m_said_r 16 hw)
theorem bo_kind (hE : okE E) (m : Int32) : ∃ v E2, bo 20 83 135 [.int m] E (.int v) E2 := by
  rcases vp_cases m (n := 90) (by decide) with ⟨k, hk, rfl⟩ | hw
  · exact ⟨_, _, bo_ans (.int (nI (kd k))) hE (fun L xs A I F P h => c_kind 16 hk) (fun L xs A I F P h => m_kind 16 hk)⟩
  · exact bo_rf (k := 1) hE (by decide) (fun L xs A I F P h => c_kind_r 16 hw) (fun L xs A I F P h => m_kind_r 16 hw)
theorem bo_has (hE : okE E) (s m : Int32) : ∃ v E2, bo 20 86 139 [.int s, .int m] E (.int v) E2 := by
  obtain ⟨X, Z, t, N, rf⟩ := E
  have ho : okT X := hE.1
  have hn := ho.1
  by_cases hh : vp_in s (xN X) ∧ vp_in m 90
  · obtain ⟨k, hk, rfl⟩ := vp_in_of hh.1 (by omega)
    obtain ⟨l, hl, rfl⟩ := vp_in_of hh.2 (by decide)
    exact ⟨_, _, bo_ans (.int (bI (hX X k l))) hE (fun L xs A I F P h => c_has 16 (CT_CS ho h.1) hk hl) (fun L xs A I F P h => m_has 16 (RT_RS ho h.1) hk hl)⟩
  · exact bo_rf (k := 1) hE (by decide) (fun L xs A I F P h => c_has_r 16 hn h.1.1 hh) (fun L xs A I F P h => m_has_r 16 hn h.1.1 hh)
theorem bo_left (hE : okE E) (w sl i : Int32) : ∃ v E2, bo 20 87 140 [.int w, .int sl, .int i] E (.int v) E2 := by
  obtain ⟨X, Z, t, N, rf⟩ := E
  have ho : okT X := hE.1
  by_cases hw : vp_in w 6
  · by_cases h4 : sl < 0 ∨ i < -1
    · exact bo_rf (k := 4) hE (by decide) (fun L xs A I F P h => c_left_4 16 hw h4) (fun L xs A I F P h => m_left_4 16 hw h4)
    have h1 : ¬ sl < 0 := fun z => h4 (Or.inl z)
    have h2 : ¬ i < -1 := fun z => h4 (Or.inr z)
    by_cases h3 : 3 < sl
    · exact bo_rf (k := 6) hE (by decide) (fun L xs A I F P h => c_left_6 16 hw h1 h2 h3) (fun L xs A I F P h => m_left_6 16 hw h1 h2 h3)
    obtain ⟨k, hk, rfl⟩ := vp_in_of hw (by decide)
    exact ⟨_, _, bo_ans (.int (lv (Lp (xN X) (hX X) (xS X) k sl) i 90 0 0)) hE (fun L xs A I F P h => c_left 16 (CT_CS ho h.1) hk h1 h2 h3) (fun L xs A I F P h => m_left 17 (RT_RS ho h.1) hk h1 h2 h3)⟩
  · exact bo_rf (k := 1) hE (by decide) (fun L xs A I F P h => c_left_1 16 hw) (fun L xs A I F P h => m_left_1 16 hw)
theorem bo_plainest (hE : okE E) (w sl : Int32) : ∃ v E2, bo 20 88 142 [.int w, .int sl] E (.int v) E2 := by
  obtain ⟨X, Z, t, N, rf⟩ := E
  have ho : okT X := hE.1
  by_cases hw : vp_in w 6
  · by_cases h1 : sl < 0
    · exact bo_rf (k := 4) hE (by decide) (fun L xs A I F P h => c_plainest_4 16 hw h1) (fun L xs A I F P h => m_plainest_4 16 hw h1)
    by_cases h3 : 3 < sl
    · exact bo_rf (k := 6) hE (by decide) (fun L xs A I F P h => c_plainest_6 16 hw h1 h3) (fun L xs A I F P h => m_plainest_6 16 hw h1 h3)
    obtain ⟨k, hk, rfl⟩ := vp_in_of hw (by decide)
    exact ⟨_, _, bo_ans (.int (oN (hv (Lp (xN X) (hX X) (xS X) k sl) (fun m => xW X (kd m)) 90 0 none))) hE (fun L xs A I F P h => c_plainest 16 (CT_CS ho h.1) (CT_WT ho h.1) hk h1 h3) (fun L xs A I F P h => m_plainest 17 (RT_RS ho h.1) (RT_WT ho h.1) hk h1 h3)⟩
  · exact bo_rf (k := 1) hE (by decide) (fun L xs A I F P h => c_plainest_1 16 hw) (fun L xs A I F P h => m_plainest_1 16 hw)
theorem bo_judge (hE : okE E) (w m : Int32) : ∃ v E2, bo 20 89 143 [.int w, .int m] E (.int v) E2 := by
  obtain ⟨X, Z, t, N, rf⟩ := E
  have ho : okT X := hE.1
  by_cases hh : vp_in w 6 ∧ vp_in m 90
  · obtain ⟨k, hk, rfl⟩ := vp_in_of hh.1 (by decide)
    obtain ⟨l, hl, rfl⟩ := vp_in_of hh.2 (by decide)
    exact ⟨_, _, bo_ans (.int (fi (fun s => xS X s k && !hX X s l) (xN X) 0)) hE (fun L xs A I F P h => c_judge 16 (CT_CS ho h.1) hk hl) (fun L xs A I F P h => m_judge 17 (RT_RS ho h.1) hk hl)⟩
  · exact bo_rf (k := 1) hE (by decide) (fun L xs A I F P h => c_judge_r 16 hh) (fun L xs A I F P h => m_judge_r 16 hh)
theorem bo_likelihood (hE : okE E) (w m : Int32) : ∃ v E2, bo 20 92 145 [.int w, .int m] E (.long v) E2 := by
  obtain ⟨X, Z, t, N, rf⟩ := E
  have ho : okT X := hE.1
  have hh := ho.2.2.2.1
  have hm := ho.2.2.2.2.1
  by_cases hq : vp_in w 6 ∧ vp_in m 90
  · obtain ⟨k, hk, rfl⟩ := vp_in_of hq.1 (by decide)
    obtain ⟨l, hl, rfl⟩ := vp_in_of hq.2 (by decide)
    exact ⟨_, _, bo_ans (.long (lN (LK (xN X) (hX X) (xS X) (xW X) (xH X) (xM X) k l))) hE (fun L xs A I F P h => c_likelihood 16 (CT_CS ho h.1) (CT_WT ho h.1) h.1.2.2.2.2.2.1 hh h.1.2.2.2.2.2.2.1 hm hk hl) (fun L xs A I F P h => m_likelihood 16 (RT_RS ho h.1) (RT_WT ho h.1) h.1.2.2.2.2.2.1 hh h.1.2.2.2.2.2.2.1 hm hk hl)⟩
  · exact bo_rfl (k := 1) hE (by decide) (fun L xs A I F P h => c_likelihood_r 16 hq) (fun L xs A I F P h => m_likelihood_r 16 hq)
theorem bo_chance (hE : okE E) (w m p : Int32) : ∃ v E2, bo 20 93 147 [.int w, .int m, .int p] E (.long v) E2 := by
  obtain ⟨X, Z, t, N, rf⟩ := E
  have ho : okT X := hE.1
  have hh := ho.2.2.2.1
  have hm := ho.2.2.2.2.1
  by_cases hp : vp_in p 2
  · by_cases hq : vp_in w 6 ∧ vp_in m 90
    · obtain ⟨k, hk, rfl⟩ := vp_in_of hq.1 (by decide)
      obtain ⟨l, hl, rfl⟩ := vp_in_of hq.2 (by decide)
      obtain ⟨u, hu, rfl⟩ := vp_in_of hp (by decide)
      exact ⟨_, _, bo_ans (.long (lN (ch (LK (xN X) (hX X) (xS X) (xW X) (xH X) (xM X) k l) (LL (xN X) (hX X) (xS X) (xW X) (xH X) (xM X) k) u))) hE (fun L xs A I F P h => c_chance 14 (CT_CS ho h.1) (CT_WT ho h.1) h.1.2.2.2.2.2.1 hh h.1.2.2.2.2.2.2.1 hm hk hl hu) (fun L xs A I F P h => m_chance 14 (RT_RS ho h.1) (RT_WT ho h.1) h.1.2.2.2.2.2.1 hh h.1.2.2.2.2.2.2.1 hm hk hl hu)⟩
    · exact bo_rfl (k := 1) hE (by decide) (fun L xs A I F P h => c_chance_1 14 hp hq) (fun L xs A I F P h => m_chance_1 14 hp hq)
  · exact bo_rfl (k := 2) hE (by decide) (fun L xs A I F P h => c_chance_2 14 hp) (fun L xs A I F P h => m_chance_2 14 hp)
theorem bo_likeliest (hE : okE E) (w : Int32) : ∃ v E2, bo 20 94 149 [.int w] E (.int v) E2 := by
  obtain ⟨X, Z, t, N, rf⟩ := E
  have ho : okT X := hE.1
  have hh := ho.2.2.2.1
  have hm := ho.2.2.2.2.1
  rcases vp_cases w (n := 6) (by decide) with ⟨k, hk, rfl⟩ | hw
  · exact ⟨_, _, bo_ans (.int (nI (gb (LK (xN X) (hX X) (xS X) (xW X) (xH X) (xM X) k) 89 1 0))) hE (fun L xs A I F P h => c_likeliest 15 (CT_CS ho h.1) (CT_WT ho h.1) h.1.2.2.2.2.2.1 hh h.1.2.2.2.2.2.2.1 hm hk) (fun L xs A I F P h => m_likeliest 15 (RT_RS ho h.1) (RT_WT ho h.1) h.1.2.2.2.2.2.1 hh h.1.2.2.2.2.2.2.1 hm hk)⟩
  · exact bo_rf (k := 1) hE (by decide) (fun L xs A I F P h => c_likeliest_r 15 hw) (fun L xs A I F P h => m_likeliest_r 15 hw)
theorem bo_givings (hE : okE E) (x : Int32) : ∃ v E2, bo 20 95 150 [.int x] E (.int v) E2 := by
  obtain ⟨X, Z, t, N, rf⟩ := E
  have ho : okT X := hE.1
  by_cases hg : GS x
  · obtain ⟨v, h1, hv, rfl, h3⟩ := hg
    refine ⟨_, _, bo_an (nI (WW ((wl v).map (L0 (xN X) (hX X) (xS X))) (-9) (-9))) hE (fun L xs A I F P h => mm_Sp.post (c_givings 10 (CT_CS ho h.1) h1 hv h3) ?_) (fun L xs A I F P h => mm_Sp.post (m_givings 10 (RT_RS ho h.1) h1 hv h3) ?_)⟩
    · rintro r m ⟨rfl, rfl⟩
      exact ⟨rfl, _, _, ob_R rfl, rfl, rfl⟩
    · rintro r m ⟨rfl, f, rfl⟩
      exact ⟨rfl, _, _, ob_R rfl, oi_I rfl, rfl⟩
  · exact bo_rf (k := 1) hE (by decide) (fun L xs A I F P h => c_givings_r 10 hg) (fun L xs A I F P h => m_givings_r 10 hg)
theorem bo_giving (hE : okE E) (x y : Int32) : ∃ v E2, bo 20 97 155 [.int x, .int y] E (.int v) E2 := by
  obtain ⟨X, Z, t, N, rf⟩ := E
  have ho : okT X := hE.1
  by_cases hg : ∃ v z, 1 ≤ v ∧ v < 64 ∧ (wl v).length ≤ 3 ∧ z < 6 ∧ v.testBit z = true ∧ x = nI v ∧ y = nI z
  · obtain ⟨v, z, h1, hv, h3, hz, hb, rfl, rfl⟩ := hg
    refine ⟨_, _, bo_an (ff (L0 (xN X) (hX X) (xS X)) z (wl v) (-9) (-9)) hE (fun L xs A I F P h => mm_Sp.post (c_giving 9 (CT_CS ho h.1) h1 hv h3 hz hb) ?_) (fun L xs A I F P h => mm_Sp.post (m_giving 9 (RT_RS ho h.1) h1 hv h3 hz hb) ?_)⟩
    · rintro r m ⟨rfl, rfl⟩
      exact ⟨rfl, _, _, ob_R rfl, rfl, rfl⟩
    · rintro r m ⟨rfl, f, g, rfl⟩
      exact ⟨rfl, _, _, (ob_R rfl).trans (ob_R rfl), oi_I rfl, rfl⟩
  · exact bo_rf (k := 1) hE (by decide) (fun L xs A I F P h => c_giving_r 9 hg) (fun L xs A I F P h => m_giving_r 9 hg)
theorem bo_two (hE : okE E) (w x : Int32) : ∃ v E2, bo 20 98 159 [.int w, .int x] E (.int v) E2 := by
  obtain ⟨X, Z, t, N, rf⟩ := E
  have ho : okT X := hE.1
  by_cases hw : vp_in w 6
  · by_cases hx : x = 0 ∨ x = 1
    · obtain ⟨k, hk, rfl⟩ := vp_in_of hw (by decide)
      exact ⟨_, _, bo_ans (.int (v2 (xN X) (hX X) (xS X) k x)) hE (fun L xs A I F P h => c_two 15 (CT_CS ho h.1) hk hx) (fun L xs A I F P h => m_two 15 (RT_RS ho h.1) hk hx)⟩
    · exact bo_rf (k := 2) hE (by decide) (fun L xs A I F P h => c_two_2 15 hw hx) (fun L xs A I F P h => m_two_2 15 hw hx)
  · exact bo_rf (k := 1) hE (by decide) (fun L xs A I F P h => c_two_1 15 hw) (fun L xs A I F P h => m_two_1 15 hw)
theorem bo_next (hE : okE E) (w : Int32) : ∃ v E2, bo 20 104 165 [.int w] E (.int v) E2 := by
  obtain ⟨X, Z, t, N, rf⟩ := E
  have ho : okT X := hE.1
  rcases vp_cases w (n := 6) (by decide) with ⟨k, hk, rfl⟩ | hw
  · exact ⟨_, _, bo_ans (.int (oN (ns (fun s => !xS X s k) (gr (xN X) (hX X) (xS X) k) (xN X) 0 none))) hE (fun L xs A I F P h => c_next 15 (CT_CS ho h.1) hk) (fun L xs A I F P h => m_next 15 (RT_RS ho h.1) hk)⟩
  · exact bo_rf (k := 1) hE (by decide) (fun L xs A I F P h => c_next_r 15 hw) (fun L xs A I F P h => m_next_r 15 hw)
theorem bo_enough (hE : okE E) (w : Int32) : ∃ v E2, bo 20 105 166 [.int w] E (.int v) E2 := by
  obtain ⟨X, Z, t, N, rf⟩ := E
  have ho : okT X := hE.1
  rcases vp_cases w (n := 6) (by decide) with ⟨k, hk, rfl⟩ | hw
  · have h0 := ns_mn0 (pE (sb 24 (am (xN X) (xS X) k)) (ul (L0 (xN X) (hX X) (xS X) k) (uX (xN X) (hX X) (xS X) k) 90)) k24 (2 ^ 24)
    refine ⟨_, _, bo_an (oN (ns (pE (sb 24 (am (xN X) (xS X) k)) (ul (L0 (xN X) (hX X) (xS X) k) (uX (xN X) (hX X) (xS X) k) 90)) k24 (2 ^ 24) 0 none)) hE (fun L xs A I F P h => mm_Sp.post (c_enough 12 (CT_CS ho h.1) hk) ?_) (fun L xs A I F P h => mm_Sp.post (m_enough 12 (RT_RS ho h.1) hk) ?_)⟩
    · rintro r m ⟨b, hb, hq⟩
      rw [← mn_one hb h0]
      exact hq
    · rintro r m ⟨b, hb, hq⟩
      rw [← mn_one hb h0]
      exact hq
  · exact bo_rf (k := 1) hE (by decide) (fun L xs A I F P h => c_enough_r 12 hw) (fun L xs A I F P h => m_enough_r 12 hw)
theorem bo_help (hE : okE E) (w m z : Int32) : ∃ v E2, bo 20 106 171 [.int w, .int m, .int z] E (.int v) E2 := by
  obtain ⟨X, Z, t, N, rf⟩ := E
  have ho : okT X := hE.1
  by_cases hh : vp_in w 6 ∧ vp_in m 90
  · by_cases h1 : z < 1
    · exact bo_rf (k := 4) hE (by decide) (fun L xs A I F P h => c_help_4 12 hh.1 hh.2 h1) (fun L xs A I F P h => m_help_4 12 hh.1 hh.2 h1)
    by_cases h3 : 3 < z
    · exact bo_rf (k := 6) hE (by decide) (fun L xs A I F P h => c_help_6 12 hh.1 hh.2 h1 h3) (fun L xs A I F P h => m_help_6 12 hh.1 hh.2 h1 h3)
    obtain ⟨k, hk, rfl⟩ := vp_in_of hh.1 (by decide)
    obtain ⟨l, hl, rfl⟩ := vp_in_of hh.2 (by decide)
    by_cases hL : L0 (xN X) (hX X) (xS X) k l = true
    · obtain ⟨u, u1, u3, rfl⟩ := i_rng (lo := 1) (hi := 3) h1 h3 (by decide) (by decide)
      have h0 := ns_mn0 (pH (uX (xN X) (hX X) (xS X) k l) u) (fX (xN X) (hX X) (xS X) k) (2 ^ 24)
      refine ⟨_, _, bo_an (oN (ns (pH (uX (xN X) (hX X) (xS X) k l) u) (fX (xN X) (hX X) (xS X) k) (2 ^ 24) 0 none)) hE (fun L xs A I F P h => mm_Sp.post (c_help 12 (CT_CS ho h.1) hk hl u1 u3 hL) ?_) (fun L xs A I F P h => mm_Sp.post (m_help 12 (RT_RS ho h.1) hk hl u1 u3 hL) ?_)⟩
      · rintro r m ⟨b, hb, hq⟩
        rw [← mn_one hb h0]
        exact hq
      · rintro r m ⟨b, hb, hq⟩
        rw [← mn_one hb h0]
        exact hq
    · exact bo_rf (k := 3) hE (by decide) (fun L xs A I F P h => c_help_3 12 (CT_CS ho h.1) hk hl h1 h3 hL) (fun L xs A I F P h => m_help_3 12 (RT_RS ho h.1) hk hl h1 h3 hL)
  · exact bo_rf (k := 1) hE (by decide) (fun L xs A I F P h => c_help_1 12 hh) (fun L xs A I F P h => m_help_1 12 hh)
theorem bo_never (hE : okE E) : ∃ v E2, bo 20 107 173 [] E (.int v) E2 := by
  obtain ⟨X, Z, t, N, rf⟩ := E
  have ho : okT X := hE.1
  exact ⟨_, _, bo_ans (.int (nI (c2 (qs (xN X) (hX X)) 90 0))) hE (fun L xs A I F P h => c_never 16 (CT_CS ho h.1)) (fun L xs A I F P h => m_never 16 (RT_RS ho h.1))⟩
theorem bo_same (hE : okE E) (a b : Int32) : ∃ v E2, bo 20 108 175 [.int a, .int b] E (.int v) E2 := by
  obtain ⟨X, Z, t, N, rf⟩ := E
  have ho : okT X := hE.1
  by_cases hh : vp_in a 90 ∧ vp_in b 90
  · obtain ⟨k, hk, rfl⟩ := vp_in_of hh.1 (by decide)
    obtain ⟨l, hl, rfl⟩ := vp_in_of hh.2 (by decide)
    refine ⟨_, _, bo_ans (.int (bI (bp (∀ i, i < xN X → (hX X i k ^^ hX X i l) = false)))) hE (fun L xs A I F P h => mm_Sp.post (c_same 16 (CT_CS ho h.1) hk hl) ?_) (fun L xs A I F P h => mm_Sp.post (m_same 16 (RT_RS ho h.1) hk hl) ?_)⟩
    · rintro r m ⟨rfl, ⟨h1, rfl⟩ | ⟨h1, rfl⟩⟩
      · exact ⟨by rw [bp_iff.mpr h1]; rfl, rfl⟩
      · exact ⟨by rw [bp_false.mpr h1]; rfl, rfl⟩
    · rintro r m ⟨rfl, ⟨h1, rfl⟩ | ⟨h1, rfl⟩⟩
      · exact ⟨by rw [bp_iff.mpr h1]; rfl, rfl⟩
      · exact ⟨by rw [bp_false.mpr h1]; rfl, rfl⟩
  · exact bo_rf (k := 1) hE (by decide) (fun L xs A I F P h => c_same_r 16 hh) (fun L xs A I F P h => m_same_r 16 hh)
theorem bo_part (hE : okE E) (a b : Int32) : ∃ v E2, bo 20 109 176 [.int a, .int b] E (.int v) E2 := by
  obtain ⟨X, Z, t, N, rf⟩ := E
  have ho : okT X := hE.1
  by_cases hh : vp_in a 90 ∧ vp_in b 90
  · obtain ⟨k, hk, rfl⟩ := vp_in_of hh.1 (by decide)
    obtain ⟨l, hl, rfl⟩ := vp_in_of hh.2 (by decide)
    exact ⟨_, _, bo_ans (.int (fi (fun s => hX X s k ^^ hX X s l) (xN X) 0)) hE (fun L xs A I F P h => c_part 16 (CT_CS ho h.1) hk hl) (fun L xs A I F P h => m_part 16 (RT_RS ho h.1) hk hl)⟩
  · exact bo_rf (k := 1) hE (by decide) (fun L xs A I F P h => c_part_r 16 hh) (fun L xs A I F P h => m_part_r 16 hh)
end AS
