/-! thing, doing, say, of both -/
def thV (D : Sc) (i : Int32) : Int32 := if 0 ≤ i.toInt ∧ i.toInt < tcO D then nI (thO D i.toNatClampNeg) else -9
def dnV (D : Sc) (i : Int32) : Int32 := if 0 ≤ i.toInt ∧ i.toInt < dcO D then nI (100 * dwO D i.toNatClampNeg + 10 * dvO D i.toNatClampNeg + dmO D i.toNatClampNeg) else -9
def stS (X : Tl) (s w : Nat) (b : Bool) : Tl := (X.1, X.2.1, fun s' w' => if s' = s ∧ w' = w then b else xS X s' w', X.2.2.2)
section M37
variable {L : Nat} {xs : Nat → Int32} {A I : Nat → Nat → Int32} {F : Nat → Nat → Option Nat} {P : mm_M} {X : Tl} {Z : Option Tl} {t : Nat → Nat} {N : Nat} {rf : Nat → Int32}
theorem c_thing (d : Nat) (ho : okT X) (h : CI (X, Z, t, N, rf) A I F P) {s : Nat} (hs : s < xN X) (i : Int32) : sp (d + 2) 76 [.ref 6, .int (nI s), .int i] (gm L xs A I F P) (ans (gm L xs A I F P) (thV (xD X s) i)) := by
  obtain ⟨p, hF, hsp⟩ := h.1.2.1 s hs
  have hD := ho.2.1 s hs
  have hn := ho.1
  have h4 := hD.1
  have i24 := ix_n (w := s) (N := 24) (by decide) (by omega)
  have hF2 : F 25 ((nI s).toNatClampNeg) = some (p + 56) := by
    rw [i24.2]
    exact hF
  have hth : sp (d + 1) 32 [.ref (p + 56), .int i] (gm L xs A I F P) (ans (gm L xs A I F P) (thV (xD X s) i)) := by
    unfold thV
    split
    · rename_i c
      obtain ⟨k, hk, rfl⟩ := vp_in_of (vp_in_iff.mpr c) (by omega)
      rw [nI_clamp (by omega)]
      exact s_thingAt d (SP_SO hsp) hD hk
    · rename_i c
      exact s_thingAt_n d (SP_SO hsp) hD (fun z => c (vp_in_iff.mp z))
  exact ⟨⟨_, rfl⟩, rfl, mm_WP.go [] 40 (cy (c_noScene d hn h.1.1 _) (fun z => absurd (ix_n (by omega) hs).1 z) (fun _ => e0 ⟨i24.1, p + 56, hF2, ca hth ⟨rfl, rfl⟩⟩))⟩
theorem c_thing_r (d : Nat) (ho : okT X) (h : CI (X, Z, t, N, rf) A I F P) {s i : Int32} (hs : ¬ vp_in s (xN X)) : sp (d + 2) 76 [.ref 6, .int s, .int i] (gm L xs A I F P) (rC L xs A I F P 1 (-1)) :=
  ⟨⟨_, rfl⟩, rfl, mm_WP.go [] 40 (cy (c_noScene d ho.1 h.1.1 _) (fun _ => e1 (ca (c_rf1 d) ⟨rfl, rfl⟩)) (fun z => absurd hs z))⟩
theorem c_doing (d : Nat) (ho : okT X) (h : CI (X, Z, t, N, rf) A I F P) {s : Nat} (hs : s < xN X) (i : Int32) : sp (d + 2) 78 [.ref 6, .int (nI s), .int i] (gm L xs A I F P) (ans (gm L xs A I F P) (dnV (xD X s) i)) := by
  obtain ⟨p, hF, hsp⟩ := h.1.2.1 s hs
  have hD := ho.2.1 s hs
  have hn := ho.1
  have h4 := hD.2.1
  have i24 := ix_n (w := s) (N := 24) (by decide) (by omega)
  have hF2 : F 25 ((nI s).toNatClampNeg) = some (p + 56) := by
    rw [i24.2]
    exact hF
  have hth : sp (d + 1) 35 [.ref (p + 56), .int i] (gm L xs A I F P) (ans (gm L xs A I F P) (dnV (xD X s) i)) := by
    unfold dnV
    split
    · rename_i c
      obtain ⟨k, hk, rfl⟩ := vp_in_of (vp_in_iff.mpr c) (by omega)
      rw [nI_clamp (by omega)]
      exact s_doingAt d (SP_SO hsp) hD hk
    · rename_i c
      exact s_doingAt_n d (SP_SO hsp) hD (fun z => c (vp_in_iff.mp z))
  exact ⟨⟨_, rfl⟩, rfl, mm_WP.go [] 40 (cy (c_noScene d hn h.1.1 _) (fun z => absurd (ix_n (by omega) hs).1 z) (fun _ => e0 ⟨i24.1, p + 56, hF2, ca hth ⟨rfl, rfl⟩⟩))⟩
theorem c_doing_r (d : Nat) (ho : okT X) (h : CI (X, Z, t, N, rf) A I F P) {s i : Int32} (hs : ¬ vp_in s (xN X)) : sp (d + 2) 78 [.ref 6, .int s, .int i] (gm L xs A I F P) (rC L xs A I F P 1 (-1)) :=
  ⟨⟨_, rfl⟩, rfl, mm_WP.go [] 40 (cy (c_noScene d ho.1 h.1.1 _) (fun _ => e1 (ca (c_rf1 d) ⟨rfl, rfl⟩)) (fun z => absurd hs z))⟩
theorem m_thing (d : Nat) (ho : okT X) (h : RI (X, Z, t, N, rf) A I) {s : Nat} (hs : s < xN X) (i : Int32) : sp (d + 3) 128 [.ref 38, .int (nI s), .int i] (gm L xs A I F P) (ans (gm L xs A I F P) (thV (xD X s) i)) := by
  have hr : RT X A I := h.1
  have hRD := hr.2.1 s hs
  have hn := ho.1
  have h4 := (ho.2.1 s hs).1
  have i1 := ix_n (w := s) (N := 24) (by decide) (by omega)
  have e39 : A 39 ((nI s).toNatClampNeg) = nI (tcO (xD X s)) := by rw [i1.2]; exact hRD.1
  have hb : (A 39 ((nI s).toNatClampNeg) - 1).toInt = (tcO (xD X s) : Int) - 1 := by
    rw [e39, show (1 : Int32) = nI 1 from rfl, pk_sub_toInt (by omega) (by omega)]
    rfl
  refine ⟨⟨_, rfl⟩, rfl, mm_WP.go [] 60 (cy (m_isScene d hn hr.1 _) (fun _ => n1 ⟨i1.1, cy (m_in (d + 1) _ _ _ _) (fun c => e1 ?_) (fun c => e0 ?_)⟩) (fun z => absurd (ix_n (by omega) hs).1 z))⟩
  · have c := (in_vp hb).mp c
    unfold thV
    rw [if_pos (vp_in_iff.mp c)]
    obtain ⟨k, hk, rfl⟩ := vp_in_of c (by omega)
    have i2 := ix_ma (c := 4) (s := s) (w := k) (N := 96) (by decide) (by omega)
    refine ⟨i2.1, congrArg (fun z => some (Value.int z)) ?_, rfl⟩
    rw [nI_clamp (by omega), ← hRD.2.1 k hk]
    exact congrArg (A 40) i2.2
  · unfold thV
    rw [if_neg (fun z => c ((in_vp hb).mpr (vp_in_iff.mpr z)))]
    exact ⟨rfl, rfl⟩
theorem m_thing_r (d : Nat) (ho : okT X) (h : RI (X, Z, t, N, rf) A I) {s i : Int32} (hs : ¬ vp_in s (xN X)) : sp (d + 3) 128 [.ref 38, .int s, .int i] (gm L xs A I F P) (rM L xs A I F P 1 (-1)) :=
  ⟨⟨_, rfl⟩, rfl, mm_WP.go [] 60 (cy (m_isScene d ho.1 h.1.1 _) (fun z => absurd z hs) (fun _ => n0 (ca (m_rf1 (d + 1)) ⟨rfl, rfl⟩)))⟩
theorem m_doing (d : Nat) (ho : okT X) (h : RI (X, Z, t, N, rf) A I) {s : Nat} (hs : s < xN X) (i : Int32) : sp (d + 3) 130 [.ref 38, .int (nI s), .int i] (gm L xs A I F P) (ans (gm L xs A I F P) (dnV (xD X s) i)) := by
  have hr : RT X A I := h.1
  have hRD := hr.2.1 s hs
  have hn := ho.1
  have h4 := (ho.2.1 s hs).2.1
  have i1 := ix_n (w := s) (N := 24) (by decide) (by omega)
  have e39 : A 41 ((nI s).toNatClampNeg) = nI (dcO (xD X s)) := by rw [i1.2]; exact hRD.2.2.1
  have hb : (A 41 ((nI s).toNatClampNeg) - 1).toInt = (dcO (xD X s) : Int) - 1 := by
    rw [e39, show (1 : Int32) = nI 1 from rfl, pk_sub_toInt (by omega) (by omega)]
    rfl
  refine ⟨⟨_, rfl⟩, rfl, mm_WP.go [] 60 (cy (m_isScene d hn hr.1 _) (fun _ => n1 ⟨i1.1, cy (m_in (d + 1) _ _ _ _) (fun c => e1 ?_) (fun c => e0 ?_)⟩) (fun z => absurd (ix_n (by omega) hs).1 z))⟩
  · have c := (in_vp hb).mp c
    unfold dnV
    rw [if_pos (vp_in_iff.mp c)]
    obtain ⟨k, hk, rfl⟩ := vp_in_of c (by omega)
    obtain ⟨a1, a2, a3⟩ := hRD.2.2.2 k hk
    have q : 9 * nI s + 3 * nI k = nI (9 * s + 3 * k) := by
      rw [show (9 : Int32) = nI 9 from rfl, show (3 : Int32) = nI 3 from rfl, pk_mul, pk_mul, nI_add]
    have j0 := ix_e q (N := 216) (by decide) (by omega)
    have j1 := ix_e (show 9 * nI s + 3 * nI k + 1 = nI (9 * s + 3 * k + 1) by rw [q, nI_1]) (N := 216) (by decide) (by omega)
    have j2 := ix_e (show 9 * nI s + 3 * nI k + 2 = nI (9 * s + 3 * k + 2) by rw [q]; exact nI_add _ 2) (N := 216) (by decide) (by omega)
    refine ⟨j0.1, j1.1, j2.1, congrArg (fun z => some (Value.int z)) ?_, rfl⟩
    rw [j0.2, j1.2, j2.2, a1, a2, a3, nI_clamp (by omega), show (100 : Int32) = nI 100 from rfl, show (10 : Int32) = nI 10 from rfl, pk_mul, pk_mul, nI_add, nI_add]
  · unfold dnV
    rw [if_neg (fun z => c ((in_vp hb).mpr (vp_in_iff.mpr z)))]
    exact ⟨rfl, rfl⟩
theorem m_doing_r (d : Nat) (ho : okT X) (h : RI (X, Z, t, N, rf) A I) {s i : Int32} (hs : ¬ vp_in s (xN X)) : sp (d + 3) 130 [.ref 38, .int s, .int i] (gm L xs A I F P) (rM L xs A I F P 1 (-1)) :=
  ⟨⟨_, rfl⟩, rfl, mm_WP.go [] 60 (cy (m_isScene d ho.1 h.1.1 _) (fun z => absurd z hs) (fun _ => n0 (ca (m_rf1 (d + 1)) ⟨rfl, rfl⟩)))⟩
-- say
theorem c_tellSaid (d : Nat) {n s w : Nat} {q : Nat → Bool} {b : Bool} (hn : n ≤ 24) (hs : s < n) (hw : w < 6) (hA : A 27 w = nI (sb n q)) : sp (d + 2) 53 [.ref 21, .int (nI s), .int (nI w), .int (bI b)] (gm L xs A I F P) (fun r m => r = some (.int (bI (q s ^^ b))) ∧ ∃ f, f w = nI (sb n (fun i => if i = s then b else q i)) ∧ (∀ j, j ≠ w → f j = A 27 j) ∧ m = gm L xs (uR A 27 f) I F P) := by
  have ix := ix_n (w := w) (N := 6) (by decide) hw
  have h24 := sb_24 hn q
  have hin := c_isIn d (v := sb n q) (k := s) (by omega) (by omega) (gm L xs A I F P)
  rw [← hA, ← ix.2, sb_tb, decide_eq_true hs, Bool.true_and] at hin
  have same : q s = b → (fun r m => r = some (.int (bI (q s ^^ b))) ∧ ∃ f, f w = nI (sb n (fun i => if i = s then b else q i)) ∧ (∀ j, j ≠ w → f j = A 27 j) ∧ m = gm L xs (uR A 27 f) I F P : mm_Q) (some (.int 0)) (gm L xs A I F P) := by
    intro e
    refine ⟨by rw [e, Bool.xor_self]; rfl, A 27, ?_, fun j _ => rfl, rfl⟩
    rw [hA]
    congr 1
    refine sb_cong (fun i _ => ?_)
    by_cases c : i = s
    · rw [if_pos c, c, e]
    · rw [if_neg c]
  have diff : (q s = !b) → (fun r m => r = some (.int (bI (q s ^^ b))) ∧ ∃ f, f w = nI (sb n (fun i => if i = s then b else q i)) ∧ (∀ j, j ≠ w → f j = A 27 j) ∧ m = gm L xs (uR A 27 f) I F P : mm_Q) (some (.int 1)) (gm L xs (uR A 27 (upd (A 27) ((nI w).toNatClampNeg) (A 27 ((nI w).toNatClampNeg) ^^^ ((1 : Int32) <<< (nI s &&& 31))))) I F P) := by
    intro e
    refine ⟨by rw [e]; cases b <;> rfl, _, ?_, fun j hj => ?_, rfl⟩
    · rw [ix.2, upd_at, if_pos rfl, hA, sh_one s (by omega), ← sb_one hs, sb_xor hn]
      congr 1
      refine sb_cong (fun i _ => ?_)
      by_cases c : i = s
      · rw [if_pos c, decide_eq_true c, c, e]
        cases b <;> rfl
      · rw [if_neg c, decide_eq_false c, Bool.xor_false]
    · rw [ix.2, upd_at, if_neg hj]
  refine ⟨⟨_, rfl⟩, rfl, mm_WP.go [] 60 ⟨ix.1, cy hin (fun c => ⟨fun c2 => ⟨ix.1, ix.1, rfl, diff ?_⟩, fun c2 => ⟨rfl, same ?_⟩⟩) (fun c => ⟨fun c2 => ⟨ix.1, ix.1, rfl, diff ?_⟩, fun c2 => ⟨rfl, same ?_⟩⟩)⟩⟩
  · rw [c]
    cases b
    · rfl
    · exact absurd rfl c2
  · rw [c]
    cases b
    · exact absurd c2 (by decide)
    · rfl
  · rw [ff_of c]
    cases b
    · exact absurd rfl c2
    · rfl
  · rw [ff_of c]
    cases b
    · rfl
    · exact absurd c2 (by decide)
theorem c_say (d : Nat) (ho : okT X) (h : CI (X, Z, t, N, rf) A I F P) {s w : Nat} (hs : s < xN X) (hw : w < 6) (b : Bool) : sp (d + 3) 79 [.ref 6, .int (nI s), .int (nI w), .int (bI b)] (gm L xs A I F P) (cQ L xs A I (stS X s w b, Z, t, N, rf) (.int (bI (xS X s w ^^ b)))) := by
  obtain ⟨⟨a1, a2, a3, a4, a5⟩, h2⟩ := h
  have hn := ho.1
  refine ⟨⟨_, rfl⟩, rfl, mm_WP.go [] 60 (cy (c_noScene (d + 1) hn a1 _) (fun z => absurd (ix_n (by omega) hs).1 z) (fun _ => n0 (cy (c_noWord (d + 1) _ _) (fun z => absurd (ix_n (by omega) hw).1 z) (fun _ => e0 ⟨_, c_tellSaid d hn hs hw (a4 w hw), ?_⟩))))⟩
  rintro r m ⟨rfl, f, hf1, hf2, rfl⟩
  have hCI : CI (stS X s w b, Z, t, N, rf) (uR A 27 f) I F P := by
    refine ⟨⟨a1, a2, a3, fun w2 hw2 => ?_, a5⟩, h2⟩
    show f w2 = nI (sb (xN X) (fun s2 => if s2 = s ∧ w2 = w then b else xS X s2 w2))
    by_cases c : w2 = w
    · subst c
      rw [hf1]
      congr 1
      refine sb_cong (fun i _ => ?_)
      by_cases c2 : i = s
      · rw [if_pos c2, if_pos ⟨c2, rfl⟩]
      · rw [if_neg c2, if_neg (fun z => c2 z.1)]
    · rw [hf2 w2 c]
      refine (a4 w2 hw2).trans ?_
      congr 1
      exact sb_cong (fun i _ => by rw [if_neg (fun z => c z.2)])
  have fin : ∀ v : Int32, v = bI (xS X s w ^^ b) → cQ L xs A I (stS X s w b, Z, t, N, rf) (.int (bI (xS X s w ^^ b))) (some (.int v)) (gm L xs (uR A 27 f) I F P) := by
    rintro v rfl
    exact ⟨rfl, _, _, _, _, rfl, hCI, sR.rf.r (by decide) _, tR.rf⟩
  refine ⟨fun c => fin 0 c.symm, fun c => fin 1 ?_⟩
  have c2 := bI_1 c
  exact (bI_t c2).symm
theorem c_say_r (d : Nat) (ho : okT X) (h : CI (X, Z, t, N, rf) A I F P) {s w b : Int32} (hs : ¬ (vp_in s (xN X) ∧ vp_in w 6)) : sp (d + 3) 79 [.ref 6, .int s, .int w, .int b] (gm L xs A I F P) (rC L xs A I F P 1 (-1)) :=
  ⟨⟨_, rfl⟩, rfl, mm_WP.go [] 60 (cy (c_noScene (d + 1) ho.1 h.1.1 _) (fun _ => n1 (ca (c_rf1 (d + 1)) ⟨rfl, rfl⟩)) (fun z => n0 (cy (c_noWord (d + 1) _ _) (fun _ => e1 (ca (c_rf1 (d + 1)) ⟨rfl, rfl⟩)) (fun z2 => absurd ⟨Classical.not_not.mp z, Classical.not_not.mp z2⟩ hs))))⟩
theorem m_say (d : Nat) (ho : okT X) (h : RI (X, Z, t, N, rf) A I) {s w : Nat} (hs : s < xN X) (hw : w < 6) (b : Bool) : sp (d + 3) 131 [.ref 38, .int (nI s), .int (nI w), .int (bI b)] (gm L xs A I F P) (mQ L xs A I F P (stS X s w b, Z, t, N, rf) (.int (bI (xS X s w ^^ b)))) := by
  obtain ⟨⟨a1, a2, a3, a4, a5⟩, h2⟩ := h
  have hn := ho.1
  have i2 := ix_ma (c := 6) (s := s) (w := w) (N := 144) (by decide) (by omega)
  have i22 : (6 * nI s + nI w).toNatClampNeg = 6 * s + w := i2.2
  have v : A 43 ((6 * nI s + nI w).toNatClampNeg) = bI (xS X s w) := by
    rw [i22]
    exact a3 s w hs hw
  have fin : ∀ v : Int32, v = bI (xS X s w ^^ b) → mQ L xs A I F P (stS X s w b, Z, t, N, rf) (.int (bI (xS X s w ^^ b))) (some (.int v)) (gm L xs (uR A 43 (upd (A 43) ((6 * nI s + nI w).toNatClampNeg) (bI b))) I F P) := by
    rintro v rfl
    rw [i22]
    refine ⟨rfl, _, _, rfl, ⟨⟨a1, a2, fun s2 w2 hs2 hw2 => ?_, a4, a5⟩, h2⟩, sC.rf.r (by decide) _, tC.rf⟩
    show upd (A 43) (6 * s + w) (bI b) (6 * s2 + w2) = bI (if s2 = s ∧ w2 = w then b else xS X s2 w2)
    rw [upd_at]
    by_cases c : s2 = s ∧ w2 = w
    · rw [if_pos (by omega), if_pos c]
    · rw [if_neg (by omega), if_neg c]
      exact a3 s2 w2 hs2 hw2
  refine ⟨⟨_, rfl⟩, rfl, mm_WP.go [] 60 (cy (m_isScene d hn a1 _) (fun _ => e1 (cy (m_isWord d _ _) (fun _ => n1 ⟨i2.1, i2.1, bI_fit b, fun c => fin 1 ?_, fun c => fin 0 ?_⟩) (fun z => absurd (ix_n (by omega) hw).1 z))) (fun z => absurd (ix_n (by omega) hs).1 z))⟩
  · have c2 : ¬ bI (xS X s w) = bI b := fun z => c (v.trans z)
    revert c2
    cases xS X s w <;> cases b <;> intro c2 <;> first | rfl | exact absurd rfl c2
  · have c2 : bI (xS X s w) = bI b := v.symm.trans c
    revert c2
    cases xS X s w <;> cases b <;> intro c2 <;> first | rfl | exact absurd c2 (by decide)
theorem m_say_r (d : Nat) (ho : okT X) (h : RI (X, Z, t, N, rf) A I) {s w b : Int32} (hs : ¬ (vp_in s (xN X) ∧ vp_in w 6)) : sp (d + 3) 131 [.ref 38, .int s, .int w, .int b] (gm L xs A I F P) (rM L xs A I F P 1 (-1)) :=
  ⟨⟨_, rfl⟩, rfl, mm_WP.go [] 60 (cy (m_isScene d ho.1 h.1.1 _) (fun z => e1 (cy (m_isWord d _ _) (fun z2 => absurd ⟨z, z2⟩ hs) (fun _ => n0 (ca (m_rf1 (d + 1)) ⟨rfl, rfl⟩)))) (fun _ => e0 (ca (m_rf1 (d + 1)) ⟨rfl, rfl⟩)))⟩
end M37
theorem bo_thing (d : Nat) {E : St} (hE : okE E) (s i : Int32) : ∃ v E2, bo (d + 3) 76 128 [.int s, .int i] E (.int v) E2 := by
  obtain ⟨X, Z, t, N, rf⟩ := E
  have ho : okT X := hE.1
  have hn := ho.1
  rcases vp_cases s (n := xN X) (by omega) with ⟨k, hk, rfl⟩ | hs
  · exact ⟨_, _, bo_ans (.int (thV (xD X k) i)) hE (fun L xs A I F P h => c_thing (d + 1) ho h hk i) (fun L xs A I F P h => m_thing d ho h hk i)⟩
  · exact bo_rf (k := 1) hE (by decide) (fun L xs A I F P h => c_thing_r (d + 1) ho h hs) (fun L xs A I F P h => m_thing_r d ho h hs)
theorem bo_doing (d : Nat) {E : St} (hE : okE E) (s i : Int32) : ∃ v E2, bo (d + 3) 78 130 [.int s, .int i] E (.int v) E2 := by
  obtain ⟨X, Z, t, N, rf⟩ := E
  have ho : okT X := hE.1
  have hn := ho.1
  rcases vp_cases s (n := xN X) (by omega) with ⟨k, hk, rfl⟩ | hs
  · exact ⟨_, _, bo_ans (.int (dnV (xD X k) i)) hE (fun L xs A I F P h => c_doing (d + 1) ho h hk i) (fun L xs A I F P h => m_doing d ho h hk i)⟩
  · exact bo_rf (k := 1) hE (by decide) (fun L xs A I F P h => c_doing_r (d + 1) ho h hs) (fun L xs A I F P h => m_doing_r d ho h hs)
theorem bo_say (d : Nat) {E : St} (hE : okE E) (s w : Int32) (b : Bool) : ∃ v E2, bo (d + 3) 79 131 [.int s, .int w, .int (bI b)] E (.int v) E2 := by
  obtain ⟨X, Z, t, N, rf⟩ := E
  have ho : okT X := hE.1
  have hn := ho.1
  by_cases hh : vp_in s (xN X) ∧ vp_in w 6
  · obtain ⟨k, hk, rfl⟩ := vp_in_of hh.1 (by omega)
    obtain ⟨l, hl, rfl⟩ := vp_in_of hh.2 (by omega)
    exact ⟨_, (stS X k l b, Z, t, N, rf), ⟨ho, hE.2⟩, fun L xs A I F P h => c_say d ho h hk hl b, fun L xs A I F P h => m_say d ho h hk hl b⟩
  · exact bo_rf (k := 1) hE (by decide) (fun L xs A I F P h => c_say_r d ho h hh) (fun L xs A I F P h => m_say_r d ho h hh)
