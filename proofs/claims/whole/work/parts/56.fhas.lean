/-! the reference: a scene's row of what it has -/
theorem ix_e {x : Int32} {w N : Nat} (hx : x = nI w) (hN : N < 2 ^ 31) (h : w < N) : vp_in x N ∧ x.toNatClampNeg = w := by
  subst hx
  exact ix_n hN h
/-- a scene in the reference's rows -/
def RD (A : Nat → Nat → Int32) (s : Nat) (D : Sc) : Prop := A 39 s = nI (tcO D) ∧ (∀ i, i < tcO D → A 40 (4 * s + i) = nI (thO D i)) ∧ A 41 s = nI (dcO D) ∧ ∀ i, i < dcO D → A 42 (9 * s + 3 * i) = nI (dwO D i) ∧ A 42 (9 * s + 3 * i + 1) = nI (dvO D i) ∧ A 42 (9 * s + 3 * i + 2) = nI (dmO D i)
theorem bI_e {b c : Bool} (h : b = c) : bI b = bI c := by rw [h]
theorem ff_of {b : Bool} (h : ¬ b = true) : b = false := by
  cases b
  · rfl
  · exact absurd rfl h
theorem BO_o2 {s c k : Nat} {f0 f : Nat → Int32} {G p : Nat → Bool} {v : Int32} (hb : BO s f0 f (fun y => G y || (decide (y = c) && orb p k))) (hc : c < 90) (hv : v = bI ((G c || orb p k) || p k)) : BO s f0 (upd f (90 * s + c) v) (fun y => G y || (decide (y = c) && orb p (k + 1))) := by
  refine BO_cong (BO_or (b := p k) hb hc ?_) (fun x _ => ?_)
  · rw [hv]
    refine bI_e ?_
    show ((G c || orb p k) || p k) = ((G c || (decide (c = c) && orb p k)) || p k)
    rw [decide_eq_true rfl, Bool.true_and]
  · show ((G x || (decide (x = c) && orb p k)) || (decide (x = c) && p k)) = (G x || (decide (x = c) && orb p (k + 1)))
    rw [orb]
    generalize decide (x = c) = e
    cases e
    · simp
    · simp [Bool.or_assoc]
section M32
variable {L : Nat} {xs : Nat → Int32} {A I : Nat → Nat → Int32} {F : Nat → Nat → Option Nat} {P : mm_M} {s : Nat} {D : Sc}
theorem m_hasMark (d : Nat) (hs : s < 24) (hR : RD A s D) (ho : okS D) {i m : Nat} (hi : i < tcO D) (hm : m < 6) : sp (d + 1) 126 [.ref 38, .int (nI s), .int (nI i), .int (nI m)] (gm L xs A I F P) (yes (gm L xs A I F P) (mkb D i m = true)) := by
  have h4 := ho.1
  have i1 := ix_ma (c := 4) (s := s) (w := i) (N := 96) (by decide) (by omega)
  have v : A 40 ((4 * nI s + nI i).toNatClampNeg) = nI (thO D i) := by
    rw [show (4 * nI s + nI i).toNatClampNeg = 4 * s + i from i1.2]
    exact hR.2.1 i hi
  have l1 := ho.2.2.1 i hi
  refine ⟨⟨_, rfl⟩, rfl, mm_WP.go [] 40 ⟨i1.1, fun c => ?_, fun c => ?_⟩⟩
  · rw [v, sr_b (by omega) (by omega)] at c
    exact ⟨rfl, rfl, Or.inr ⟨fun h => c (bI_t h), rfl⟩⟩
  · rw [v, sr_b (by omega) (by omega)] at c
    exact ⟨rfl, rfl, Or.inl ⟨bI_1 (fun z => absurd (c.symm.trans z) (by decide)), rfl⟩⟩
theorem m_manyWith (d : Nat) (hs : s < 24) (hR : RD A s D) (ho : okS D) {m : Nat} (hm : m < 6) : sp (d + 2) 125 [.ref 38, .int (nI s), .int (nI m)] (gm L xs A I F P) (ans (gm L xs A I F P) (nI (fb_ct (fun i => mkb D i m) (tcO D)))) := by
  have h4 := ho.1
  have i1 := ix_n (w := s) (N := 24) (by decide) hs
  have e39 : A 39 ((nI s).toNatClampNeg) = nI (tcO D) := by rw [i1.2]; exact hR.1
  have key : ∀ k, k ≤ tcO D → ∀ x y : Int32, x = nI k → y = nI (fb_ct (fun i => mkb D i m) k) → wp (d + 1) (mm_Al 125) cd_Model_manyWith (ans (gm L xs A I F P) (nI (fb_ct (fun i => mkb D i m) (tcO D)))) 5 [some (.ref 38), some (.int (nI s)), some (.int (nI m)), some (.int y), some (.int x)] [] (gm L xs A I F P) := by
    refine rep (tcO D) ?_ ?_
    · intro x y hx hy
      subst hy
      exact mm_WP.go [5] 40 ⟨i1.1, lp_ge hx e39 (by omega) (Nat.le_refl _) (fun _ => ⟨rfl, rfl⟩) (fun h => absurd h (by omega))⟩
    · intro k hk ih x y hx hy
      subst hx
      refine mm_WP.go [5] 40 ⟨i1.1, lp_ge (k := k) rfl e39 (by omega) (by omega) (fun h => absurd h (by omega)) (fun _ => cy (m_hasMark d hs hR ho hk hm) (fun h => e1 (ih _ _ (nI_1 k) ?_)) (fun h => e0 (ih _ _ (nI_1 k) ?_)))⟩
      · rw [hy, fb_ct_succ, h]
        exact nI_1 _
      · rw [hy, fb_ct_succ, ff_of h]
        exact Int32.add_zero _
  exact ⟨⟨_, rfl⟩, rfl, mm_WP.go [5] 40 (key 0 (Nat.zero_le _) _ _ rfl rfl)⟩
/-- the locals, the walk -/
abbrev fh (s m : Nat) (j : Int32) (a b : Option Value) : mm_L := [some (.ref 38), some (.int (nI s)), some (.int (nI (90 * s))), some (.int j), some (.int (nI m)), a, b]
abbrev wf (L : Nat) (xs : Nat → Int32) (A I : Nat → Nat → Int32) (F : Nat → Nat → Option Nat) (P : mm_M) (d : Nat) (B : Nat × Nat) (Q : mm_Q) (pc : Nat) (ls : mm_L) (st : List Value) (f : Nat → Int32) : Prop := wp d B cd_Model_findHas Q pc ls st (gm L xs (uR A 44 f) I F P)
theorem m_fh_j {d : Nat} {B : Nat × Nat} {Q : mm_Q} (hs : s < 24) (hR : RD A s D) (ho : okS D) {m t : Nat} (hm : m < 6) (ht : t < 5 - m) {f0 : Nat → Int32} {G : Nat → Bool}
    (next : ∀ (f : Nat → Int32) (u : Int32), BO s f0 f (fun x => G x || zJ D m x t) → wf L xs A I F P (d + 1) B Q 146 (fh s m (nI (6 + off m + t)) (some (.int (nI (m + 1 + t)))) (some (.int u))) [] f) :
    ∀ k, k ≤ tcO D → ∀ (x : Int32) (f : Nat → Int32), x = nI k → BO s f0 f (fun y => G y || (decide (y = 6 + off m + t) && orb (fun i => mkb D i m && mkb D i (m + 1 + t)) k)) → wf L xs A I F P (d + 1) B Q 81 (fh s m (nI (6 + off m + t)) (some (.int (nI (m + 1 + t)))) (some (.int x))) [] f := by
  have h4 := ho.1
  have i1 := ix_n (w := s) (N := 24) (by decide) hs
  have e39 : A 39 ((nI s).toNatClampNeg) = nI (tcO D) := by rw [i1.2]; exact hR.1
  have hoff := off_4 m hm
  have ix := ix_e (nI_add (90 * s) (6 + off m + t)) (N := 2160) (by decide) (by omega)
  refine rep (tcO D) ?_ ?_
  · intro x f hx hb
    exact mm_WP.go [81, 146] 40 ⟨i1.1, lp_ge hx e39 (by omega) (Nat.le_refl _) (fun _ => next f x hb) (fun h => absurd h (by omega))⟩
  · intro k hk ih x f hx hb
    subst hx
    have hv0 : f ((nI (90 * s) + nI (6 + off m + t)).toNatClampNeg) = bI (G (6 + off m + t) || orb (fun i => mkb D i m && mkb D i (m + 1 + t)) k) := by
      rw [ix.2, hb.1 _ (by omega)]
      refine bI_e ?_
      show (G (6 + off m + t) || (decide (6 + off m + t = 6 + off m + t) && orb (fun i => mkb D i m && mkb D i (m + 1 + t)) k)) = _
      rw [decide_eq_true rfl, Bool.true_and]
    have fin : ∀ v : Int32, v = bI ((G (6 + off m + t) || orb (fun i => mkb D i m && mkb D i (m + 1 + t)) k) || (mkb D k m && mkb D k (m + 1 + t))) → wf L xs A I F P (d + 1) B Q 139 (fh s m (nI (6 + off m + t)) (some (.int (nI (m + 1 + t)))) (some (.int (nI k)))) [.int v, .int (nI (90 * s) + nI (6 + off m + t)), .ref 44] f := by
      intro v hv
      have hb2 := BO_o2 hb (by omega) hv
      refine mm_WP.go [81, 146] 40 ⟨ix.1, by rw [hv]; exact bI_fit _, ?_⟩
      show wf L xs A I F P (d + 1) B Q 81 (fh s m (nI (6 + off m + t)) (some (.int (nI (m + 1 + t)))) (some (.int (nI k + 1)))) [] (upd f ((nI (90 * s) + nI (6 + off m + t)).toNatClampNeg) v)
      rw [ix.2]
      exact ih _ _ (nI_1 k) hb2
    refine mm_WP.go [81, 139, 146] 60 ⟨i1.1, lp_ge (k := k) rfl e39 (by omega) (by omega) (fun h => absurd h (by omega)) (fun _ => ⟨ix.1, fun c => fin 1 ?_, fun c => ?_⟩)⟩
    · rw [bI_1 (fun z => c (hv0.trans z))]
      rfl
    · have hf := bI_0 (hv0.symm.trans c)
      refine cy (m_hasMark (A := uR A 44 f) d hs hR ho hk hm) (fun h => e1 (cy (m_hasMark (A := uR A 44 f) d hs hR ho hk (show m + 1 + t < 6 by omega)) (fun h2 => e1 (fin 1 ?_)) (fun h2 => e0 (fin 0 ?_)))) (fun h => e0 (fin 0 ?_))
      · rw [hf, h, h2]
        rfl
      · rw [hf, h, ff_of h2]
        rfl
      · rw [hf, ff_of h]
        rfl
theorem m_fh_n {d : Nat} {B : Nat × Nat} {Q : mm_Q} (hs : s < 24) (hR : RD A s D) (ho : okS D) {m : Nat} (hm : m < 6) {f0 : Nat → Int32}
    (next : ∀ (f : Nat → Int32) (a b : Option Value), BO s f0 f (g2 D m (5 - m)) → wf L xs A I F P (d + 1) B Q 155 (fh s m (nI (6 + off m + (5 - m))) a b) [] f) :
    ∀ t, t ≤ 5 - m → ∀ (x j : Int32) (u : Option Value) (f : Nat → Int32), x = nI (m + 1 + t) → j = nI (6 + off m + t) → BO s f0 f (g2 D m t) → wf L xs A I F P (d + 1) B Q 71 (fh s m j (some (.int x)) u) [] f := by
  refine rep (5 - m) ?_ ?_
  · intro x j u f hx hj hb
    subst hj
    exact mm_WP.go [71, 155] 40 (lp_ge (N := 6) hx rfl (by decide) (by omega) (fun _ => next f _ _ hb) (fun h => absurd h (by omega)))
  · intro t ht ih x j u f hx hj hb
    subst hx
    subst hj
    refine mm_WP.go [71, 81, 155] 40 (lp_ge (k := m + 1 + t) (N := 6) rfl rfl (by decide) (by omega) (fun h => absurd h (by omega)) (fun _ => ?_))
    refine m_fh_j hs hR ho hm ht (f0 := f0) (G := g2 D m t) (fun f2 u2 hb2 => ?_) 0 (Nat.zero_le _) _ f rfl (BO_cong hb (fun x _ => ?_))
    · refine mm_WP.go [71] 40 (ih _ _ _ f2 (nI_1 _) (nI_1 _) (BO_cong hb2 (fun x _ => ?_)))
      show ((g1 D m x || orb (zJ D m x) t) || zJ D m x t) = (g1 D m x || (orb (zJ D m x) t || zJ D m x t))
      rw [Bool.or_assoc]
    · show g2 D m t x = (g2 D m t x || (decide (x = 6 + off m + t) && false))
      rw [Bool.and_false, Bool.or_false]
theorem m_fh_k {d : Nat} {B : Nat × Nat} {Q : mm_Q} (hs : s < 24) (hR : RD A s D) (ho : okS D) {m : Nat} (hm : m < 6) {f0 : Nat → Int32} {j : Int32} {b : Option Value}
    (next : ∀ (f : Nat → Int32) (a : Option Value), BO s f0 f (g3 D m 3) → wf L xs A I F P (d + 2) B Q 206 (fh s m j a b) [] f) :
    ∀ t, t ≤ 3 → ∀ (x : Int32) (f : Nat → Int32), x = nI (2 + t) → BO s f0 f (g3 D m t) → wf L xs A I F P (d + 2) B Q 158 (fh s m j (some (.int x)) b) [] f := by
  have h4 := ho.1
  refine rep 3 ?_ ?_
  · intro x f hx hb
    exact mm_WP.go [158, 206] 40 (lp_ge (N := 5) hx rfl (by decide) (by decide) (fun _ => next f _ hb) (fun h => absurd h (by decide)))
  · intro t ht ih x f hx hb
    subst hx
    have e : nI (90 * s) + 21 + 3 * nI m + nI (2 + t) - 2 = nI (90 * s + (21 + 3 * m + t)) := by
      rw [show (21 : Int32) = nI 21 from rfl, show (3 : Int32) = nI 3 from rfl, show (2 : Int32) = nI 2 from rfl, pk_mul, nI_add, nI_add, nI_add, pk_sub (by omega)]
      congr 1
      omega
    have ix := ix_e e (N := 2160) (by decide) (by omega)
    have hle := fb_ct_le (fun i => mkb D i m) (tcO D)
    have fin : ∀ v : Int32, v = bI (decide (fb_ct (fun i => mkb D i m) (tcO D) = t + 2)) → wf L xs A I F P (d + 2) B Q 199 (fh s m j (some (.int (nI (2 + t)))) b) [.int v, .int (nI (90 * s) + 21 + 3 * nI m + nI (2 + t) - 2), .ref 44] f := by
      intro v hv
      have hb2 := BO_or (c := 21 + 3 * m + t) (v := v) (b := decide (fb_ct (fun i => mkb D i m) (tcO D) = t + 2)) hb (by omega) (by rw [g3_m hm ht, hv]; rfl)
      refine mm_WP.go [158, 206] 40 ⟨ix.1, by rw [hv]; exact bI_fit _, ?_⟩
      show wf L xs A I F P (d + 2) B Q 158 (fh s m j (some (.int (nI (2 + t) + 1))) b) [] (upd f ((nI (90 * s) + 21 + 3 * nI m + nI (2 + t) - 2).toNatClampNeg) v)
      rw [ix.2]
      refine ih _ _ (nI_1 _) (BO_cong hb2 (fun x _ => ?_))
      show ((g2 D m (5 - m) x || orb (zC D m x) t) || zC D m x t) = (g2 D m (5 - m) x || (orb (zC D m x) t || zC D m x t))
      rw [Bool.or_assoc]
    have key : nI (fb_ct (fun i => mkb D i m) (tcO D)) = nI (2 + t) ↔ fb_ct (fun i => mkb D i m) (tcO D) = t + 2 := by
      rw [nI_eq (by omega) (by omega)]
      omega
    refine mm_WP.go [158, 199, 206] 60 (lp_ge (k := 2 + t) (N := 5) rfl rfl (by decide) (by omega) (fun h => absurd h (by omega)) (fun _ => ca (m_manyWith (A := uR A 44 f) d hs hR ho hm) ⟨fun c => fin 0 ?_, fun c => fin 1 ?_⟩))
    · rw [decide_eq_false (fun z => c (key.mpr z))]
      rfl
    · rw [decide_eq_true (key.mp c)]
      rfl
theorem m_fh_w {d : Nat} {B : Nat × Nat} {Q : mm_Q} (hs : s < 24) (hR : RD A s D) (ho : okS D) {m : Nat} (hm : m < 6) {f0 : Nat → Int32} {j : Int32}
    (next : ∀ (f : Nat → Int32) (a b : Option Value), BO s f0 f (g4 D m (tcO D)) → wf L xs A I F P (d + 1) B Q 295 (fh s m j a b) [] f) :
    ∀ i, i ≤ tcO D → ∀ (x : Int32) (u : Option Value) (f : Nat → Int32), x = nI i → BO s f0 f (g4 D m i) → wf L xs A I F P (d + 1) B Q 209 (fh s m j (some (.int x)) u) [] f := by
  have h4 := ho.1
  have i1 := ix_n (w := s) (N := 24) (by decide) hs
  have e39 : A 39 ((nI s).toNatClampNeg) = nI (tcO D) := by rw [i1.2]; exact hR.1
  refine rep (tcO D) ?_ ?_
  · intro x u f hx hb
    exact mm_WP.go [209, 295] 40 ⟨i1.1, lp_ge hx e39 (by omega) (Nat.le_refl _) (fun _ => next f _ _ hb) (fun h => absurd h (by omega))⟩
  · intro i hi ih x u f hx hb
    subst hx
    have i2 := ix_ma (c := 4) (s := s) (w := i) (N := 96) (by decide) (by omega)
    have v : uR A 44 f 40 ((4 * nI s + nI i).toNatClampNeg) = nI (thO D i) := by
      show A 40 ((4 * nI s + nI i).toNatClampNeg) = nI (thO D i)
      rw [show (4 * nI s + nI i).toNatClampNeg = 4 * s + i from i2.2]
      exact hR.2.1 i hi
    have l1 := ho.2.2.1 i hi
    have go : ∀ (w : Nat) (W : Int32), W = nI w → w = (if 64 ≤ thO D i then 78 else 84) → w + 6 ≤ 90 → wf L xs A I F P (d + 1) B Q 243 (fh s m j (some (.int (nI i))) u) [.int W] f := by
      rintro w W rfl hw h90
      have e : nI (90 * s) + nI w + nI m = nI (90 * s + (w + m)) := by rw [nI_add, nI_add, Nat.add_assoc]
      have ix := ix_e e (N := 2160) (by decide) (by omega)
      have hv0 : f ((nI (90 * s) + nI w + nI m).toNatClampNeg) = bI (g4 D m i (w + m)) := by rw [ix.2, hb.1 _ (by omega)]
      have fin : ∀ v : Int32, v = bI (g4 D m i (w + m) || mkb D i m) → wf L xs A I F P (d + 1) B Q 288 (fh s m j (some (.int (nI i))) (some (.int (nI w)))) [.int v, .int (nI (90 * s) + nI w + nI m), .ref 44] f := by
        intro v hv
        have hb2 := BO_or (c := w + m) hb (by omega) hv
        refine mm_WP.go [209, 295] 40 ⟨ix.1, by rw [hv]; exact bI_fit _, ?_⟩
        show wf L xs A I F P (d + 1) B Q 209 (fh s m j (some (.int (nI i + 1))) (some (.int (nI w)))) [] (upd f ((nI (90 * s) + nI w + nI m).toNatClampNeg) v)
        rw [ix.2]
        refine ih _ _ _ (nI_1 i) (BO_cong hb2 (fun x _ => ?_))
        have e2 : zW D m x i = (decide (x = w + m) && mkb D i m) := by
          unfold zW
          rw [← hw]
        show ((g3 D m 3 x || orb (zW D m x) i) || (decide (x = w + m) && mkb D i m)) = (g3 D m 3 x || (orb (zW D m x) i || zW D m x i))
        rw [e2, Bool.or_assoc]
      refine mm_WP.go [209, 288, 295] 60 ⟨ix.1, fun c => fin 1 ?_, fun c => ?_⟩
      · rw [bI_1 (fun z => c (hv0.trans z))]
        rfl
      · have hf := bI_0 (hv0.symm.trans c)
        refine cy (m_hasMark (A := uR A 44 f) d hs hR ho hi hm) (fun h => e1 (fin 1 ?_)) (fun h => e0 (fin 0 ?_))
        · rw [hf, h]
          rfl
        · rw [hf, ff_of h]
          rfl
    refine mm_WP.go [209, 243, 295] 60 ⟨i1.1, lp_ge (k := i) rfl e39 (by omega) (by omega) (fun h => absurd h (by omega)) (fun _ => ⟨i2.1, fun c => go 84 84 rfl ?_ (by decide), fun c => go 78 78 rfl ?_ (by decide)⟩)⟩
    · rw [v, show (64 : Int32) = nI 64 from rfl, nI_ltI (by omega) (by omega)] at c
      rw [if_neg (by omega)]
    · rw [v, show (64 : Int32) = nI 64 from rfl, nI_ltI (by omega) (by omega)] at c
      rw [if_pos (by omega)]
end M32
