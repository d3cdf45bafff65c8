/-! the reference: a scene's row of what it has, whole -/
section M33
variable {L : Nat} {xs : Nat → Int32} {A I : Nat → Nat → Int32} {F : Nat → Nat → Option Nat} {P : mm_M} {s : Nat} {D : Sc}
theorem m_fh_3 {d : Nat} {B : Nat × Nat} {Q : mm_Q} (hs : s < 24) (hR : RD A s D) (ho : okS D) {m i : Nat} (hm : m < 6) (hi : i < dcO D) {f0 f : Nat → Int32} {G : Nat → Bool} {j : Int32} (hb : BO s f0 f G)
    (next : ∀ f, BO s f0 f (fun x => G x || (decide (x = 60 + 6 * dvO D i + m) && mkb D (dmO D i) m)) → wf L xs A I F P (d + 1) B Q 301 (fh s m j (some (.int (nI (9 * s + 3 * i) + 3))) (some (.int (nI (dvO D i))))) [] f) :
    wf L xs A I F P (d + 1) B Q 404 (fh s m j (some (.int (nI (9 * s + 3 * i)))) (some (.int (nI (dvO D i))))) [] f := by
  have h3 := ho.2.1
  obtain ⟨o1, o2, o3⟩ := ho.2.2.2 i hi
  obtain ⟨a1, a2, a3⟩ := hR.2.2.2 i hi
  have e : nI (90 * s) + 60 + 6 * nI (dvO D i) + nI m = nI (90 * s + (60 + 6 * dvO D i + m)) := by
    rw [show (60 : Int32) = nI 60 from rfl, show (6 : Int32) = nI 6 from rfl, pk_mul, nI_add, nI_add, nI_add]
    congr 1
    omega
  have ix := ix_e e (N := 2160) (by decide) (by omega)
  have j2 : vp_in (nI (9 * s + 3 * i) + 2) 216 ∧ (nI (9 * s + 3 * i) + 2).toNatClampNeg = 9 * s + 3 * i + 2 := ix_e (nI_add _ 2) (by decide) (by omega)
  have hv0 : f ((nI (90 * s) + 60 + 6 * nI (dvO D i) + nI m).toNatClampNeg) = bI (G (60 + 6 * dvO D i + m)) := by rw [ix.2, hb.1 _ (by omega)]
  have fin : ∀ v : Int32, v = bI (G (60 + 6 * dvO D i + m) || mkb D (dmO D i) m) → wf L xs A I F P (d + 1) B Q 466 (fh s m j (some (.int (nI (9 * s + 3 * i)))) (some (.int (nI (dvO D i))))) [.int v, .int (nI (90 * s) + 60 + 6 * nI (dvO D i) + nI m), .ref 44] f := by
    intro v hv
    have hb2 := BO_or (c := 60 + 6 * dvO D i + m) hb (by omega) hv
    refine mm_WP.go [301] 40 ⟨ix.1, by rw [hv]; exact bI_fit _, ?_⟩
    show wf L xs A I F P (d + 1) B Q 301 (fh s m j (some (.int (nI (9 * s + 3 * i) + 3))) (some (.int (nI (dvO D i))))) [] (upd f ((nI (90 * s) + 60 + 6 * nI (dvO D i) + nI m).toNatClampNeg) v)
    rw [ix.2]
    exact next _ hb2
  have hc := m_hasMark (L := L) (xs := xs) (A := uR A 44 f) (I := I) (F := F) (P := P) d hs hR ho o3 hm
  rw [← show A 42 ((nI (9 * s + 3 * i) + 2).toNatClampNeg) = nI (dmO D i) by rw [j2.2]; exact a3] at hc
  refine mm_WP.go [466] 60 ⟨ix.1, fun c => fin 1 ?_, fun c => ⟨j2.1, ?_⟩⟩
  · rw [bI_1 (fun z => c (hv0.trans z))]
    rfl
  · have hf := bI_0 (hv0.symm.trans c)
    refine cy hc (fun h => e1 (fin 1 ?_)) (fun h => e0 (fin 0 ?_))
    · rw [hf, h]
      rfl
    · rw [hf, ff_of h]
      rfl
theorem m_fh_2 {d : Nat} {B : Nat × Nat} {Q : mm_Q} (hs : s < 24) (hR : RD A s D) (ho : okS D) {m i : Nat} (hm : m < 6) (hi : i < dcO D) {f0 f : Nat → Int32} {G : Nat → Bool} {j : Int32} (hb : BO s f0 f G)
    (next : ∀ f, BO s f0 f (fun x => G x || (decide (x = 42 + 6 * dvO D i + m) && mkb D (dwO D i) m)) → wf L xs A I F P (d + 1) B Q 404 (fh s m j (some (.int (nI (9 * s + 3 * i)))) (some (.int (nI (dvO D i))))) [] f) :
    wf L xs A I F P (d + 1) B Q 343 (fh s m j (some (.int (nI (9 * s + 3 * i)))) (some (.int (nI (dvO D i))))) [] f := by
  have h3 := ho.2.1
  obtain ⟨o1, o2, o3⟩ := ho.2.2.2 i hi
  obtain ⟨a1, a2, a3⟩ := hR.2.2.2 i hi
  have e : nI (90 * s) + 42 + 6 * nI (dvO D i) + nI m = nI (90 * s + (42 + 6 * dvO D i + m)) := by
    rw [show (42 : Int32) = nI 42 from rfl, show (6 : Int32) = nI 6 from rfl, pk_mul, nI_add, nI_add, nI_add]
    congr 1
    omega
  have ix := ix_e e (N := 2160) (by decide) (by omega)
  have j2 := ix_n (w := 9 * s + 3 * i) (N := 216) (by decide) (by omega)
  have hv0 : f ((nI (90 * s) + 42 + 6 * nI (dvO D i) + nI m).toNatClampNeg) = bI (G (42 + 6 * dvO D i + m)) := by rw [ix.2, hb.1 _ (by omega)]
  have fin : ∀ v : Int32, v = bI (G (42 + 6 * dvO D i + m) || mkb D (dwO D i) m) → wf L xs A I F P (d + 1) B Q 403 (fh s m j (some (.int (nI (9 * s + 3 * i)))) (some (.int (nI (dvO D i))))) [.int v, .int (nI (90 * s) + 42 + 6 * nI (dvO D i) + nI m), .ref 44] f := by
    intro v hv
    have hb2 := BO_or (c := 42 + 6 * dvO D i + m) hb (by omega) hv
    refine mm_WP.go [404] 40 ⟨ix.1, by rw [hv]; exact bI_fit _, ?_⟩
    show wf L xs A I F P (d + 1) B Q 404 (fh s m j (some (.int (nI (9 * s + 3 * i)))) (some (.int (nI (dvO D i))))) [] (upd f ((nI (90 * s) + 42 + 6 * nI (dvO D i) + nI m).toNatClampNeg) v)
    rw [ix.2]
    exact next _ hb2
  have hc := m_hasMark (L := L) (xs := xs) (A := uR A 44 f) (I := I) (F := F) (P := P) d hs hR ho o1 hm
  rw [← show A 42 ((nI (9 * s + 3 * i)).toNatClampNeg) = nI (dwO D i) by rw [j2.2]; exact a1] at hc
  refine mm_WP.go [403] 60 ⟨ix.1, fun c => fin 1 ?_, fun c => ⟨j2.1, ?_⟩⟩
  · rw [bI_1 (fun z => c (hv0.trans z))]
    rfl
  · have hf := bI_0 (hv0.symm.trans c)
    refine cy hc (fun h => e1 (fin 1 ?_)) (fun h => e0 (fin 0 ?_))
    · rw [hf, h]
      rfl
    · rw [hf, ff_of h]
      rfl
theorem m_fh_d {d : Nat} {B : Nat × Nat} {Q : mm_Q} (hs : s < 24) (hR : RD A s D) (ho : okS D) {m : Nat} (hm : m < 6) {f0 : Nat → Int32} {j : Int32}
    (next : ∀ (f : Nat → Int32) (a b : Option Value), BO s f0 f (g5 D m (dcO D)) → wf L xs A I F P (d + 1) B Q 473 (fh s m j a b) [] f) :
    ∀ i, i ≤ dcO D → ∀ (x : Int32) (u : Option Value) (f : Nat → Int32), x = nI (9 * s + 3 * i) → BO s f0 f (g5 D m i) → wf L xs A I F P (d + 1) B Q 301 (fh s m j (some (.int x)) u) [] f := by
  have h3 := ho.2.1
  have i1 := ix_n (w := s) (N := 24) (by decide) hs
  have e41 : 9 * nI s + 3 * A 41 ((nI s).toNatClampNeg) = nI (9 * s + 3 * dcO D) := by
    rw [i1.2, hR.2.2.1, show (9 : Int32) = nI 9 from rfl, show (3 : Int32) = nI 3 from rfl, pk_mul, pk_mul, nI_add]
  refine rep (dcO D) ?_ ?_
  · intro x u f hx hb
    exact mm_WP.go [301, 473] 40 ⟨i1.1, lp_ge hx e41 (by omega) (Nat.le_refl _) (fun _ => next f _ _ hb) (fun h => absurd h (by omega))⟩
  · intro i hi ih x u f hx hb
    subst hx
    obtain ⟨o1, o2, o3⟩ := ho.2.2.2 i hi
    obtain ⟨a1, a2, a3⟩ := hR.2.2.2 i hi
    have j1 : vp_in (nI (9 * s + 3 * i) + 1) 216 ∧ (nI (9 * s + 3 * i) + 1).toNatClampNeg = 9 * s + 3 * i + 1 := ix_e (nI_1 _) (by decide) (by omega)
    refine mm_WP.go [301, 328, 473] 60 ⟨i1.1, lp_ge (k := 9 * s + 3 * i) rfl e41 (by omega) (by omega) (fun h => absurd h (by omega)) (fun _ => ⟨j1.1, ?_⟩)⟩
    show wf L xs A I F P (d + 1) B Q 328 (fh s m j (some (.int (nI (9 * s + 3 * i)))) u) [.int (A 42 ((nI (9 * s + 3 * i) + 1).toNatClampNeg))] f
    rw [j1.2, a2]
    have e : nI (90 * s) + 39 + nI (dvO D i) = nI (90 * s + (39 + dvO D i)) := by
      rw [show (39 : Int32) = nI 39 from rfl, nI_add, nI_add, Nat.add_assoc]
    have ix := ix_e e (N := 2160) (by decide) (by omega)
    have hb2 := BO_or (c := 39 + dvO D i) (v := 1) (b := true) hb (by omega) (by rw [Bool.or_true]; rfl)
    refine mm_WP.go [343] 60 ⟨ix.1, rfl, ?_⟩
    show wf L xs A I F P (d + 1) B Q 343 (fh s m j (some (.int (nI (9 * s + 3 * i)))) (some (.int (nI (dvO D i))))) [] (upd f ((nI (90 * s) + 39 + nI (dvO D i)).toNatClampNeg) 1)
    rw [ix.2]
    refine m_fh_2 hs hR ho hm hi hb2 (fun f2 hb3 => m_fh_3 hs hR ho hm hi hb3 (fun f3 hb4 => ih _ _ _ ?_ (BO_cong hb4 (fun x _ => ?_))))
    · rw [show (3 : Int32) = nI 3 from rfl, nI_add]
      rfl
    · show ((((g4 D m (tcO D) x || orb (zD D m x) i) || (decide (x = 39 + dvO D i) && true)) || (decide (x = 42 + 6 * dvO D i + m) && mkb D (dwO D i) m)) || (decide (x = 60 + 6 * dvO D i + m) && mkb D (dmO D i) m)) = (g4 D m (tcO D) x || (orb (zD D m x) i || ((decide (x = 39 + dvO D i) || (decide (x = 42 + 6 * dvO D i + m) && mkb D (dwO D i) m)) || (decide (x = 60 + 6 * dvO D i + m) && mkb D (dmO D i) m))))
      simp only [Bool.and_true, Bool.or_assoc]
theorem m_fh_m {d : Nat} {B : Nat × Nat} {Q : mm_Q} (hs : s < 24) (hR : RD A s D) (ho : okS D) {f0 : Nat → Int32} (hq : ∀ f, BO s f0 f (HS D) → Q none (gm L xs (uR A 44 f) I F P)) :
    ∀ m, m ≤ 6 → ∀ (x j : Int32) (a b : Option Value) (f : Nat → Int32), x = nI m → (m < 6 → j = nI (6 + off m)) → BO s f0 f (g0 D m) → wp (d + 2) B cd_Model_findHas Q 34 [some (.ref 38), some (.int (nI s)), some (.int (nI (90 * s))), some (.int j), some (.int x), a, b] [] (gm L xs (uR A 44 f) I F P) := by
  have h4 := ho.1
  refine rep 6 ?_ ?_
  · intro x j a b f hx hj hb
    refine mm_WP.go [34] 40 (lp_ge (N := 6) hx rfl (by decide) (by decide) (fun _ => hq f (BO_cong hb (fun x hx => ?_))) (fun h => absurd h (by decide)))
    unfold g0
    rw [decide_eq_true ((by decide : ∀ x, x < 90 → own x < 6) x hx), Bool.true_and]
  · intro m hm ih x j a b f hx hj hb
    subst hx
    have hj2 := hj hm
    subst hj2
    have hoff := off_4 m hm
    have ix := ix_e (nI_add (90 * s) m) (N := 2160) (by decide) (by omega)
    have hle := fb_ct_le (fun i => mkb D i m) (tcO D)
    have tail : ∀ (f : Nat → Int32) (a b : Option Value), BO s f0 f (g2 D m (5 - m)) → wf L xs A I F P (d + 2) B Q 155 (fh s m (nI (6 + off m + (5 - m))) a b) [] f := by
      intro f a b hb2
      refine mm_WP.go [158] 40 (m_fh_k hs hR ho hm (fun f3 a3 hb3 => ?_) 0 (by decide) _ f rfl (BO_cong hb2 (fun x _ => by unfold g3; rw [orb, Bool.or_false])))
      refine mm_WP.go [209] 40 (m_fh_w hs hR ho hm (fun f4 a4 b4 hb4 => ?_) 0 (Nat.zero_le _) _ _ f3 rfl (BO_cong hb3 (fun x _ => by unfold g4; rw [orb, Bool.or_false])))
      refine mm_WP.go [301] 40 (m_fh_d hs hR ho hm (fun f5 a5 b5 hb5 => ?_) 0 (Nat.zero_le _) _ _ f4 (by rw [show (9 : Int32) = nI 9 from rfl, pk_mul]; rfl) (BO_cong hb4 (fun x _ => by unfold g5; rw [orb, Bool.or_false])))
      refine mm_WP.go [34] 40 (ih _ _ _ _ f5 (nI_1 m) (fun h => ?_) (BO_cong hb5 (fun x hx => g_next ho hm hx)))
      rw [← off_3 m (by omega), Nat.add_assoc]
    have fin : ∀ v : Int32, v = bI (decide (0 < fb_ct (fun i => mkb D i m) (tcO D))) → wf L xs A I F P (d + 2) B Q 64 (fh s m (nI (6 + off m)) a b) [.int v, .int (nI (90 * s) + nI m), .ref 44] f := by
      intro v hv
      have hb2 := BO_or (c := m) (v := v) (b := decide (0 < fb_ct (fun i => mkb D i m) (tcO D))) hb (by omega) (by rw [g0_m hm, hv]; rfl)
      refine mm_WP.go [71] 40 ⟨ix.1, by rw [hv]; exact bI_fit _, ?_⟩
      show wf L xs A I F P (d + 2) B Q 71 (fh s m (nI (6 + off m)) (some (.int (nI m + 1))) b) [] (upd f ((nI (90 * s) + nI m).toNatClampNeg) v)
      rw [ix.2]
      refine m_fh_n (d := d + 1) hs hR ho hm tail 0 (Nat.zero_le _) _ _ _ _ (nI_1 m) rfl (BO_cong hb2 (fun x _ => ?_))
      show (g0 D m x || zM D m x) = ((g0 D m x || zM D m x) || false)
      rw [Bool.or_false]
    refine mm_WP.go [34, 64] 40 (lp_ge (k := m) (N := 6) rfl rfl (by decide) (by omega) (fun h => absurd h (by omega)) (fun _ => ca (m_manyWith (A := uR A 44 f) d hs hR ho hm) ⟨fun c => fin 0 ?_, fun c => fin 1 ?_⟩))
    · rw [show (0 : Int32) = nI 0 from rfl, nI_leI (by omega) (by omega)] at c
      rw [decide_eq_false (by omega)]
      rfl
    · rw [show (0 : Int32) = nI 0 from rfl, nI_leI (by omega) (by omega)] at c
      rw [decide_eq_true (by omega)]
      rfl
theorem m_fh_c {d : Nat} {B : Nat × Nat} {Q : mm_Q} (hs : s < 24) (hR : RD A s D) (ho : okS D) {f0 : Nat → Int32} (hq : ∀ f, BO s f0 f (HS D) → Q none (gm L xs (uR A 44 f) I F P)) :
    ∀ k, k ≤ 90 → ∀ (x : Int32) (f : Nat → Int32), x = nI k → (∀ i, i < k → f (90 * s + i) = 0) → (∀ i, (i < 90 * s ∨ 90 * s + 90 ≤ i) → f i = f0 i) → wp (d + 2) B cd_Model_findHas Q 7 [some (.ref 38), some (.int (nI s)), some (.int (nI (90 * s))), some (.int x), none, none, none] [] (gm L xs (uR A 44 f) I F P) := by
  refine rep 90 ?_ ?_
  · intro x f hx h0 h1
    refine mm_WP.go [7, 34] 40 (lp_ge (N := 90) hx rfl (by decide) (by decide) (fun _ => m_fh_m hs hR ho hq 0 (by decide) _ _ _ _ f rfl (fun _ => rfl) ⟨fun k hk => ?_, h1⟩) (fun h => absurd h (by decide)))
    rw [h0 k hk]
    unfold g0
    rw [decide_eq_false (by omega)]
    rfl
  · intro k hk ih x f hx h0 h1
    subst hx
    have ix := ix_e (nI_add (90 * s) k) (N := 2160) (by decide) (by omega)
    refine mm_WP.go [7, 34] 40 (lp_ge (k := k) (N := 90) rfl rfl (by decide) (by omega) (fun h => absurd h (by omega)) (fun _ => ⟨ix.1, rfl, ?_⟩))
    show wp (d + 2) B cd_Model_findHas Q 7 [some (.ref 38), some (.int (nI s)), some (.int (nI (90 * s))), some (.int (nI k + 1)), none, none, none] [] (gm L xs (uR A 44 (upd f ((nI (90 * s) + nI k).toNatClampNeg) 0)) I F P)
    rw [ix.2]
    refine ih _ _ (nI_1 k) (fun i hi => ?_) (fun i hi => ?_)
    · rw [upd_at]
      by_cases c : i = k
      · rw [if_pos (by omega)]
      · rw [if_neg (by omega)]
        exact h0 i (by omega)
    · rw [upd_at, if_neg (by omega)]
      exact h1 i hi
theorem m_findHas (d : Nat) (hs : s < 24) (hR : RD A s D) (ho : okS D) : sp (d + 3) 124 [.ref 38, .int (nI s)] (gm L xs A I F P) (fun r m => r = none ∧ ∃ f, BO s (A 44) f (HS D) ∧ m = gm L xs (uR A 44 f) I F P) := by
  refine ⟨⟨_, rfl⟩, rfl, mm_WP.go [7] 40 ?_⟩
  have h := m_fh_c (L := L) (xs := xs) (I := I) (F := F) (P := P) (d := d) (B := mm_Al 124) (Q := fun r m => r = none ∧ ∃ f, BO s (A 44) f (HS D) ∧ m = gm L xs (uR A 44 f) I F P) hs hR ho (f0 := A 44) (fun f hf => ⟨rfl, f, hf, rfl⟩) 0 (by decide) 0 (A 44) rfl (fun i hi => absurd hi (Nat.not_lt_zero i)) (fun i _ => rfl)
  rw [← pk_mul] at h
  exact h
end M33
