/-! image, restore: the reference; both -/
def en (A I : Nat → Nat → Int32) (p : Nat) : Int32 :=
  if p = 0 then I 38 0 else if p < 505 then (if (p - 1) % 21 = 0 then A 39 ((p - 1) / 21) else if (p - 1) % 21 = 1 then A 41 ((p - 1) / 21) else if (p - 1) % 21 < 6 then A 40 (4 * ((p - 1) / 21) + ((p - 1) % 21 - 2)) else if (p - 1) % 21 < 15 then A 42 (9 * ((p - 1) / 21) + ((p - 1) % 21 - 6)) else (if A 43 (6 * ((p - 1) / 21) + ((p - 1) % 21 - 15)) = 0 then 0 else 1))
  else if p < 513 then A 45 (p - 505) else if p = 513 then I 38 8 else if p = 514 then I 38 9 else if p < 521 then A 46 (p - 515) else if p = 521 then I 38 11 else if p % 2 = 0 then A 47 ((p - 522) / 2) else A 48 ((p - 522) / 2)
theorem en_s {A I : Nat → Nat → Int32} {s r : Nat} (hs : s < 24) (hr : r < 21) : en A I (1 + 21 * s + r) = (if r = 0 then A 39 s else if r = 1 then A 41 s else if r < 6 then A 40 (4 * s + (r - 2)) else if r < 15 then A 42 (9 * s + (r - 6)) else (if A 43 (6 * s + (r - 15)) = 0 then 0 else 1)) := by
  unfold en
  rw [if_neg (by omega), if_pos (by omega), show (1 + 21 * s + r - 1) / 21 = s by omega, show (1 + 21 * s + r - 1) % 21 = r by omega]
theorem en_EN (A I : Nat → Nat → Int32) : EN A I (en A I) := by
  refine ⟨rfl, fun s hs => ⟨?_, ?_, fun j hj => ?_, fun j hj => ?_, fun j hj => ?_⟩, fun k hk => ?_, rfl, rfl, fun k hk => ?_, rfl, fun k hk => ⟨?_, ?_⟩⟩
  · exact (en_s (r := 0) hs (by decide)).symm
  · exact (en_s (r := 1) hs (by decide)).symm
  · rw [Nat.add_assoc, en_s (r := 2 + j) hs (by omega), if_neg (by omega), if_neg (by omega), if_pos (by omega), Nat.add_sub_cancel_left]
  · rw [Nat.add_assoc, en_s (r := 6 + j) hs (by omega), if_neg (by omega), if_neg (by omega), if_neg (by omega), if_pos (by omega), Nat.add_sub_cancel_left]
  · rw [Nat.add_assoc, en_s (r := 15 + j) hs (by omega), if_neg (show ¬ 15 + j = 0 by omega), if_neg (show ¬ 15 + j = 1 by omega), if_neg (show ¬ 15 + j < 6 by omega), if_neg (show ¬ 15 + j < 15 by omega), Nat.add_sub_cancel_left]
  · unfold en
    rw [if_neg (by omega), if_neg (by omega), if_pos (by omega), Nat.add_sub_cancel_left]
  · unfold en
    rw [if_neg (by omega), if_neg (by omega), if_neg (by omega), if_neg (by omega), if_neg (by omega), if_pos (by omega), Nat.add_sub_cancel_left]
  · unfold en
    rw [if_neg (by omega), if_neg (by omega), if_neg (by omega), if_neg (by omega), if_neg (by omega), if_neg (by omega), if_neg (by omega), if_pos (by omega), show (522 + 2 * k - 522) / 2 = k by omega]
  · unfold en
    rw [if_neg (by omega), if_neg (by omega), if_neg (by omega), if_neg (by omega), if_neg (by omega), if_neg (by omega), if_neg (by omega), if_neg (by omega), show (522 + 2 * k + 1 - 522) / 2 = k by omega]
theorem nz_bI (b : Bool) : (if bI b = 0 then (0 : Int32) else 1) = bI b := by cases b <;> rfl
theorem RT_IM {X : Tl} {A I : Nat → Nat → Int32} {E : Nat → Int32} (ho : okT X) (h : RT X A I) (hE : EN A I E) : IM X E := by
  obtain ⟨a1, a2, a3, a4, a5, a6, a7, a8, a9, a10⟩ := h
  obtain ⟨e1, e2, e3, e4, e5, e6, e7, e8⟩ := hE
  have hn := ho.1
  have hy : xY X ≤ 20 := ho.2.2.2.2.2.2.1
  refine ⟨e1.symm.trans a1, fun s hs => ?_, fun k hk => (e3 k hk).symm.trans (a5 k hk), e4.symm.trans a6, e5.symm.trans a7, fun w hw => (e6 w hw).symm.trans (a8 w hw), e7.symm.trans a9, fun i hi => ⟨(e8 i (by omega)).1.symm.trans (a10 i hi).1, ?_⟩⟩
  · obtain ⟨q1, q2, q3, q4, q5⟩ := e2 s (by omega)
    obtain ⟨r1, r2, r3, r4⟩ := a2 s hs
    have hD := ho.2.1 s hs
    have h4 := hD.1
    have h3 := hD.2.1
    refine ⟨q1.symm.trans r1, ?_, fun i hi => ?_, fun i hi => ?_, fun w hw => ?_⟩
    · rw [show 2 + 21 * s = 1 + 21 * s + 1 by omega]
      exact q2.symm.trans r3
    · rw [show 3 + 21 * s + i = 1 + 21 * s + 2 + i by omega]
      exact (q3 i (by omega)).symm.trans (r2 i hi)
    · obtain ⟨t1, t2, t3⟩ := r4 i hi
      rw [show 7 + 21 * s + 3 * i = 1 + 21 * s + 6 + 3 * i by omega]
      refine ⟨(q4 (3 * i) (by omega)).symm.trans t1, ?_, ?_⟩
      · exact (q4 (3 * i + 1) (by omega)).symm.trans t2
      · exact (q4 (3 * i + 2) (by omega)).symm.trans t3
    · rw [show 16 + 21 * s + w = 1 + 21 * s + 15 + w by omega, ← q5 w hw, a3 s w hs hw]
      exact nz_bI _
  · rw [show 523 + 2 * i = 522 + 2 * i + 1 by omega]
    exact (e8 i (by omega)).2.symm.trans (a10 i hi).2
theorem IM_cong {X : Tl} {f g : Nat → Int32} (ho : okT X) (h : IM X f) (e : ∀ p, p < 562 → g p = f p) : IM X g := by
  obtain ⟨a1, a2, a3, a4, a5, a6, a7, a8⟩ := h
  have hn := ho.1
  have hy : xY X ≤ 20 := ho.2.2.2.2.2.2.1
  refine ⟨(e 0 (by decide)).trans a1, fun s hs => ?_, fun k hk => (e _ (by omega)).trans (a3 k hk), (e _ (by decide)).trans a4, (e _ (by decide)).trans a5, fun w hw => (e _ (by omega)).trans (a6 w hw), (e _ (by decide)).trans a7, fun i hi => ⟨(e _ (by omega)).trans (a8 i hi).1, (e _ (by omega)).trans (a8 i hi).2⟩⟩
  obtain ⟨q1, q2, q3, q4, q5⟩ := a2 s hs
  have hD := ho.2.1 s hs
  have h4 := hD.1
  have h3 := hD.2.1
  exact ⟨(e _ (by omega)).trans q1, (e _ (by omega)).trans q2, fun i hi => (e _ (by omega)).trans (q3 i hi), fun i hi => ⟨(e _ (by omega)).trans (q4 i hi).1, (e _ (by omega)).trans (q4 i hi).2.1, (e _ (by omega)).trans (q4 i hi).2.2⟩, fun w hw => (e _ (by omega)).trans (q5 w hw)⟩
/-- what is told, but for what is had -/
def RT0 (X : Tl) (A I : Nat → Nat → Int32) : Prop :=
  I 38 0 = nI (xN X) ∧ (∀ s, s < xN X → RD A s (xD X s)) ∧ (∀ s w, s < xN X → w < 6 → A 43 (6 * s + w) = bI (xS X s w)) ∧ (∀ k, k < 8 → A 45 k = nI (xW X k)) ∧ I 38 8 = nI (xH X) ∧ I 38 9 = nI (xM X) ∧ (∀ w, w < 6 → A 46 w = oM (xG X w)) ∧ I 38 11 = nI (xY X) ∧ ∀ i, i < xY X → A 47 i = nI (xA X i) ∧ A 48 i = nI (xB X i)
theorem bI_dec (b : Bool) : bI (decide (bI b = 1)) = bI b := by cases b <;> rfl
theorem mv_RT {X : Tl} {A I : Nat → Nat → Int32} {E : Nat → Int32} (ho : okT X) (h : IM X E) : RT0 X (mvA A E) (mvI I E) := by
  obtain ⟨a1, a2, a3, a4, a5, a6, a7, a8⟩ := h
  have hn := ho.1
  have hy : xY X ≤ 20 := ho.2.2.2.2.2.2.1
  refine ⟨a1, fun s hs => ?_, fun s w hs hw => ?_, fun k hk => ?_, a4, a5, fun w hw => ?_, a7, fun i hi => ⟨?_, ?_⟩⟩
  · obtain ⟨q1, q2, q3, q4, q5⟩ := a2 s hs
    have hD := ho.2.1 s hs
    have h4 := hD.1
    have h3 := hD.2.1
    refine ⟨?_, fun i hi => ?_, ?_, fun i hi => ?_⟩
    · show fa_fill (G39 E) (A 39) 24 s = _
      rw [fa_fill_in (by omega)]
      exact q1
    · show fa_fill (G40 E) (A 40) 96 (4 * s + i) = _
      rw [fa_fill_in (by omega)]
      unfold G40
      rw [show 1 + 21 * ((4 * s + i) / 4) + 2 + (4 * s + i) % 4 = 3 + 21 * s + i by omega]
      exact q3 i hi
    · show fa_fill (G41 E) (A 41) 24 s = _
      rw [fa_fill_in (by omega)]
      unfold G41
      rw [show 1 + 21 * s + 1 = 2 + 21 * s by omega]
      exact q2
    · obtain ⟨t1, t2, t3⟩ := q4 i hi
      refine ⟨?_, ?_, ?_⟩
      · show fa_fill (G42 E) (A 42) 216 (9 * s + 3 * i) = _
        rw [fa_fill_in (by omega)]
        unfold G42
        rw [show 1 + 21 * ((9 * s + 3 * i) / 9) + 6 + (9 * s + 3 * i) % 9 = 7 + 21 * s + 3 * i by omega]
        exact t1
      · show fa_fill (G42 E) (A 42) 216 (9 * s + 3 * i + 1) = _
        rw [fa_fill_in (by omega)]
        unfold G42
        rw [show 1 + 21 * ((9 * s + 3 * i + 1) / 9) + 6 + (9 * s + 3 * i + 1) % 9 = 7 + 21 * s + 3 * i + 1 by omega]
        exact t2
      · show fa_fill (G42 E) (A 42) 216 (9 * s + 3 * i + 2) = _
        rw [fa_fill_in (by omega)]
        unfold G42
        rw [show 1 + 21 * ((9 * s + 3 * i + 2) / 9) + 6 + (9 * s + 3 * i + 2) % 9 = 7 + 21 * s + 3 * i + 2 by omega]
        exact t3
  · obtain ⟨q1, q2, q3, q4, q5⟩ := a2 s hs
    show fa_fill (G43 E) (A 43) 144 (6 * s + w) = _
    rw [fa_fill_in (by omega)]
    unfold G43
    rw [show 1 + 21 * ((6 * s + w) / 6) + 15 + (6 * s + w) % 6 = 16 + 21 * s + w by omega, q5 w hw]
    exact bI_dec _
  · show fa_fill (G45 E) (A 45) 8 k = _
    rw [fa_fill_in hk]
    exact a3 k hk
  · show fa_fill (G46 E) (A 46) 6 w = _
    rw [fa_fill_in hw]
    exact a6 w hw
  · show fa_fill (G47 E) (A 47) 20 i = _
    rw [fa_fill_in (by omega)]
    exact (a8 i hi).1
  · show fa_fill (G48 E) (A 48) 20 i = _
    rw [fa_fill_in (by omega)]
    unfold G48
    rw [show 522 + 2 * i + 1 = 523 + 2 * i by omega]
    exact (a8 i hi).2
theorem sC_mv {A : Nat → Nat → Int32} {E : Nat → Int32} : sC (mvA A E) A := by
  unfold mvA mT mS
  exact (((((((((sC.rf.r (by decide) _).r (by decide) _).r (by decide) _).r (by decide) _).r (by decide) _).r (by decide) _).r (by decide) _).r (by decide) _).r (by decide) _).r (by decide) _
theorem tC_mv {I I2 : Nat → Nat → Int32} {E : Nat → Int32} (h : tC I2 I) : tC (mvI I2 E) I := by
  unfold mvI
  exact ((((h.i (by decide) _ _).i (by decide) _ _).i (by decide) _ _).i (by decide) _ _).i (by decide) _ _
section M47
variable {L : Nat} {xs : Nat → Int32} {A I : Nat → Nat → Int32} {F : Nat → Nat → Option Nat} {P : mm_M} {X : Tl} {Z : Option Tl} {t : Nat → Nat} {N : Nat} {rf : Nat → Int32}
theorem m_image (d : Nat) (ho : okT X) (h : RI (X, Z, t, N, rf) A I) : sp (d + 3) 177 [.ref 38] (gm L xs A I F P) (mQ L xs A I F P (X, some X, t, N, rf) (.int (nI (xN X)))) := by
  obtain ⟨r1, r2, r3, r4, r5, r6⟩ := h
  have r1 : RT X A I := r1
  have hI : EN A (uI (uI I 38 27 1) 38 30 1) (en A (uI (uI I 38 27 1) 38 30 1)) := en_EN _ _
  have hM : IM X (en A (uI (uI I 38 27 1) 38 30 1)) := RT_IM ho (show RT X A (uI (uI I 38 27 1) 38 30 1) from r1) hI
  have hma := m_moveAll (L := L) (xs := xs) (A := A) (I := uI (uI I 38 27 1) 38 30 1) (F := F) (P := P) (tk := true) (E := en A (uI (uI I 38 27 1) 38 30 1)) d rfl (fun z => by cases z) (fun _ => hI)
  generalize en A (uI (uI I 38 27 1) 38 30 1) = E at *
  obtain ⟨q1, q2, q3, q4, q5, q6, q7, q8, q9⟩ := mv_RT (A := A) (I := uI (uI I 38 27 1) 38 30 1) ho hM
  refine ⟨⟨_, rfl⟩, rfl, mm_WP.go [14] 40 ⟨rfl, rfl, ca hma ?_⟩⟩
  refine mm_WP.go [] 40 ⟨congrArg (fun z => some (Value.int z)) q1, mvA A E, mvI (uI (uI I 38 27 1) 38 30 1) E, rfl, ⟨⟨q1, q2, q3, r1.2.2.2.1, q4, q5, q6, q7, q8, q9⟩, rfl, fun Y hY => ?_, r4, r5, r6⟩, sC_mv, tC_mv ((tC.rf.i (by decide) _ _).i (by decide) _ _)⟩
  have hY : X = Y := Option.some.inj hY
  subst hY
  exact IM_cong ho hM (fun p hp => fa_fill_in hp)
theorem m_restore (d : Nat) {Y : Tl} (ho : okT Y) (h : RI (X, some Y, t, N, rf) A I) : sp (d + 4) 180 [.ref 38] (gm L xs A I F P) (mQ L xs A I F P (Y, some Y, t, N, rf) (.int (nI (xN Y)))) := by
  obtain ⟨r1, r2, r3, r4, r5, r6⟩ := h
  have r2 : I 38 27 = 1 := r2
  have hM := r3 Y rfl
  have hn := ho.1
  have hma := m_moveAll (L := L) (xs := xs) (A := A) (I := uI I 38 30 0) (F := F) (P := P) (tk := false) (E := A 55) (d + 1) rfl (fun _ p => rfl) (fun z => by cases z)
  have q := mv_RT (A := A) (I := uI I 38 30 0) ho hM
  obtain ⟨q1, q2, q3, q4, q5, q6, q7, q8, q9⟩ := q
  have key : ∀ k, k ≤ xN Y → ∀ (x : Int32) (f : Nat → Int32), x = nI k → (∀ s m, s < k → m < 90 → f (90 * s + m) = bI (hX Y s m)) → wp (d + 3) (mm_Al 180) cd_Model_restore (mQ L xs A I F P (Y, some Y, t, N, rf) (.int (nI (xN Y)))) 25 [some (.ref 38), some (.int x)] [] (gm L xs (uR (mvA A (A 55)) 44 f) (mvI (uI I 38 30 0) (A 55)) F P) := by
    refine rep (xN Y) ?_ ?_
    · intro x f hx hf
      refine mm_WP.go [25] 40 (lp_ge hx q1 (by omega) (Nat.le_refl _) (fun _ => ⟨congrArg (fun z => some (Value.int z)) q1, uR (mvA A (A 55)) 44 f, mvI (uI I 38 30 0) (A 55), rfl, ⟨⟨q1, q2, q3, hf, q4, q5, q6, q7, q8, q9⟩, r2, fun Y2 hY => ?_, r4, r5, r6⟩, sC_mv.r (by decide) _, tC_mv (tC.rf.i (by decide) _ _)⟩) (fun h => absurd h (by omega)))
      have hY : Y = Y2 := Option.some.inj hY
      subst hY
      exact IM_cong ho hM (fun p hp => fa_fill_in hp)
    · intro k hk ih x f hx hf
      subst hx
      have hfh := m_findHas (L := L) (xs := xs) (A := uR (mvA A (A 55)) 44 f) (I := mvI (uI I 38 30 0) (A 55)) (F := F) (P := P) d (show k < 24 by omega) (q2 k hk) (ho.2.1 k hk)
      refine mm_WP.go [25] 40 (lp_ge (k := k) rfl q1 (by omega) (by omega) (fun h => absurd h (by omega)) (fun _ => ⟨_, hfh, ?_⟩))
      rintro r m ⟨rfl, f2, hB, rfl⟩
      refine ih _ f2 (nI_1 k) (fun s m hs hm => ?_)
      by_cases c : s = k
      · subst c
        exact hB.1 m hm
      · exact (hB.2 _ (Or.inl (by omega))).trans (hf s m (by omega) hm)
  refine ⟨⟨_, rfl⟩, rfl, mm_WP.go [25] 40 ⟨fun _ => ⟨rfl, ca hma ?_⟩, fun c => absurd (r2.symm.trans c) (by decide)⟩⟩
  exact key 0 (Nat.zero_le _) 0 (A 44) rfl (fun s m hs => absurd hs (Nat.not_lt_zero s))
theorem m_restore_r (d : Nat) (h : RI (X, none, t, N, rf) A I) : sp (d + 4) 180 [.ref 38] (gm L xs A I F P) (rM L xs A I F P 3 (-3)) := by
  have h4 : I 38 27 = 0 := h.2.1
  exact ⟨⟨_, rfl⟩, rfl, mm_WP.go [25] 40 ⟨fun c => absurd h4 c, fun _ => ca (m_rf3 (d + 2)) ⟨rfl, rfl⟩⟩⟩
end M47
theorem bo_image (d : Nat) {E : St} (hE : okE E) : ∃ u E2, bo (d + 3) 110 177 [] E (.int u) E2 := by
  obtain ⟨X, Z, t, N, rf⟩ := E
  have ho : okT X := hE.1
  exact ⟨_, (X, some X, t, N, rf), ⟨ho, fun Y hY => by cases hY; exact ho, hE.2.2⟩, fun L xs A I F P h => c_image (d + 1) ho h, fun L xs A I F P h => m_image d ho h⟩
theorem bo_restore (d : Nat) {E : St} (hE : okE E) : ∃ u E2, bo (d + 4) 111 180 [] E (.int u) E2 := by
  obtain ⟨X, Z, t, N, rf⟩ := E
  cases Z with
  | none => exact bo_rf (k := 3) hE (by decide) (fun L xs A I F P h => c_restore_r (d + 2) h) (fun L xs A I F P h => m_restore_r d h)
  | some Y =>
    have ho : okT Y := hE.2.1 Y rfl
    exact ⟨_, (Y, some Y, t, N, rf), ⟨ho, hE.2.1, hE.2.2⟩, fun L xs A I F P h => c_restore (d + 2) ho h, fun L xs A I F P h => m_restore d ho h⟩
