/-! scene, of both -/
def scE (E : St) : St := if (rdS E.2.2.1 E.2.2.2.1).1 = true then (addX E.1 (scO (rdS E.2.2.1 E.2.2.2.1).2.1 (rdS E.2.2.1 E.2.2.2.1).2.2.1), E.2.1, E.2.2.1, 0, E.2.2.2.2) else (E.1, E.2.1, E.2.2.1, 0, E.2.2.2.2)
def scV (E : St) : Int32 := if (rdS E.2.2.1 E.2.2.2.1).1 = true then nI (xN E.1) else -20 - nI (rdS E.2.2.1 E.2.2.2.1).2.2.2
section M35
variable {L : Nat} {xs : Nat → Int32} {A I : Nat → Nat → Int32} {F : Nat → Nat → Option Nat} {P : mm_M} {X : Tl} {Z : Option Tl} {t : Nat → Nat} {N : Nat} {rf : Nat → Int32}
theorem CI_txt {v : Int32} {Y : mm_M} (h : CI (X, Z, t, N, rf) A I F P) : CI (X, Z, t, 0, rf) A (uI (uI I 7 2 v) 7 1 0) F (P ++ Y) := by
  obtain ⟨h1, h2, h3, h4, h5, h6, h7, h8⟩ := h
  exact ⟨CT_app h1, fsc_app h2, fsc_app h3, h4, fun Y e => CT_app (h5 Y e), rfl, fun i hi => absurd hi (Nat.not_lt_zero i), h8⟩
theorem c_scene (d : Nat) (hE : okE (X, Z, t, N, rf)) (h : CI (X, Z, t, N, rf) A I F P) (hn : xN X < 24) : sp (d + 7) 73 [.ref 6] (gm L xs A I F P) (cQ L xs A I (scE (X, Z, t, N, rf)) (.int (scV (X, Z, t, N, rf)))) := by
  obtain ⟨hX, hZ, hN, ht⟩ := hE
  have hT : TXc t N A I := ⟨hN, h.2.2.2.2.2.1, fun i hi => ⟨h.2.2.2.2.2.2.1 i hi, ht i hi⟩⟩
  have hI : I 21 2 = nI (xN X) := h.1.1
  have hlt : I 21 2 < 24 := by
    rw [hI]
    exact nI_lt (b := 24) hn (by decide)
  refine ⟨⟨_, rfl⟩, rfl, mm_WP.go [23] 40 ⟨fun _ => ⟨⟨by decide, by decide⟩, fun r hr => ?_⟩, fun c => absurd hlt c⟩⟩
  have hr : r = P.length + 56 := hr
  subst hr
  show wq (d + 6) (mm_Al 73) cd_Word_scene _ 23 [some (.ref 6), none, none, none] [.ref (P.length + 56), .ref (P.length + 56)] (gm L xs A I F (P ++ [.inr (3, mm_Df 3)])) 1 4
  refine mm_WP.go [26] 40 ⟨⟨by decide, by decide⟩, ca (s_init (d + 5)) ?_⟩
  refine mm_WP.go [35] 40 ⟨_, c_readScene (d + 1) hT, ?_⟩
  unfold scE scV
  have hok := rdS_ok (t := t) (N := N)
  dsimp only
  generalize rdS t N = K at *
  obtain ⟨ok, tl, dl, p⟩ := K
  dsimp only at hok ⊢
  rintro r m ⟨f, g, hf, hg, rfl, rfl⟩
  cases ok
  · refine mm_WP.go [] 60 (ca (c_place (d + 5)) (ca (c_empty (d + 5)) ⟨fun _ => ?_, fun c => absurd rfl c⟩))
    exact ⟨rfl, A, _, F, _, rfl, CI_txt h, sR.rf, (tR.rf.i (by decide) _ _).i (by decide) _ _⟩
  · refine mm_WP.go [] 60 (ca (c_place (d + 5)) (ca (c_empty (d + 5)) ⟨fun c => absurd c (by decide), fun _ => ?_⟩))
    have hD : okS (scO tl dl) := scO_ok hok.2.1 hok.2.2.1 hok.2.2.2.1 hok.2.2.2.2
    have hsp : SP (P ++ SCc P.length tl.length dl.length f g) P.length (scO tl dl) := ⟨f, g, nth_app P 0, nth_app P 1, nth_app P 2, hf, hg⟩
    refine ⟨_, c_addScene (A := A) (I := uI (uI I 7 2 (nI p)) 7 1 0) (F := F) (d + 1) (CT_app h.1) hn hsp hD, ?_⟩
    rintro r m ⟨rfl, f5, hf5, rfl⟩
    obtain ⟨h1, h2, h3, h4, h5, h6, h7, h8⟩ := h
    exact ⟨rfl, _, _, _, _, rfl, ⟨CT_add (CT_app h1) hsp hf5, fsc_up (fsc_app h2) (SP_scn hsp), fsc_app h3, h4, fun Y e => CT_app (h5 Y e), rfl, fun i hi => absurd hi (Nat.not_lt_zero i), h8⟩, sR.rf.r (by decide) _, ((tR.rf.i (by decide) _ _).i (by decide) _ _).i (by decide) _ _⟩
theorem c_scene_r (d : Nat) (h : CI (X, Z, t, N, rf) A I F P) (hn : xN X = 24) : sp (d + 7) 73 [.ref 6] (gm L xs A I F P) (rC L xs A I F P 6 (-6)) := by
  have hI : I 21 2 = nI (xN X) := h.1.1
  rw [hn] at hI
  refine ⟨⟨_, rfl⟩, rfl, mm_WP.go [23] 40 ⟨fun c => ?_, fun c => ca (c_rf6 (d + 5)) ⟨rfl, rfl⟩⟩⟩
  rw [hI] at c
  exact absurd c (by decide)
theorem RD_old {n s : Nat} {tl : List Nat} {dl : List (Nat × Nat × Nat)} {g1 g2 g3 g4 : Nat → Int32} {D : Sc} (h1 : TR A n tl g1 g2) (h2 : DR A n dl g3 g4) (hs : s < n) (ho : okS D) (h : RD A s D) : RD (uR (uR (uR (uR A 39 g1) 40 g2) 41 g3) 42 g4) s D := by
  obtain ⟨o1, o2, -⟩ := ho
  obtain ⟨a, b, c, e⟩ := h
  refine ⟨(h1.2.2.1 s (by omega)).trans a, fun i hi => (h1.2.2.2 _ (Or.inl (by omega))).trans (b i hi), (h2.2.2.1 s (by omega)).trans c, fun i hi => ?_⟩
  obtain ⟨e1, e2, e3⟩ := e i hi
  exact ⟨(h2.2.2.2 _ (Or.inl (by omega))).trans e1, (h2.2.2.2 _ (Or.inl (by omega))).trans e2, (h2.2.2.2 _ (Or.inl (by omega))).trans e3⟩
theorem m_scene (d : Nat) (hE : okE (X, Z, t, N, rf)) (h : RI (X, Z, t, N, rf) A I) (hn : xN X < 24) : sp (d + 6) 117 [.ref 38] (gm L xs A I F P) (mQ L xs A I F P (scE (X, Z, t, N, rf)) (.int (scV (X, Z, t, N, rf)))) := by
  obtain ⟨hX, hZ, hN, ht⟩ := hE
  obtain ⟨r1, r2, r3, r4, r5, r6⟩ := h
  have hX : okT X := hX
  have r1 : RT X A I := r1
  have hI : I 38 0 = nI (xN X) := r1.1
  have hT : TXm t N A (uI (uI I 38 18 (I 38 15)) 38 15 0) := ⟨hN, r4, fun i hi => ⟨r5 i hi, ht i hi⟩⟩
  have hne : ¬ I 38 0 = 24 := by
    rw [hI, show (24 : Int32) = nI 24 from rfl, nI_eq (by omega) (by omega)]
    omega
  have hrs := m_readScene (L := L) (xs := xs) (F := F) (P := P) (d + 1) hT hn (h1 := A 39) (h2 := A 40) (h3 := A 41) (h4 := A 42) rfl rfl rfl rfl
  rw [← hI] at hrs
  refine ⟨⟨_, rfl⟩, rfl, mm_WP.go [47] 60 ⟨fun _ => ⟨trivial, trivial, trivial, rfl, _, hrs, ?_⟩, fun c => absurd c hne⟩⟩
  unfold scE scV
  have hok := rdS_ok (t := t) (N := N)
  dsimp only
  clear hrs
  generalize rdS t N = K at *
  obtain ⟨ok, tl, dl, p⟩ := K
  dsimp only at hok ⊢
  rintro r m ⟨rfl, g1, g2, g3, g4, hTR, hDR, rfl⟩
  cases ok
  · refine mm_WP.go [] 60 (e1 ?_)
    refine ⟨rfl, _, _, rfl, ⟨⟨hI, fun s hs => RD_old hTR hDR hs (hX.2.1 s hs) (r1.2.1 s hs), r1.2.2⟩, r2, r3, rfl, fun i hi => absurd hi (Nat.not_lt_zero i), r6⟩, (((sC.rf.r (by decide) _).r (by decide) _).r (by decide) _).r (by decide) _, (((tC.rf.i (by decide) _ _).i (by decide) _ _).i (by decide) _ _).i (by decide) _ _⟩
  · have hD : okS (scO tl dl) := scO_ok hok.2.1 hok.2.2.1 hok.2.2.2.1 hok.2.2.2.2
    have hRD : RD (uR (uR (uR (uR A 39 g1) 40 g2) 41 g3) 42 g4) (xN X) (scO tl dl) := ⟨hTR.1, hTR.2.1, hDR.1, hDR.2.1⟩
    have fin : ∀ f, (∀ w, w < 6 → f (6 * xN X + w) = 0) → (∀ j, j < 6 * xN X → f j = A 43 j) → wp (d + 5) (mm_Al 117) cd_Model_scene (mQ L xs A I F P (addX X (scO tl dl), Z, t, 0, rf) (.int (nI (xN X)))) 91 [some (.ref 38), some (.int 6)] [] (gm L xs (uR (uR (uR (uR (uR A 39 g1) 40 g2) 41 g3) 42 g4) 43 f) (uI (uI (uI (uI I 38 18 (I 38 15)) 38 15 0) 38 17 (nI p)) 38 19 0) F P) := by
      intro f hf1 hf2
      have hfh := m_findHas (L := L) (xs := xs) (A := uR (uR (uR (uR (uR A 39 g1) 40 g2) 41 g3) 42 g4) 43 f) (I := uI (uI (uI (uI I 38 18 (I 38 15)) 38 15 0) 38 17 (nI p)) 38 19 0) (F := F) (P := P) (d + 2) hn hRD hD
      rw [← hI] at hfh
      refine mm_WP.go [99] 60 ⟨_, hfh, ?_⟩
      rintro r m ⟨rfl, f44, hB, rfl⟩
      have ev : I 38 0 + 1 - 1 = nI (xN X) := by
        rw [hI, nI_1, show (1 : Int32) = nI 1 from rfl, pk_sub (by omega), Nat.add_sub_cancel]
      refine mm_WP.go [] 60 ⟨trivial, ?_⟩
      refine ⟨congrArg (fun z => some (Value.int z)) ev, _, uI (uI (uI (uI (uI I 38 18 (I 38 15)) 38 15 0) 38 17 (nI p)) 38 19 0) 38 0 (I 38 0 + 1), rfl, ⟨⟨?_, fun s hs => ?_, fun s w hs hw => ?_, fun s m hs hm => ?_, r1.2.2.2.2⟩, r2, r3, rfl, fun i hi => absurd hi (Nat.not_lt_zero i), r6⟩, (((((sC.rf.r (by decide) _).r (by decide) _).r (by decide) _).r (by decide) _).r (by decide) _).r (by decide) _, ((((tC.rf.i (by decide) _ _).i (by decide) _ _).i (by decide) _ _).i (by decide) _ _).i (by decide) _ _⟩
      · show I 38 0 + 1 = nI (xN X + 1)
        rw [hI, nI_1]
      · have hs : s < xN X + 1 := hs
        show RD _ s (if s = xN X then scO tl dl else xD X s)
        by_cases c : s = xN X
        · subst c
          rw [if_pos rfl]
          exact hRD
        · rw [if_neg c]
          exact RD_old hTR hDR (by omega) (hX.2.1 s (by omega)) (r1.2.1 s (by omega))
      · have hs : s < xN X + 1 := hs
        show f (6 * s + w) = bI (if s = xN X then false else xS X s w)
        by_cases c : s = xN X
        · subst c
          rw [if_pos rfl, hf1 w hw]
          rfl
        · rw [if_neg c, hf2 _ (by omega)]
          exact r1.2.2.1 s w (by omega) hw
      · have hs : s < xN X + 1 := hs
        rw [hX_add]
        show f44 (90 * s + m) = _
        by_cases c : s = xN X
        · subst c
          rw [if_pos rfl, hB.1 m hm]
        · rw [if_neg c, hB.2 _ (Or.inl (by omega))]
          exact r1.2.2.2.1 s m (by omega) hm
    have key : ∀ k, k ≤ 6 → ∀ (x : Int32) (f : Nat → Int32), x = nI k → (∀ w, w < k → f (6 * xN X + w) = 0) → (∀ j, j < 6 * xN X → f j = A 43 j) → wp (d + 5) (mm_Al 117) cd_Model_scene (mQ L xs A I F P (addX X (scO tl dl), Z, t, 0, rf) (.int (nI (xN X)))) 64 [some (.ref 38), some (.int x)] [] (gm L xs (uR (uR (uR (uR (uR A 39 g1) 40 g2) 41 g3) 42 g4) 43 f) (uI (uI (uI (uI I 38 18 (I 38 15)) 38 15 0) 38 17 (nI p)) 38 19 0) F P) := by
      refine rep 6 ?_ ?_
      · intro x f hx hf1 hf2
        refine mm_WP.go [64, 91] 60 (lp_ge (N := 6) hx rfl (by decide) (by decide) (fun _ => ?_) (fun h => absurd h (by decide)))
        subst hx
        exact fin f hf1 hf2
      · intro k hk ih x f hx hf1 hf2
        subst hx
        have ix : vp_in (6 * I 38 0 + nI k) 144 ∧ (6 * I 38 0 + nI k).toNatClampNeg = 6 * xN X + k := by
          rw [hI]
          exact ix_ma (c := 6) (by decide) (by omega)
        refine mm_WP.go [64, 91] 60 (lp_ge (k := k) (N := 6) rfl rfl (by decide) (by omega) (fun h => absurd h (by omega)) (fun _ => ⟨ix.1, rfl, ?_⟩))
        show wp (d + 5) (mm_Al 117) cd_Model_scene _ 64 [some (.ref 38), some (.int (nI k + 1))] [] (gm L xs (uR (uR (uR (uR (uR A 39 g1) 40 g2) 41 g3) 42 g4) 43 (upd f ((6 * I 38 0 + nI k).toNatClampNeg) 0)) (uI (uI (uI (uI I 38 18 (I 38 15)) 38 15 0) 38 17 (nI p)) 38 19 0) F P)
        rw [ix.2]
        refine ih _ _ (nI_1 k) (fun w hw => ?_) (fun j hj => ?_)
        · rw [upd_at]
          by_cases c : w = k
          · rw [if_pos (by omega)]
          · rw [if_neg (by omega)]
            exact hf1 w (by omega)
        · rw [upd_at, if_neg (by omega)]
          exact hf2 j hj
    refine mm_WP.go [64] 60 (e0 ?_)
    exact key 0 (by decide) 0 (A 43) rfl (fun w hw => absurd hw (Nat.not_lt_zero w)) (fun j _ => rfl)
theorem m_scene_r (d : Nat) (h : RI (X, Z, t, N, rf) A I) (hn : xN X = 24) : sp (d + 6) 117 [.ref 38] (gm L xs A I F P) (rM L xs A I F P 6 (-6)) := by
  have hI : I 38 0 = nI (xN X) := h.1.1
  rw [hn] at hI
  exact ⟨⟨_, rfl⟩, rfl, mm_WP.go [47] 60 ⟨fun c => absurd hI c, fun _ => ca (m_rf6 (d + 4)) ⟨rfl, rfl⟩⟩⟩
end M35
theorem bo_scene (d : Nat) {E : St} (hE : okE E) : ∃ v E2, bo (d + 7) 73 117 [] E (.int v) E2 := by
  obtain ⟨X, Z, t, N, rf⟩ := E
  by_cases hn : xN X = 24
  · exact bo_rf (k := 6) hE (by decide) (fun L xs A I F P h => c_scene_r d h hn) (fun L xs A I F P h => m_scene_r (d + 1) h hn)
  · have hn2 : xN X < 24 := by
      have : xN X ≤ 24 := hE.1.1
      omega
    refine ⟨_, _, ?_, fun L xs A I F P h => c_scene d hE h hn2, fun L xs A I F P h => m_scene (d + 1) hE h hn2⟩
    have hok := rdS_ok (t := t) (N := N)
    unfold scE
    dsimp only
    split
    · exact ⟨okT_add hE.1 hn2 (scO_ok hok.2.1 hok.2.2.1 hok.2.2.2.1 hok.2.2.2.2), hE.2.1, Nat.zero_le _, fun i hi => absurd hi (Nat.not_lt_zero i)⟩
    · exact ⟨hE.1, hE.2.1, Nat.zero_le _, fun i hi => absurd hi (Nat.not_lt_zero i)⟩
