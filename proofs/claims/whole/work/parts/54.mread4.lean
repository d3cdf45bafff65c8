/-! the reference's reader: a scene -/
section M31
variable {L : Nat} {xs : Nat → Int32} {A I : Nat → Nat → Int32} {F : Nat → Nat → Option Nat} {P : mm_M}
/-- how the reference's flag stands behind a list that was read -/
def fl (ok : Bool) (v : Int32) (h : Prop) : Prop := (ok = false ∧ v = 1) ∨ (ok = true ∧ v = 0) ∨ (ok = true ∧ v = 1 ∧ h)
theorem m_sc_t {d : Nat} {B : Nat × Nat} {Q : mm_Q} {t : Nat → Nat} {N s : Nat} {h3 h4 : Nat → Int32} (hT : TXm t N A I) (hs : s < 24) (K : Bool × List Nat × Nat) (hq : ∀ g1 g2 v, TR A s K.2.1 g1 g2 → fl K.1 v (hd t N K.2.2 = 44) → wp (d + 2) B cd_Model_readScene Q 79 [some (.ref 38), some (.int (nI s))] [] (gR L xs A I F P g1 g2 h3 h4 K.2.2 v)) :
    ∀ (j : Nat) (l : List Nat) (p : Nat) (h1 h2 : Nat → Int32), l.length + j = 4 → p ≤ N → TR A s l h1 h2 → (if j ≠ 0 ∧ hd t N p = 44 then rdT t N j l (p + 1) else (true, l, p)) = K → wp (d + 2) B cd_Model_readScene Q 19 [some (.ref 38), some (.int (nI s))] [] (gR L xs A I F P h1 h2 h3 h4 p 0) := by
  have ht : ∀ p, p < N → t p < 256 := fun p h => (hT.2.2 p h).2
  have i1 := ix_n (w := s) (N := 24) (by decide) hs
  intro j
  induction j with
  | zero =>
    intro l p h1 h2 hl hp hR hK
    rw [if_neg (fun z => z.1 rfl)] at hK
    subst hK
    have hh := m_here (L := L) (xs := xs) (A := uR (uR (uR (uR A 39 h1) 40 h2) 41 h3) 42 h4) (I := uI (uI I 38 17 (nI p)) 38 19 0) (F := F) (P := P) (d + 1) hT hp rfl
    have e : h1 ((nI s).toNatClampNeg) = 4 := by rw [i1.2, hR.1, show l.length = 4 by omega]; rfl
    refine mm_WP.go [19, 79] 40 (n0 (ca hh ⟨fun c => ?_, fun c => ⟨i1.1, fun c2 => absurd e c2, fun _ => ⟨rfl, n1 ?_⟩⟩⟩))
    · exact hq h1 h2 0 hR (Or.inr (Or.inl ⟨rfl, rfl⟩))
    · have c3 : hd t N p = 44 := (hI_eq (ht p) (by decide)).mp c
      exact mm_WP.go [79] 40 (n1 (hq h1 h2 1 hR (Or.inr (Or.inr ⟨rfl, rfl, c3⟩))))
  | succ j ih =>
    intro l p h1 h2 hl hp hR hK
    have hh := m_here (L := L) (xs := xs) (A := uR (uR (uR (uR A 39 h1) 40 h2) 41 h3) 42 h4) (I := uI (uI I 38 17 (nI p)) 38 19 0) (F := F) (P := P) (d + 1) hT hp rfl
    have e : ¬ h1 ((nI s).toNatClampNeg) = 4 := by
      rw [i1.2, hR.1, show (4 : Int32) = nI 4 from rfl, nI_eq (by omega) (by omega)]
      omega
    refine mm_WP.go [19, 79] 60 (n0 (ca hh ⟨fun c => ?_, fun c => ⟨i1.1, fun _ => ⟨rfl, n0 ⟨trivial, ?_⟩⟩, fun c2 => absurd c2 e⟩⟩))
    · have c3 : ¬ hd t N p = 44 := fun z => c ((hI_eq (ht p) (by decide)).mpr z)
      rw [if_neg (fun z => c3 z.2)] at hK
      subst hK
      exact hq h1 h2 0 hR (Or.inr (Or.inl ⟨rfl, rfl⟩))
    · have c3 : hd t N p = 44 := (hI_eq (ht p) (by decide)).mp c
      have b1 := hd_lt (t := t) (N := N) (p := p) (by omega)
      rw [if_pos ⟨by omega, c3⟩, rdT] at hK
      have hok := tH_ok (t := t) (show p + 1 ≤ N by omega)
      have hrt := m_readThing (L := L) (xs := xs) (F := F) (P := P) (h3 := h3) (h4 := h4) (v := 0) (d + 0) hT (show p + 1 ≤ N by omega) hs (show l.length < 4 by omega) hR
      unfold gR at hrt
      rw [← nI_1 p] at hrt
      refine ⟨_, hrt, ?_⟩
      rintro r m ⟨rfl, g1, g2, ⟨h, hR2, rfl⟩ | ⟨h, hR2, rfl⟩⟩
      · rw [if_pos h] at hK
        subst hK
        exact mm_WP.go [79] 40 (n1 (hq g1 g2 1 hR2 (Or.inl ⟨rfl, rfl⟩)))
      · rw [if_neg h] at hK
        exact ih _ _ _ _ (by rw [List.length_append, List.length_singleton]; omega) hok.2 hR2 hK
theorem m_sc_d {d : Nat} {B : Nat × Nat} {Q : mm_Q} {t : Nat → Nat} {N s tc : Nat} {h1 h2 : Nat → Int32} (hT : TXm t N A I) (hs : s < 24) (htc : tc ≤ 4) (h1s : h1 s = nI tc) (K : Bool × List (Nat × Nat × Nat) × Nat) (hq : ∀ g3 g4 v, DR A s K.2.1 g3 g4 → fl K.1 v (hd t N K.2.2 = 44) → wp (d + 3) B cd_Model_readScene Q 170 [some (.ref 38), some (.int (nI s))] [] (gR L xs A I F P h1 h2 g3 g4 K.2.2 v)) :
    ∀ (j : Nat) (l : List (Nat × Nat × Nat)) (p : Nat) (h3 h4 : Nat → Int32), l.length + j = 3 → p ≤ N → DR A s l h3 h4 → (if j ≠ 0 ∧ hd t N p = 44 then rdD t N tc j l (p + 1) else (true, l, p)) = K → wp (d + 3) B cd_Model_readScene Q 110 [some (.ref 38), some (.int (nI s))] [] (gR L xs A I F P h1 h2 h3 h4 p 0) := by
  have ht : ∀ p, p < N → t p < 256 := fun p h => (hT.2.2 p h).2
  have i1 := ix_n (w := s) (N := 24) (by decide) hs
  intro j
  induction j with
  | zero =>
    intro l p h3 h4 hl hp hR hK
    rw [if_neg (fun z => z.1 rfl)] at hK
    subst hK
    have hh := m_here (L := L) (xs := xs) (A := uR (uR (uR (uR A 39 h1) 40 h2) 41 h3) 42 h4) (I := uI (uI I 38 17 (nI p)) 38 19 0) (F := F) (P := P) (d + 2) hT hp rfl
    have e : h3 ((nI s).toNatClampNeg) = 3 := by rw [i1.2, hR.1, show l.length = 3 by omega]; rfl
    refine mm_WP.go [110, 170] 40 (n0 (ca hh ⟨fun c => ?_, fun c => ⟨i1.1, fun c2 => absurd e c2, fun _ => ⟨rfl, n1 ?_⟩⟩⟩))
    · exact hq h3 h4 0 hR (Or.inr (Or.inl ⟨rfl, rfl⟩))
    · have c3 : hd t N p = 44 := (hI_eq (ht p) (by decide)).mp c
      exact mm_WP.go [170] 40 (n1 (hq h3 h4 1 hR (Or.inr (Or.inr ⟨rfl, rfl, c3⟩))))
  | succ j ih =>
    intro l p h3 h4 hl hp hR hK
    have hh := m_here (L := L) (xs := xs) (A := uR (uR (uR (uR A 39 h1) 40 h2) 41 h3) 42 h4) (I := uI (uI I 38 17 (nI p)) 38 19 0) (F := F) (P := P) (d + 2) hT hp rfl
    have e : ¬ h3 ((nI s).toNatClampNeg) = 3 := by
      rw [i1.2, hR.1, show (3 : Int32) = nI 3 from rfl, nI_eq (by omega) (by omega)]
      omega
    refine mm_WP.go [110, 170] 60 (n0 (ca hh ⟨fun c => ?_, fun c => ⟨i1.1, fun _ => ⟨rfl, n0 ⟨trivial, ?_⟩⟩, fun c2 => absurd c2 e⟩⟩))
    · have c3 : ¬ hd t N p = 44 := fun z => c ((hI_eq (ht p) (by decide)).mpr z)
      rw [if_neg (fun z => c3 z.2)] at hK
      subst hK
      exact hq h3 h4 0 hR (Or.inr (Or.inl ⟨rfl, rfl⟩))
    · have c3 : hd t N p = 44 := (hI_eq (ht p) (by decide)).mp c
      have b1 := hd_lt (t := t) (N := N) (p := p) (by omega)
      rw [if_pos ⟨by omega, c3⟩, rdD] at hK
      have hok := rD_ok (t := t) (N := N) (tc := tc) htc (show p + 1 ≤ N by omega)
      have hrt := m_readDoing (L := L) (xs := xs) (F := F) (P := P) (h1 := h1) (h2 := h2) (d + 0) hT (show p + 1 ≤ N by omega) hs htc h1s (show l.length < 3 by omega) hR
      unfold gR at hrt
      rw [← nI_1 p] at hrt
      refine ⟨_, hrt, ?_⟩
      rintro r m ⟨rfl, ⟨h, rfl⟩ | ⟨x, g3, g4, h, hR2, rfl⟩⟩
      · rw [h] at hK
        dsimp only at hK
        subst hK
        exact mm_WP.go [170] 40 (n1 (hq h3 h4 1 hR (Or.inl ⟨rfl, rfl⟩)))
      · rw [h] at hK
        exact ih _ _ _ _ (by rw [List.length_append, List.length_singleton]; omega) hok.1 hR2 hK
theorem m_readScene (d : Nat) {t : Nat → Nat} {N s : Nat} (hT : TXm t N A I) (hs : s < 24) {h1 h2 h3 h4 : Nat → Int32} (e1 : h1 = A 39) (e2 : h2 = A 40) (e3 : h3 = A 41) (e4 : h4 = A 42) : sp (d + 4) 118 [.ref 38, .int (nI s)] (gR L xs A I F P h1 h2 h3 h4 0 0) (fun r m => r = none ∧ ∃ g1 g2 g3 g4, TR A s (rdS t N).2.1 g1 g2 ∧ DR A s (rdS t N).2.2.1 g3 g4 ∧ m = gR L xs A I F P g1 g2 g3 g4 (rdS t N).2.2.2 (bI (!(rdS t N).1))) := by
  subst e1
  subst e2
  subst e3
  subst e4
  have ht : ∀ p, p < N → t p < 256 := fun p h => (hT.2.2 p h).2
  have i1 := ix_n (w := s) (N := 24) (by decide) hs
  have hN := hT.1
  have hTk := rdT_ok (t := t) (N := N) 4 [] 0 (Nat.zero_le N) (by decide) (fun x hx => by cases hx)
  have r0 : TR A s [] (upd (A 39) s 0) (A 40) := ⟨by rw [upd_at, if_pos rfl]; rfl, fun i hi => absurd hi (Nat.not_lt_zero i), fun j hj => by rw [upd_at, if_neg hj], fun j _ => rfl⟩
  have d0 : DR A s [] (upd (A 41) s 0) (A 42) := ⟨by rw [upd_at, if_pos rfl]; rfl, fun i hi => absurd hi (Nat.not_lt_zero i), fun j hj => by rw [upd_at, if_neg hj], fun j _ => rfl⟩
  have hrt := m_readThing (L := L) (xs := xs) (F := F) (P := P) (h3 := upd (A 41) s 0) (h4 := A 42) (v := 0) (d + 1) hT (Nat.zero_le N) hs (by decide) r0
  refine ⟨⟨_, rfl⟩, rfl, mm_WP.go [14] 60 ⟨i1.1, i1.1, ?_⟩⟩
  show wp (d + 3) (mm_Al 118) cd_Model_readScene _ 14 [some (.ref 38), some (.int (nI s))] [] (gR L xs A I F P (upd (A 39) ((nI s).toNatClampNeg) 0) (A 40) (upd (A 41) ((nI s).toNatClampNeg) 0) (A 42) 0 0)
  rw [i1.2]
  refine mm_WP.go [19] 60 ⟨_, hrt, ?_⟩
  have q3 : ∀ (Q : mm_Q) (l : List Nat) (dl : List (Nat × Nat × Nat)) (p : Nat) (v w : Int32) (g1 g2 g3 g4 : Nat → Int32), p ≤ N → (v = 0 ∨ v = 1) → w = bI (decide (v = 1) || decide (p < N)) → Q none (gR L xs A I F P g1 g2 g3 g4 p w) → wp (d + 3) (mm_Al 118) cd_Model_readScene Q 170 [some (.ref 38), some (.int (nI s))] [] (gR L xs A I F P g1 g2 g3 g4 p v) := by
    intro Q l dl p v w g1 g2 g3 g4 hp hv hw hQ
    subst hw
    rcases hv with rfl | rfl
    · have hcmp : (I 38 18 ≤ nI p) ↔ ¬ p < N := by rw [hT.2.1, nI_leI (by omega) (by omega)]; omega
      refine mm_WP.go [] 40 (n0 ⟨fun c => ⟨rfl, ?_⟩, fun c => ⟨rfl, ?_⟩⟩)
      · rw [decide_eq_false (hcmp.mp c)] at hQ
        exact hQ
      · rw [decide_eq_true (show p < N from Classical.byContradiction fun z => c (hcmp.mpr z))] at hQ
        exact hQ
    · exact mm_WP.go [] 40 (n1 ⟨rfl, hQ⟩)
  have key : ∀ g1 g2 v, TR A s (rdT t N 4 [] 0).2.1 g1 g2 → fl (rdT t N 4 [] 0).1 v (hd t N (rdT t N 4 [] 0).2.2 = 44) → wp (d + 3) (mm_Al 118) cd_Model_readScene (fun r m => r = none ∧ ∃ g1 g2 g3 g4, TR A s (rdS t N).2.1 g1 g2 ∧ DR A s (rdS t N).2.2.1 g3 g4 ∧ m = gR L xs A I F P g1 g2 g3 g4 (rdS t N).2.2.2 (bI (!(rdS t N).1))) 79 [some (.ref 38), some (.int (nI s))] [] (gR L xs A I F P g1 g2 (upd (A 41) s 0) (A 42) (rdT t N 4 [] 0).2.2 v) := by
    unfold rdS
    generalize rdT t N 4 [] 0 = K at *
    obtain ⟨ok, l, p⟩ := K
    dsimp only at hTk ⊢
    intro g1 g2 v hR hf
    rcases hf with ⟨rfl, rfl⟩ | ⟨rfl, rfl⟩ | ⟨rfl, rfl, h44⟩
    · exact mm_WP.go [170] 40 (n1 (q3 _ l [] p 1 _ g1 g2 _ _ hTk.1 (Or.inr rfl) rfl ⟨rfl, _, _, _, _, hR, d0, rfl⟩))
    · rw [if_neg (by decide)]
      have hh := m_here (L := L) (xs := xs) (A := uR (uR (uR (uR A 39 g1) 40 g2) 41 (upd (A 41) s 0)) 42 (A 42)) (I := uI (uI I 38 17 (nI p)) 38 19 0) (F := F) (P := P) (d + 2) hT hTk.1 rfl
      refine mm_WP.go [110, 170] 60 (n0 (ca hh ⟨fun c => ?_, fun c => ⟨trivial, ?_⟩⟩))
      · have c3 : ¬ hd t N p = 59 := fun z => c ((hI_eq (ht p) (by decide)).mpr z)
        by_cases cN : p = N
        · rw [if_pos cN]
          refine q3 _ l [] p 0 _ g1 g2 _ _ hTk.1 (Or.inl rfl) rfl ⟨rfl, _, _, _, _, hR, d0, ?_⟩
          rw [decide_eq_false (show ¬ p < N by omega)]
          rfl
        · rw [if_neg cN, if_neg c3]
          refine q3 _ l [] p 0 _ g1 g2 _ _ hTk.1 (Or.inl rfl) rfl ⟨rfl, _, _, _, _, hR, d0, ?_⟩
          rw [decide_eq_true (show p < N by omega)]
          rfl
      · have c3 : hd t N p = 59 := (hI_eq (ht p) (by decide)).mp c
        have b1 := hd_lt (t := t) (N := N) (p := p) (by omega)
        rw [if_neg (by omega), if_pos c3]
        have hDk := rdD_ok (t := t) (N := N) hTk.2.1 3 [] (p + 1) (by omega) (by decide) (fun x hx => by cases hx)
        have hok := rD_ok (t := t) (N := N) (tc := l.length) hTk.2.1 (show p + 1 ≤ N by omega)
        have hrd := m_readDoing (L := L) (xs := xs) (F := F) (P := P) (h1 := g1) (h2 := g2) (d + 0) hT (show p + 1 ≤ N by omega) hs hTk.2.1 hR.1 (show ([] : List (Nat × Nat × Nat)).length < 3 by decide) d0
        unfold gR at hrd
        rw [← nI_1 p] at hrd
        have fin : ∀ g3 g4 v, DR A s (rdD t N l.length 3 [] (p + 1)).2.1 g3 g4 → fl (rdD t N l.length 3 [] (p + 1)).1 v (hd t N (rdD t N l.length 3 [] (p + 1)).2.2 = 44) → wp (d + 3) (mm_Al 118) cd_Model_readScene (fun r m => r = none ∧ ∃ k1 k2 k3 k4, TR A s l k1 k2 ∧ DR A s (rdD t N l.length 3 [] (p + 1)).2.1 k3 k4 ∧ m = gR L xs A I F P k1 k2 k3 k4 (rdD t N l.length 3 [] (p + 1)).2.2 (bI (!((rdD t N l.length 3 [] (p + 1)).1 && decide ((rdD t N l.length 3 [] (p + 1)).2.2 = N))))) 170 [some (.ref 38), some (.int (nI s))] [] (gR L xs A I F P g1 g2 g3 g4 (rdD t N l.length 3 [] (p + 1)).2.2 v) := by
          generalize rdD t N l.length 3 [] (p + 1) = K2 at *
          obtain ⟨ok2, dl, p2⟩ := K2
          dsimp only at hDk ⊢
          intro g3 g4 v hD2 hf2
          rcases hf2 with ⟨rfl, rfl⟩ | ⟨rfl, rfl⟩ | ⟨rfl, rfl, h44⟩
          · exact q3 _ l dl p2 1 _ g1 g2 g3 g4 hDk.1 (Or.inr rfl) rfl ⟨rfl, _, _, _, _, hR, hD2, rfl⟩
          · refine q3 _ l dl p2 0 _ g1 g2 g3 g4 hDk.1 (Or.inl rfl) rfl ⟨rfl, _, _, _, _, hR, hD2, ?_⟩
            by_cases c5 : p2 = N
            · rw [decide_eq_false (show ¬ p2 < N by omega), decide_eq_true c5]
              rfl
            · rw [decide_eq_true (show p2 < N by omega), decide_eq_false c5]
              rfl
          · have b3 := hd_lt (t := t) (N := N) (p := p2) (by omega)
            refine q3 _ l dl p2 1 _ g1 g2 g3 g4 hDk.1 (Or.inr rfl) rfl ⟨rfl, _, _, _, _, hR, hD2, ?_⟩
            rw [decide_eq_false (show ¬ p2 = N by omega)]
            rfl
        refine ⟨_, hrd, ?_⟩
        rintro r m ⟨rfl, ⟨h, rfl⟩ | ⟨x, g3, g4, h, hR2, rfl⟩⟩
        · have eK : rdD t N l.length 3 [] (p + 1) = (false, [], (rD t N l.length (p + 1)).2) := by rw [rdD, h]
          refine mm_WP.go [170] 40 (n1 ?_)
          have f2 := fin (upd (A 41) s 0) (A 42) 1 (by rw [eK]; exact d0) (by rw [eK]; exact Or.inl ⟨rfl, rfl⟩)
          rw [eK] at f2 ⊢
          exact f2
        · refine m_sc_d hT hs hTk.2.1 hR.1 (rdD t N l.length 3 [] (p + 1)) fin 2 [x] _ _ _ rfl hok.1 hR2 ?_
          conv =>
            rhs
            rw [rdD, h]
          rfl
    · have b3 := hd_lt (t := t) (N := N) (p := p) (by omega)
      rw [if_neg (by decide), if_neg (by omega), if_neg (by omega)]
      exact mm_WP.go [170] 40 (n1 (q3 _ l [] p 1 _ g1 g2 _ _ hTk.1 (Or.inr rfl) rfl ⟨rfl, _, _, _, _, hR, d0, rfl⟩))
  have hok0 := tH_ok (t := t) (N := N) (Nat.zero_le N)
  rintro r m ⟨rfl, g1, g2, ⟨h, hR2, rfl⟩ | ⟨h, hR2, rfl⟩⟩
  · have eK : rdT t N 4 [] 0 = (false, [], (tH t N 0).2) := by rw [rdT, if_pos h]
    refine mm_WP.go [79] 40 (n1 ?_)
    have f2 := key g1 g2 1 (by rw [eK]; exact hR2) (by rw [eK]; exact Or.inl ⟨rfl, rfl⟩)
    rw [show (rdT t N 4 [] 0).2.2 = (tH t N 0).2 by rw [eK]] at f2
    exact f2
  · refine m_sc_t (d := d + 1) hT hs (rdT t N 4 [] 0) key 3 _ _ _ _ rfl hok0.2 hR2 ?_
    conv =>
      rhs
      rw [rdT, if_neg h]
end M31
