/-! the reference's reader: doings, a scene -/
section M30
variable {L : Nat} {xs : Nat → Int32} {A I : Nat → Nat → Int32} {F : Nat → Nat → Option Nat} {P : mm_M}
theorem m_readPlace (d : Nat) {t : Nat → Nat} {N p s tc : Nat} {h1 h2 h3 h4 : Nat → Int32} {lo : Int32} (hT : TXm t N A I) (hp : p ≤ N) (hs : s < 24) (htc : tc ≤ 4) (h1s : h1 s = nI tc) : sp (d + 2) 123 [.ref 38, .int (nI s), .int lo] (gR L xs A I F P h1 h2 h3 h4 p 0) (fun r m => (((48 ≤ hd t N p ∧ hd t N p < 48 + tc) ∧ ¬ nI (hd t N p - 48) = lo) ∧ r = some (.int (nI (hd t N p - 48))) ∧ m = gR L xs A I F P h1 h2 h3 h4 (p + 1) 0) ∨ (¬ ((48 ≤ hd t N p ∧ hd t N p < 48 + tc) ∧ ¬ nI (hd t N p - 48) = lo) ∧ (∃ v, r = some (.int v)) ∧ m = gR L xs A I F P h1 h2 h3 h4 p 1)) := by
  have ht : ∀ p, p < N → t p < 256 := fun p h => (hT.2.2 p h).2
  have i1 := ix_n (w := s) (N := 24) (by decide) hs
  have e1s : h1 ((nI s).toNatClampNeg) = nI tc := by rw [i1.2]; exact h1s
  have hh := m_here (L := L) (xs := xs) (A := uR (uR (uR (uR A 39 h1) 40 h2) 41 h3) 42 h4) (I := uI (uI I 38 17 (nI p)) 38 19 0) (F := F) (P := P) (d + 0) hT hp rfl
  refine ⟨⟨_, rfl⟩, rfl, mm_WP.go [25] 40 (ca hh (n0 ⟨i1.1, ?_⟩))⟩
  show wp (d + 1) (mm_Al 123) cd_Model_readPlace _ 25 [some (.ref 38), some (.int (nI s)), some (.int lo), some (.int (hI t N p - nI 48))] [.int (h1 ((nI s).toNatClampNeg)), .long 0, .long (hI t N p - nI 48).toInt64, .ref 38] (gR L xs A I F P h1 h2 h3 h4 p 0)
  rw [e1s]
  have hb : (nI tc - 1).toInt = (tc : Int) - 1 := by
    rw [show (1 : Int32) = nI 1 from rfl, pk_sub_toInt (by omega) (by omega)]
    rfl
  have bad : ∀ v, ¬ ((48 ≤ hd t N p ∧ hd t N p < 48 + tc) ∧ ¬ nI (hd t N p - 48) = lo) → (fun (r : Option Value) (m : mm_M) => (((48 ≤ hd t N p ∧ hd t N p < 48 + tc) ∧ ¬ nI (hd t N p - 48) = lo) ∧ r = some (.int (nI (hd t N p - 48))) ∧ m = gR L xs A I F P h1 h2 h3 h4 (p + 1) 0) ∨ (¬ ((48 ≤ hd t N p ∧ hd t N p < 48 + tc) ∧ ¬ nI (hd t N p - 48) = lo) ∧ (∃ v, r = some (.int v)) ∧ m = gR L xs A I F P h1 h2 h3 h4 p 1)) (some (.int v)) (gm L xs (uR (uR (uR (uR A 39 h1) 40 h2) 41 h3) 42 h4) (uI (uI I 38 17 (nI p + 0)) 38 19 1) F P) := by
    intro v h
    rw [Int32.add_zero]
    exact Or.inr ⟨h, ⟨v, rfl⟩, rfl⟩
  refine mm_WP.go [] 60 (cy (m_in d _ _ _ _) (fun h => e1 ⟨fun c => ?_, fun c => ?_⟩) (fun h => e0 ?_))
  · have h5 := (hI_sub (ht p) (by decide) (by omega)).mp ((in_vp hb).mp h)
    rw [hI_v (k := tc) (ht p) (by omega) h5] at c ⊢
    refine ⟨rfl, e0 ⟨trivial, Or.inl ⟨⟨h5, c⟩, rfl, ?_⟩⟩⟩
    unfold gR
    rw [← nI_1]
    rfl
  · have h5 := (hI_sub (ht p) (by decide) (by omega)).mp ((in_vp hb).mp h)
    rw [hI_v (k := tc) (ht p) (by omega) h5] at c
    exact ⟨rfl, e1 ⟨trivial, bad _ (fun z => z.2 c)⟩⟩
  · exact ⟨rfl, e1 ⟨trivial, bad _ (fun z => h ((in_vp hb).mpr ((hI_sub (ht p) (by decide) (by omega)).mpr z.1)))⟩⟩
/-- a scene's doings in the reference -/
def DR (A : Nat → Nat → Int32) (s : Nat) (l : List (Nat × Nat × Nat)) (h3 h4 : Nat → Int32) : Prop := h3 s = nI l.length ∧ (∀ i, i < l.length → h4 (9 * s + 3 * i) = nI (l.getD i (0, 0, 0)).1 ∧ h4 (9 * s + 3 * i + 1) = nI (l.getD i (0, 0, 0)).2.1 ∧ h4 (9 * s + 3 * i + 2) = nI (l.getD i (0, 0, 0)).2.2) ∧ (∀ j, j ≠ s → h3 j = A 41 j) ∧ ∀ j, (j < 9 * s ∨ 9 * s + 9 ≤ j) → h4 j = A 42 j
theorem DR_yes {s : Nat} {l : List (Nat × Nat × Nat)} {h3 h4 : Nat → Int32} (h : DR A s l h3 h4) (hl : l.length < 3) (x : Nat × Nat × Nat) : DR A s (l ++ [x]) (upd h3 s (nI (l.length + 1))) (upd (upd (upd h4 (9 * s + 3 * l.length) (nI x.1)) (9 * s + 3 * l.length + 1) (nI x.2.1)) (9 * s + 3 * l.length + 2) (nI x.2.2)) := by
  obtain ⟨a, b, c, e⟩ := h
  have hlen : (l ++ [x]).length = l.length + 1 := by rw [List.length_append, List.length_singleton]
  refine ⟨by rw [upd_at, if_pos rfl, hlen], fun i hi => ?_, fun j hj => ?_, fun j hj => ?_⟩
  · rw [hlen] at hi
    rw [getD_app hi]
    simp only [upd_at]
    by_cases q : i < l.length
    · rw [if_pos q, if_neg (by omega), if_neg (by omega), if_neg (by omega), if_neg (by omega), if_neg (by omega), if_neg (by omega), if_neg (by omega), if_neg (by omega), if_neg (by omega)]
      exact b i q
    · have : i = l.length := by omega
      subst this
      rw [if_neg q, if_neg (by omega), if_neg (by omega), if_pos rfl, if_neg (by omega), if_pos rfl, if_pos rfl]
      exact ⟨rfl, rfl, rfl⟩
  · rw [upd_at, if_neg hj]
    exact c j hj
  · rw [upd_at, if_neg (by omega), upd_at, if_neg (by omega), upd_at, if_neg (by omega)]
    exact e j hj
theorem m_readDoing (d : Nat) {t : Nat → Nat} {N p s tc : Nat} {l : List (Nat × Nat × Nat)} {h1 h2 h3 h4 : Nat → Int32} (hT : TXm t N A I) (hp : p ≤ N) (hs : s < 24) (htc : tc ≤ 4) (h1s : h1 s = nI tc) (hl : l.length < 3) (hD : DR A s l h3 h4) : sp (d + 3) 122 [.ref 38, .int (nI s)] (gR L xs A I F P h1 h2 h3 h4 p 0) (fun r m => r = none ∧ (((rD t N tc p).1 = none ∧ m = gR L xs A I F P h1 h2 h3 h4 (rD t N tc p).2 1) ∨ (∃ x g3 g4, (rD t N tc p).1 = some x ∧ DR A s (l ++ [x]) g3 g4 ∧ m = gR L xs A I F P h1 h2 g3 g4 (rD t N tc p).2 0))) := by
  have ht : ∀ p, p < N → t p < 256 := fun p h => (hT.2.2 p h).2
  have i1 := ix_n (w := s) (N := 24) (by decide) hs
  have e3s : h3 ((nI s).toNatClampNeg) = nI l.length := by rw [i1.2]; exact hD.1
  have hz : ∀ q : Nat, gm L xs (uR (uR (uR (uR A 39 h1) 40 h2) 41 h3) 42 h4) (uI (uI I 38 17 (nI q + 0)) 38 19 1) F P = gR L xs A I F P h1 h2 h3 h4 q 1 := fun q => by rw [Int32.add_zero]
  refine ⟨⟨_, rfl⟩, rfl, mm_WP.go [103] 100 ⟨_, m_readPlace (d + 0) hT hp hs htc h1s (lo := -1), ?_⟩⟩
  rintro r m (⟨⟨k1, k1b⟩, rfl, rfl⟩ | ⟨k1, ⟨v, rfl⟩, rfl⟩)
  · have b1 := hd_lt (t := t) (N := N) (p := p) (by omega)
    have hh := m_here (L := L) (xs := xs) (A := uR (uR (uR (uR A 39 h1) 40 h2) 41 h3) 42 h4) (I := uI (uI I 38 17 (nI (p + 1))) 38 19 0) (F := F) (P := P) (d + 1) hT (show p + 1 ≤ N by omega) rfl
    refine ca hh (n0 (cy (m_in (d + 1) _ _ _ _) (fun h => n1 ⟨rfl, ?_⟩) (fun h => n0 ⟨rfl, ?_⟩)))
    · have k2 := (hI_sub (a := 120) (k := 3) (ht (p + 1)) (by decide) (by decide)).mp ((in_vp (b := 2) (n := 3) rfl).mp h)
      have b2 := hd_lt (t := t) (N := N) (p := p + 1) (by omega)
      have ev : hI t N (p + 1) - nI 120 = nI (hd t N (p + 1) - 120) := hI_v (k := 3) (ht (p + 1)) (by decide) k2
      refine e0 ⟨trivial, e0 ?_⟩
      have hrp := m_readPlace (L := L) (xs := xs) (A := A) (I := I) (F := F) (P := P) (h2 := h2) (h3 := h3) (h4 := h4) (d + 0) hT (show p + 1 + 1 ≤ N by omega) hs htc h1s (lo := nI (hd t N p - 48))
      unfold gR at hrp
      rw [← nI_1 (p + 1)] at hrp
      refine ⟨_, hrp, ?_⟩
      rintro r m (⟨⟨k3, k3b⟩, rfl, rfl⟩ | ⟨k3, ⟨v, rfl⟩, rfl⟩)
      · have b3 := hd_lt (t := t) (N := N) (p := p + 1 + 1) (by omega)
        have er : rD t N tc p = (some (hd t N p - 48, hd t N (p + 1) - 120, hd t N (p + 2) - 48), p + 3) := by
          unfold rD
          rw [if_pos k1, if_pos k2, if_pos ⟨k3, fun e => k3b (by rw [show p + 1 + 1 = p + 2 from rfl, e])⟩]
        rw [er]
        have ik := ix_ma (c := 9) (s := s) (w := 3 * l.length) (N := 216) (by decide) (by omega)
        have q0 : 9 * nI s + 3 * nI l.length = nI (9 * s + 3 * l.length) := by
          rw [show (9 : Int32) = nI 9 from rfl, show (3 : Int32) = nI 3 from rfl, pk_mul, pk_mul, nI_add]
        have j0 := ix_n (w := 9 * s + 3 * l.length) (N := 216) (by decide) (by omega)
        have j1 := ix_n (w := 9 * s + 3 * l.length + 1) (N := 216) (by decide) (by omega)
        have j2 := ix_n (w := 9 * s + 3 * l.length + 2) (N := 216) (by decide) (by omega)
        refine n0 ⟨i1.1, ?_⟩
        show wp (d + 2) (mm_Al 122) cd_Model_readDoing _ 103 [some (.ref 38), some (.int (nI s)), some (.int (nI (hd t N p - 48))), some (.int (hI t N (p + 1) - nI 120)), some (.int (nI (hd t N (p + 1 + 1) - 48))), none] [.int (9 * nI s + 3 * h3 ((nI s).toNatClampNeg))] (gR L xs A I F P h1 h2 h3 h4 (p + 1 + 1 + 1) 0)
        rw [e3s, q0, ev]
        have j1b : vp_in (nI (9 * s + 3 * l.length) + 1) 216 ∧ (nI (9 * s + 3 * l.length) + 1).toNatClampNeg = 9 * s + 3 * l.length + 1 := by
          rw [nI_1]
          exact j1
        have j2b : vp_in (nI (9 * s + 3 * l.length) + 2) 216 ∧ (nI (9 * s + 3 * l.length) + 2).toNatClampNeg = 9 * s + 3 * l.length + 2 := by
          rw [show nI (9 * s + 3 * l.length) + 2 = nI (9 * s + 3 * l.length + 2) from nI_add _ 2]
          exact j2
        refine mm_WP.go [] 100 ⟨j0.1, j1b.1, j2b.1, i1.1, i1.1, rfl, Or.inr ⟨_, _, _, rfl, DR_yes hD hl _, ?_⟩⟩
        rw [j0.2, j1b.2, j2b.2]
        dsimp only
        rw [← nI_1 l.length, ← e3s, i1.2]
        rfl
      · have er : rD t N tc p = (none, p + 2) := by
          have hne : ¬ ((48 ≤ hd t N (p + 2) ∧ hd t N (p + 2) < 48 + tc) ∧ hd t N (p + 2) ≠ hd t N p) := fun z => k3 ⟨z.1, fun c => z.2 (by
            have b3 := z.1
            have c2 : hd t N (p + 2) - 48 = hd t N p - 48 := (nI_eq (by omega) (by omega)).mp c
            omega)⟩
          unfold rD
          rw [if_pos k1, if_pos k2, if_neg hne]
        rw [er]
        exact n1 ⟨rfl, Or.inl ⟨rfl, congrArg (fun z => gm L xs (uR (uR (uR (uR A 39 h1) 40 h2) 41 h3) 42 h4) (uI (uI I 38 17 z) 38 19 1) F P) (nI_1 (p + 1))⟩⟩
    · have k2 : ¬ (120 ≤ hd t N (p + 1) ∧ hd t N (p + 1) < 123) := fun z => h ((in_vp (b := 2) (n := 3) rfl).mpr ((hI_sub (a := 120) (k := 3) (ht (p + 1)) (by decide) (by decide)).mpr z))
      have er : rD t N tc p = (none, p + 1) := by
        unfold rD
        rw [if_pos k1, if_neg k2]
      rw [er]
      exact e1 ⟨trivial, e1 (n1 ⟨rfl, Or.inl ⟨rfl, hz (p + 1)⟩⟩)⟩
  · have er : rD t N tc p = (none, p) := by
      unfold rD
      rw [if_neg (fun z => k1 ⟨z, nI_m1 (by omega)⟩)]
    have hh := m_here (L := L) (xs := xs) (A := uR (uR (uR (uR A 39 h1) 40 h2) 41 h3) 42 h4) (I := uI (uI I 38 17 (nI p)) 38 19 1) (F := F) (P := P) (d + 1) hT hp rfl
    rw [er]
    exact ca hh (n1 ⟨rfl, e1 ⟨trivial, e1 (n1 ⟨rfl, Or.inl ⟨rfl, hz p⟩⟩)⟩⟩)
end M30
