/-! the reference's image: all, and what it is of what is told -/
def G39 (E : Nat → Int32) (s : Nat) : Int32 := E (1 + 21 * s)
def G41 (E : Nat → Int32) (s : Nat) : Int32 := E (1 + 21 * s + 1)
def G40 (E : Nat → Int32) (i : Nat) : Int32 := E (1 + 21 * (i / 4) + 2 + i % 4)
def G42 (E : Nat → Int32) (i : Nat) : Int32 := E (1 + 21 * (i / 9) + 6 + i % 9)
def G43 (E : Nat → Int32) (i : Nat) : Int32 := bI (decide (E (1 + 21 * (i / 6) + 15 + i % 6) = 1))
def G45 (E : Nat → Int32) (k : Nat) : Int32 := E (505 + k)
def G46 (E : Nat → Int32) (k : Nat) : Int32 := E (515 + k)
def G47 (E : Nat → Int32) (k : Nat) : Int32 := E (522 + 2 * k)
def G48 (E : Nat → Int32) (k : Nat) : Int32 := E (522 + 2 * k + 1)
/-- the image that is taken -/
def EN (A I : Nat → Nat → Int32) (E : Nat → Int32) : Prop := I 38 0 = E 0 ∧ (∀ s, s < 24 → A 39 s = E (1 + 21 * s) ∧ A 41 s = E (1 + 21 * s + 1) ∧ (∀ j, j < 4 → A 40 (4 * s + j) = E (1 + 21 * s + 2 + j)) ∧ (∀ j, j < 9 → A 42 (9 * s + j) = E (1 + 21 * s + 6 + j)) ∧ ∀ j, j < 6 → (if A 43 (6 * s + j) = 0 then 0 else 1) = E (1 + 21 * s + 15 + j)) ∧ (∀ k, k < 8 → A 45 k = E (505 + k)) ∧ I 38 8 = E 513 ∧ I 38 9 = E 514 ∧ (∀ k, k < 6 → A 46 k = E (515 + k)) ∧ I 38 11 = E 521 ∧ ∀ k, k < 20 → A 47 k = E (522 + 2 * k) ∧ A 48 k = E (522 + 2 * k + 1)
abbrev mS (A : Nat → Nat → Int32) (E : Nat → Int32) (s : Nat) : Nat → Nat → Int32 := uR (uR (uR (uR (uR A 39 (fa_fill (G39 E) (A 39) s)) 40 (fa_fill (G40 E) (A 40) (4 * s))) 41 (fa_fill (G41 E) (A 41) s)) 42 (fa_fill (G42 E) (A 42) (9 * s))) 43 (fa_fill (G43 E) (A 43) (6 * s))
abbrev mT (A : Nat → Nat → Int32) (E : Nat → Int32) : Nat → Nat → Int32 := uR (uR (mS A E 24) 45 (fa_fill (G45 E) (A 45) 8)) 46 (fa_fill (G46 E) (A 46) 6)
def mvA (A : Nat → Nat → Int32) (E : Nat → Int32) : Nat → Nat → Int32 := uR (uR (uR (mT A E) 47 (fa_fill (G47 E) (A 47) 20)) 48 (fa_fill (G48 E) (A 48) 20)) 55 (fa_fill E (A 55) 562)
def mvI (I : Nat → Nat → Int32) (E : Nat → Int32) : Nat → Nat → Int32 := uI (uI (uI (uI (uI I 38 0 (E 0)) 38 8 (E 513)) 38 9 (E 514)) 38 11 (E 521)) 38 29 (nI 562)
section M46
variable {L : Nat} {xs : Nat → Int32} {A I : Nat → Nat → Int32} {F : Nat → Nat → Option Nat} {P : mm_M}
theorem m_mv_s {d : Nat} {B : Nat × Nat} {Q : mm_Q} {tk : Bool} {E : Nat → Int32} (htk : I 38 30 = bI tk) (h0 : tk = false → ∀ p, A 55 p = E p) (hE : tk = true → ∀ s, s < 24 → A 39 s = E (1 + 21 * s) ∧ A 41 s = E (1 + 21 * s + 1) ∧ (∀ j, j < 4 → A 40 (4 * s + j) = E (1 + 21 * s + 2 + j)) ∧ (∀ j, j < 9 → A 42 (9 * s + j) = E (1 + 21 * s + 6 + j)) ∧ ∀ j, j < 6 → (if A 43 (6 * s + j) = 0 then 0 else 1) = E (1 + 21 * s + 15 + j))
    (next : ∀ (x : Int32) (b : Option Value), wp (d + 1) B cd_Model_moveAll Q 191 [some (.ref 38), some (.int x), b] [] (gm L xs (uR (mS A E 24) 55 (fa_fill E (A 55) (1 + 21 * 24))) (uI I 38 29 (nI (1 + 21 * 24))) F P)) :
    ∀ s, s ≤ 24 → ∀ (x : Int32) (b : Option Value), x = nI s → wp (d + 1) B cd_Model_moveAll Q 19 [some (.ref 38), some (.int x), b] [] (gm L xs (uR (mS A E s) 55 (fa_fill E (A 55) (1 + 21 * s))) (uI I 38 29 (nI (1 + 21 * s))) F P) := by
  refine rep 24 ?_ ?_
  · intro x b hx
    exact mm_WP.go [19, 191] 40 (lp_ge (N := 24) hx rfl (by decide) (Nat.le_refl _) (fun _ => next x b) (fun h => absurd h (by decide)))
  · intro s hs ih x b hx
    subst hx
    have i1 := ix_n (w := s) (N := 24) (by decide) hs
    have hm := m_move (L := L) (xs := xs) (A := mS A E s) (I := uI I 38 29 (nI (1 + 21 * s))) (F := F) (P := P) (c := 1 + 21 * s) (tk := tk) (E := E) (f0 := A 55) (v := fa_fill (G39 E) (A 39) s ((nI s).toNatClampNeg)) d (by omega) rfl htk h0 (fun z => by rw [i1.2, fa_fill_out (Nat.le_refl _)]; exact (hE z s hs).1)
    refine mm_WP.go [19, 41, 191] 60 (lp_ge (k := s) (N := 24) rfl rfl (by decide) (by omega) (fun h => absurd h (by omega)) (fun _ => ⟨i1.1, ca hm ⟨i1.1, ?_⟩⟩))
    show wp (d + 1) B cd_Model_moveAll Q 41 [some (.ref 38), some (.int (nI s)), b] [] (gm L xs (uR (uR (mS A E s) 39 (upd (fa_fill (G39 E) (A 39) s) ((nI s).toNatClampNeg) (G39 E s))) 55 (fa_fill E (A 55) (1 + 21 * s + 1))) (uI I 38 29 (nI (1 + 21 * s + 1))) F P)
    rw [i1.2, fa_fill_succ]
    have hm2 := m_move (L := L) (xs := xs) (A := uR (mS A E s) 39 (fa_fill (G39 E) (A 39) (s + 1))) (I := uI I 38 29 (nI (1 + 21 * s + 1))) (F := F) (P := P) (c := 1 + 21 * s + 1) (tk := tk) (E := E) (f0 := A 55) (v := fa_fill (G41 E) (A 41) s ((nI s).toNatClampNeg)) d (by omega) rfl htk h0 (fun z => by rw [i1.2, fa_fill_out (Nat.le_refl _)]; exact (hE z s hs).2.1)
    refine mm_WP.go [57] 60 ⟨i1.1, ca hm2 ⟨i1.1, ?_⟩⟩
    show wp (d + 1) B cd_Model_moveAll Q 57 [some (.ref 38), some (.int (nI s)), b] [] (gm L xs (uR (uR (uR (mS A E s) 39 (fa_fill (G39 E) (A 39) (s + 1))) 41 (upd (fa_fill (G41 E) (A 41) s) ((nI s).toNatClampNeg) (G41 E s))) 55 (fa_fill E (A 55) (1 + 21 * s + 2))) (uI I 38 29 (nI (1 + 21 * s + 2))) F P)
    rw [i1.2, fa_fill_succ]
    have l4 : (4 : Int32) * nI s = nI (4 * s + 0) := pk_mul 4 s
    have l9 : (9 : Int32) * nI s = nI (9 * s + 0) := pk_mul 9 s
    have l6 : (6 : Int32) * nI s = nI (6 * s + 0) := pk_mul 6 s
    have h := ih (nI s + 1)
    rw [show 1 + 21 * (s + 1) = 1 + 21 * s + 15 + 6 by omega] at h
    refine mm_WP.go [61] 40 (m_mv_40 (A := uR (uR (mS A E s) 39 (fa_fill (G39 E) (A 39) (s + 1))) 41 (fa_fill (G41 E) (A 41) (s + 1))) (I := I) (G := G40 E) (f := A 40) (f0 := A 55) (c0 := 1 + 21 * s + 2) hs htk h0 (by omega) (fun j hj => ?_) (fun j hj z => (hE z s hs).2.2.1 j hj) (fun x => ?_) 0 (by decide) _ l4)
    · unfold G40
      congr 1
      omega
    refine mm_WP.go [97] 40 (m_mv_42 (A := uR (uR (uR (mS A E s) 39 (fa_fill (G39 E) (A 39) (s + 1))) 41 (fa_fill (G41 E) (A 41) (s + 1))) 40 (fa_fill (G40 E) (A 40) (4 * s + 4))) (I := I) (G := G42 E) (f := A 42) (f0 := A 55) (c0 := 1 + 21 * s + 6) hs htk h0 (by omega) (fun j hj => ?_) (fun j hj z => (hE z s hs).2.2.2.1 j hj) (fun x => ?_) 0 (by decide) _ l9)
    · unfold G42
      congr 1
      omega
    refine mm_WP.go [135] 40 (m_mv_43 (A := uR (uR (uR (uR (mS A E s) 39 (fa_fill (G39 E) (A 39) (s + 1))) 41 (fa_fill (G41 E) (A 41) (s + 1))) 40 (fa_fill (G40 E) (A 40) (4 * s + 4))) 42 (fa_fill (G42 E) (A 42) (9 * s + 9))) (I := I) (G := G43 E) (f := A 43) (f0 := A 55) (c0 := 1 + 21 * s + 15) hs htk h0 (by omega) (fun j hj => ?_) (fun j hj z => (hE z s hs).2.2.2.2 j hj) (fun x => ?_) 0 (by decide) _ l6)
    · unfold G43
      rw [show 1 + 21 * ((6 * s + j) / 6) + 15 + (6 * s + j) % 6 = 1 + 21 * s + 15 + j by omega]
    exact mm_WP.go [19] 40 (h _ (nI_1 s))
theorem m_moveAll (d : Nat) {tk : Bool} {E : Nat → Int32} (htk : I 38 30 = bI tk) (h0 : tk = false → ∀ p, A 55 p = E p) (hE : tk = true → EN A I E) : sp (d + 2) 178 [.ref 38] (gm L xs A I F P) (fun r m => r = none ∧ m = gm L xs (mvA A E) (mvI I E) F P) := by
  have hm0 := m_move (L := L) (xs := xs) (A := A) (I := uI I 38 29 0) (F := F) (P := P) (c := 0) (tk := tk) (E := E) (f0 := A 55) (v := I 38 0) d (by decide) rfl htk h0 (fun z => (hE z).1)
  rw [fa_fill_0] at hm0
  refine ⟨⟨_, rfl⟩, rfl, mm_WP.go [19] 60 ⟨trivial, ca hm0 ⟨trivial, ?_⟩⟩⟩
  have tail : ∀ (x : Int32) (b : Option Value), wp (d + 1) (mm_Al 178) cd_Model_moveAll (fun r m => r = none ∧ m = gm L xs (mvA A E) (mvI I E) F P) 191 [some (.ref 38), some (.int x), b] [] (gm L xs (uR (mS A E 24) 55 (fa_fill E (A 55) 505)) (uI (uI I 38 0 (E 0)) 38 29 (nI 505)) F P) := by
    intro x b
    have g45 := m_mv_45 (L := L) (xs := xs) (A := mS A E 24) (I := uI I 38 0 (E 0)) (F := F) (P := P) (d := d) (B := mm_Al 178) (Q := fun r m => r = none ∧ m = gm L xs (mvA A E) (mvI I E) F P) (tk := tk) (E := E) (f0 := A 55) (f := A 45) (G := G45 E) (c0 := 505) (b := b) htk h0 (by decide) (fun j hj => rfl) (fun j hj z => (hE z).2.2.1 j hj) (fun x => ?_) 0 (by decide) 0 rfl
    · rw [fa_fill_0] at g45
      exact mm_WP.go [193] 40 g45
    have hm1 := m_move (L := L) (xs := xs) (A := uR (mS A E 24) 45 (fa_fill (G45 E) (A 45) 8)) (I := uI (uI I 38 0 (E 0)) 38 29 (nI 513)) (F := F) (P := P) (c := 513) (tk := tk) (E := E) (f0 := A 55) (v := I 38 8) d (by decide) rfl htk h0 (fun z => (hE z).2.2.2.1)
    have hm2 := m_move (L := L) (xs := xs) (A := uR (mS A E 24) 45 (fa_fill (G45 E) (A 45) 8)) (I := uI (uI (uI I 38 0 (E 0)) 38 8 (E 513)) 38 29 (nI 514)) (F := F) (P := P) (c := 514) (tk := tk) (E := E) (f0 := A 55) (v := I 38 9) d (by decide) rfl htk h0 (fun z => (hE z).2.2.2.2.1)
    have g46 := m_mv_46 (L := L) (xs := xs) (A := uR (mS A E 24) 45 (fa_fill (G45 E) (A 45) 8)) (I := uI (uI (uI I 38 0 (E 0)) 38 8 (E 513)) 38 9 (E 514)) (F := F) (P := P) (d := d) (B := mm_Al 178) (Q := fun r m => r = none ∧ m = gm L xs (mvA A E) (mvI I E) F P) (tk := tk) (E := E) (f0 := A 55) (f := A 46) (G := G46 E) (c0 := 515) (b := b) htk h0 (by decide) (fun j hj => rfl) (fun j hj z => (hE z).2.2.2.2.2.1 j hj) (fun x => ?_) 0 (by decide) 0 rfl
    · rw [fa_fill_0] at g46
      exact mm_WP.go [247] 60 (ca hm1 ⟨trivial, ca hm2 ⟨trivial, g46⟩⟩)
    have hm3 := m_move (L := L) (xs := xs) (A := mT A E) (I := uI (uI (uI (uI I 38 0 (E 0)) 38 8 (E 513)) 38 9 (E 514)) 38 29 (nI 521)) (F := F) (P := P) (c := 521) (tk := tk) (E := E) (f0 := A 55) (v := I 38 11) d (by decide) rfl htk h0 (fun z => (hE z).2.2.2.2.2.2.1)
    have g47 := m_mv_47 (L := L) (xs := xs) (A := mT A E) (I := uI (uI (uI (uI I 38 0 (E 0)) 38 8 (E 513)) 38 9 (E 514)) 38 11 (E 521)) (F := F) (P := P) (d := d) (B := mm_Al 178) (Q := fun r m => r = none ∧ m = gm L xs (mvA A E) (mvI I E) F P) (tk := tk) (E := E) (f0 := A 55) (f := A 47) (g := A 48) (G := G47 E) (H := G48 E) (c0 := 522) (b := b) htk h0 (by decide) (fun j hj => ⟨rfl, rfl⟩) (fun j hj z => (hE z).2.2.2.2.2.2.2 j hj) ⟨rfl, rfl⟩ 0 (by decide) 0 rfl
    rw [fa_fill_0, fa_fill_0] at g47
    exact mm_WP.go [289] 60 (ca hm3 ⟨trivial, g47⟩)
  have h := m_mv_s (L := L) (xs := xs) (A := A) (I := uI I 38 0 (E 0)) (F := F) (P := P) (d := d) (B := mm_Al 178) (Q := fun r m => r = none ∧ m = gm L xs (mvA A E) (mvI I E) F P) (tk := tk) (E := E) htk h0 (fun z => (hE z).2.1) tail 0 (by decide) 0 none rfl
  have e : mS A E 0 = uR (uR (uR (uR (uR A 39 (A 39)) 40 (A 40)) 41 (A 41)) 42 (A 42)) 43 (A 43) := by
    unfold mS
    simp only [Nat.mul_zero, fa_fill_0]
  rw [e] at h
  exact h
end M46
