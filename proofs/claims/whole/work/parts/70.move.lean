/-! the reference's image: moving all -/
section M45
variable {L : Nat} {xs : Nat → Int32} {A I : Nat → Nat → Int32} {F : Nat → Nat → Option Nat} {P : mm_M}
theorem m_move (d : Nat) {c : Nat} {tk : Bool} {E f0 : Nat → Int32} {v : Int32} (hc : c < 700) (hat : I 38 29 = nI c) (htk : I 38 30 = bI tk) (h0 : tk = false → ∀ p, f0 p = E p) (hv : tk = true → v = E c) : sp (d + 1) 179 [.ref 38, .int v] (gm L xs (uR A 55 (fa_fill E f0 c)) I F P) (fun r m => r = some (.int (E c)) ∧ m = gm L xs (uR A 55 (fa_fill E f0 (c + 1))) (uI I 38 29 (nI (c + 1))) F P) := by
  have si : ∀ {u v : Int32}, u = v → (some (Value.int u) : Option Value) = some (Value.int v) := fun h => congrArg (fun z => some (Value.int z)) h
  have i0 : vp_in (I 38 29) 700 ∧ (I 38 29).toNatClampNeg = c := ix_e hat (by decide) hc
  have i1 : vp_in (I 38 29 + 1 - 1) 700 ∧ (I 38 29 + 1 - 1).toNatClampNeg = c := ix_e (by rw [hat, nI_1, show (1 : Int32) = nI 1 from rfl, pk_sub (by omega), Nat.add_sub_cancel]) (by decide) hc
  have e1 : nI (c + 1) = I 38 29 + 1 := by rw [hat, nI_1]
  rw [e1]
  cases tk
  · have hf : fa_fill E f0 (c + 1) = fa_fill E f0 c := funext fun p => by
      show (if p < c + 1 then E p else f0 p) = (if p < c then E p else f0 p)
      rw [h0 rfl p, ite_self, ite_self]
    rw [hf]
    refine ⟨⟨_, rfl⟩, rfl, mm_WP.go [] 40 ⟨fun _ => ⟨trivial, i1.1, si ?_, rfl⟩, fun c2 => absurd htk c2⟩⟩
    show fa_fill E f0 c ((I 38 29 + 1 - 1).toNatClampNeg) = E c
    rw [i1.2, fa_fill_out (Nat.le_refl _)]
    exact h0 rfl c
  · refine ⟨⟨_, rfl⟩, rfl, mm_WP.go [] 40 ⟨fun c2 => absurd (htk.symm.trans c2) (by decide), fun _ => ⟨i0.1, trivial, i1.1, si ?_, ?_⟩⟩⟩
    · show upd (fa_fill E f0 c) ((I 38 29).toNatClampNeg) v ((I 38 29 + 1 - 1).toNatClampNeg) = E c
      rw [i0.2, i1.2, upd_at, if_pos rfl]
      exact hv rfl
    · show gm L xs (uR A 55 (upd (fa_fill E f0 c) ((I 38 29).toNatClampNeg) v)) (uI I 38 29 (I 38 29 + 1)) F P = _
      rw [i0.2, hv rfl, fa_fill_succ]
theorem m_mv_40 {d : Nat} {B : Nat × Nat} {Q : mm_Q} {tk : Bool} {E f0 f G : Nat → Int32} {s c0 : Nat} (hs : s < 24) (htk : I 38 30 = bI tk) (h0 : tk = false → ∀ p, f0 p = E p) (hc : c0 + 4 ≤ 700) (hG : ∀ j, j < 4 → G (4 * s + j) = E (c0 + j)) (hv : ∀ j, j < 4 → tk = true → f (4 * s + j) = E (c0 + j))
    (next : ∀ x : Int32, wp (d + 1) B cd_Model_moveAll Q 92 [some (.ref 38), some (.int (nI s)), some (.int x)] [] (gm L xs (uR (uR A 40 (fa_fill G f (4 * s + 4))) 55 (fa_fill E f0 (c0 + 4))) (uI I 38 29 (nI (c0 + 4))) F P)) :
    ∀ j, j ≤ 4 → ∀ x : Int32, x = nI (4 * s + j) → wp (d + 1) B cd_Model_moveAll Q 61 [some (.ref 38), some (.int (nI s)), some (.int x)] [] (gm L xs (uR (uR A 40 (fa_fill G f (4 * s + j))) 55 (fa_fill E f0 (c0 + j))) (uI I 38 29 (nI (c0 + j))) F P) := by
  have hb : 4 * nI s + 4 = nI (4 * s + 4) := by
    rw [show (4 : Int32) = nI 4 from rfl, pk_mul, nI_add]
  refine rep 4 ?_ ?_
  · intro x hx
    exact mm_WP.go [61, 92] 40 (lp_ge hx hb (by omega) (Nat.le_refl _) (fun _ => next x) (fun h => absurd h (by omega)))
  · intro j hj ih x hx
    subst hx
    have ix := ix_n (w := 4 * s + j) (N := 96) (by decide) (by omega)
    have hm := m_move (L := L) (xs := xs) (A := uR A 40 (fa_fill G f (4 * s + j))) (I := uI I 38 29 (nI (c0 + j))) (F := F) (P := P) (c := c0 + j) (tk := tk) (E := E) (f0 := f0) (v := fa_fill G f (4 * s + j) ((nI (4 * s + j)).toNatClampNeg)) d (by omega) rfl htk h0 (fun z => by rw [ix.2, fa_fill_out (Nat.le_refl _)]; exact hv j hj z)
    refine mm_WP.go [61, 92] 60 (lp_ge (k := 4 * s + j) rfl hb (by omega) (by omega) (fun h => absurd h (by omega)) (fun _ => ⟨ix.1, ca hm ⟨ix.1, ?_⟩⟩))
    show wp (d + 1) B cd_Model_moveAll Q 61 [some (.ref 38), some (.int (nI s)), some (.int (nI (4 * s + j) + 1))] [] (gm L xs (uR (uR A 40 (upd (fa_fill G f (4 * s + j)) ((nI (4 * s + j)).toNatClampNeg) (E (c0 + j)))) 55 (fa_fill E f0 (c0 + j + 1))) (uI I 38 29 (nI (c0 + j + 1))) F P)
    rw [ix.2, ← hG j hj, fa_fill_succ]
    exact ih _ (nI_1 _)
theorem m_mv_42 {d : Nat} {B : Nat × Nat} {Q : mm_Q} {tk : Bool} {E f0 f G : Nat → Int32} {s c0 : Nat} (hs : s < 24) (htk : I 38 30 = bI tk) (h0 : tk = false → ∀ p, f0 p = E p) (hc : c0 + 9 ≤ 700) (hG : ∀ j, j < 9 → G (9 * s + j) = E (c0 + j)) (hv : ∀ j, j < 9 → tk = true → f (9 * s + j) = E (c0 + j))
    (next : ∀ x : Int32, wp (d + 1) B cd_Model_moveAll Q 130 [some (.ref 38), some (.int (nI s)), some (.int x)] [] (gm L xs (uR (uR A 42 (fa_fill G f (9 * s + 9))) 55 (fa_fill E f0 (c0 + 9))) (uI I 38 29 (nI (c0 + 9))) F P)) :
    ∀ j, j ≤ 9 → ∀ x : Int32, x = nI (9 * s + j) → wp (d + 1) B cd_Model_moveAll Q 97 [some (.ref 38), some (.int (nI s)), some (.int x)] [] (gm L xs (uR (uR A 42 (fa_fill G f (9 * s + j))) 55 (fa_fill E f0 (c0 + j))) (uI I 38 29 (nI (c0 + j))) F P) := by
  have hb : 9 * nI s + 9 = nI (9 * s + 9) := by
    rw [show (9 : Int32) = nI 9 from rfl, pk_mul, nI_add]
  refine rep 9 ?_ ?_
  · intro x hx
    exact mm_WP.go [97, 130] 40 (lp_ge hx hb (by omega) (Nat.le_refl _) (fun _ => next x) (fun h => absurd h (by omega)))
  · intro j hj ih x hx
    subst hx
    have ix := ix_n (w := 9 * s + j) (N := 216) (by decide) (by omega)
    have hm := m_move (L := L) (xs := xs) (A := uR A 42 (fa_fill G f (9 * s + j))) (I := uI I 38 29 (nI (c0 + j))) (F := F) (P := P) (c := c0 + j) (tk := tk) (E := E) (f0 := f0) (v := fa_fill G f (9 * s + j) ((nI (9 * s + j)).toNatClampNeg)) d (by omega) rfl htk h0 (fun z => by rw [ix.2, fa_fill_out (Nat.le_refl _)]; exact hv j hj z)
    refine mm_WP.go [97, 130] 60 (lp_ge (k := 9 * s + j) rfl hb (by omega) (by omega) (fun h => absurd h (by omega)) (fun _ => ⟨ix.1, ca hm ⟨ix.1, ?_⟩⟩))
    show wp (d + 1) B cd_Model_moveAll Q 97 [some (.ref 38), some (.int (nI s)), some (.int (nI (9 * s + j) + 1))] [] (gm L xs (uR (uR A 42 (upd (fa_fill G f (9 * s + j)) ((nI (9 * s + j)).toNatClampNeg) (E (c0 + j)))) 55 (fa_fill E f0 (c0 + j + 1))) (uI I 38 29 (nI (c0 + j + 1))) F P)
    rw [ix.2, ← hG j hj, fa_fill_succ]
    exact ih _ (nI_1 _)
theorem m_mv_43 {d : Nat} {B : Nat × Nat} {Q : mm_Q} {tk : Bool} {E f0 f G : Nat → Int32} {s c0 : Nat} (hs : s < 24) (htk : I 38 30 = bI tk) (h0 : tk = false → ∀ p, f0 p = E p) (hc : c0 + 6 ≤ 700) (hG : ∀ j, j < 6 → G (6 * s + j) = bI (decide (E (c0 + j) = 1))) (hv : ∀ j, j < 6 → tk = true → (if f (6 * s + j) = 0 then 0 else 1) = E (c0 + j))
    (next : ∀ x : Int32, wp (d + 1) B cd_Model_moveAll Q 185 [some (.ref 38), some (.int (nI s)), some (.int x)] [] (gm L xs (uR (uR A 43 (fa_fill G f (6 * s + 6))) 55 (fa_fill E f0 (c0 + 6))) (uI I 38 29 (nI (c0 + 6))) F P)) :
    ∀ j, j ≤ 6 → ∀ x : Int32, x = nI (6 * s + j) → wp (d + 1) B cd_Model_moveAll Q 135 [some (.ref 38), some (.int (nI s)), some (.int x)] [] (gm L xs (uR (uR A 43 (fa_fill G f (6 * s + j))) 55 (fa_fill E f0 (c0 + j))) (uI I 38 29 (nI (c0 + j))) F P) := by
  have hb : 6 * nI s + 6 = nI (6 * s + 6) := by
    rw [show (6 : Int32) = nI 6 from rfl, pk_mul, nI_add]
  refine rep 6 ?_ ?_
  · intro x hx
    exact mm_WP.go [135, 185] 40 (lp_ge hx hb (by omega) (Nat.le_refl _) (fun _ => next x) (fun h => absurd h (by omega)))
  · intro j hj ih x hx
    subst hx
    have ix := ix_n (w := 6 * s + j) (N := 144) (by decide) (by omega)
    have e0 : fa_fill G f (6 * s + j) ((nI (6 * s + j)).toNatClampNeg) = f (6 * s + j) := by rw [ix.2, fa_fill_out (Nat.le_refl _)]
    have call : ∀ v : Int32, (tk = true → v = E (c0 + j)) → wp (d + 1) B cd_Model_moveAll Q 166 [some (.ref 38), some (.int (nI s)), some (.int (nI (6 * s + j)))] [.int v, .ref 38, .int (nI (6 * s + j)), .ref 43] (gm L xs (uR (uR A 43 (fa_fill G f (6 * s + j))) 55 (fa_fill E f0 (c0 + j))) (uI I 38 29 (nI (c0 + j))) F P) := by
      intro v hv2
      have hm := m_move (L := L) (xs := xs) (A := uR A 43 (fa_fill G f (6 * s + j))) (I := uI I 38 29 (nI (c0 + j))) (F := F) (P := P) (c := c0 + j) (tk := tk) (E := E) (f0 := f0) (v := v) d (by omega) rfl htk h0 hv2
      have fin : ∀ u : Int32, u = bI (decide (E (c0 + j) = 1)) → wp (d + 1) B cd_Model_moveAll Q 135 [some (.ref 38), some (.int (nI s)), some (.int (nI (6 * s + j) + 1))] [] (gm L xs (uR (uR A 43 (upd (fa_fill G f (6 * s + j)) ((nI (6 * s + j)).toNatClampNeg) u)) 55 (fa_fill E f0 (c0 + j + 1))) (uI I 38 29 (nI (c0 + j + 1))) F P) := by
        rintro u rfl
        rw [ix.2, ← hG j hj, fa_fill_succ]
        exact ih _ (nI_1 _)
      refine mm_WP.go [135, 185] 60 (ca hm ⟨fun c => ⟨ix.1, rfl, fin 0 ?_⟩, fun c => ⟨ix.1, rfl, fin 1 ?_⟩⟩)
      · rw [decide_eq_false c]
        rfl
      · rw [decide_eq_true c]
        rfl
    refine mm_WP.go [135, 166, 185] 60 (lp_ge (k := 6 * s + j) rfl hb (by omega) (by omega) (fun h => absurd h (by omega)) (fun _ => ⟨ix.1, fun c => call 0 (fun z => ?_), fun c => call 1 (fun z => ?_)⟩))
    · rw [← hv j hj z, if_pos (e0.symm.trans c)]
    · rw [← hv j hj z, if_neg (fun q => c (e0.trans q))]
theorem m_mv_45 {d : Nat} {B : Nat × Nat} {Q : mm_Q} {tk : Bool} {E f0 f G : Nat → Int32} {c0 : Nat} {b : Option Value} (htk : I 38 30 = bI tk) (h0 : tk = false → ∀ p, f0 p = E p) (hc : c0 + 8 ≤ 700) (hG : ∀ j, j < 8 → G j = E (c0 + j)) (hv : ∀ j, j < 8 → tk = true → f j = E (c0 + j))
    (next : ∀ x : Int32, wp (d + 1) B cd_Model_moveAll Q 221 [some (.ref 38), some (.int x), b] [] (gm L xs (uR (uR A 45 (fa_fill G f 8)) 55 (fa_fill E f0 (c0 + 8))) (uI I 38 29 (nI (c0 + 8))) F P)) :
    ∀ j, j ≤ 8 → ∀ x : Int32, x = nI j → wp (d + 1) B cd_Model_moveAll Q 193 [some (.ref 38), some (.int x), b] [] (gm L xs (uR (uR A 45 (fa_fill G f j)) 55 (fa_fill E f0 (c0 + j))) (uI I 38 29 (nI (c0 + j))) F P) := by
  refine rep 8 ?_ ?_
  · intro x hx
    exact mm_WP.go [193, 221] 40 (lp_ge (N := 8) hx rfl (by decide) (Nat.le_refl _) (fun _ => next x) (fun h => absurd h (by decide)))
  · intro j hj ih x hx
    subst hx
    have ix := ix_n (w := j) (N := 8) (by decide) (by omega)
    have hm := m_move (L := L) (xs := xs) (A := uR A 45 (fa_fill G f j)) (I := uI I 38 29 (nI (c0 + j))) (F := F) (P := P) (c := c0 + j) (tk := tk) (E := E) (f0 := f0) (v := fa_fill G f j ((nI j).toNatClampNeg)) d (by omega) rfl htk h0 (fun z => by rw [ix.2, fa_fill_out (Nat.le_refl _)]; exact hv j hj z)
    refine mm_WP.go [193, 221] 60 (lp_ge (k := j) (N := 8) rfl rfl (by decide) (by omega) (fun h => absurd h (by omega)) (fun _ => ⟨ix.1, ca hm ⟨ix.1, ?_⟩⟩))
    show wp (d + 1) B cd_Model_moveAll Q 193 [some (.ref 38), some (.int (nI j + 1)), b] [] (gm L xs (uR (uR A 45 (upd (fa_fill G f j) ((nI j).toNatClampNeg) (E (c0 + j)))) 55 (fa_fill E f0 (c0 + j + 1))) (uI I 38 29 (nI (c0 + j + 1))) F P)
    rw [ix.2, ← hG j hj, fa_fill_succ]
    exact ih _ (nI_1 _)
theorem m_mv_46 {d : Nat} {B : Nat × Nat} {Q : mm_Q} {tk : Bool} {E f0 f G : Nat → Int32} {c0 : Nat} {b : Option Value} (htk : I 38 30 = bI tk) (h0 : tk = false → ∀ p, f0 p = E p) (hc : c0 + 6 ≤ 700) (hG : ∀ j, j < 6 → G j = E (c0 + j)) (hv : ∀ j, j < 6 → tk = true → f j = E (c0 + j))
    (next : ∀ x : Int32, wp (d + 1) B cd_Model_moveAll Q 275 [some (.ref 38), some (.int x), b] [] (gm L xs (uR (uR A 46 (fa_fill G f 6)) 55 (fa_fill E f0 (c0 + 6))) (uI I 38 29 (nI (c0 + 6))) F P)) :
    ∀ j, j ≤ 6 → ∀ x : Int32, x = nI j → wp (d + 1) B cd_Model_moveAll Q 247 [some (.ref 38), some (.int x), b] [] (gm L xs (uR (uR A 46 (fa_fill G f j)) 55 (fa_fill E f0 (c0 + j))) (uI I 38 29 (nI (c0 + j))) F P) := by
  refine rep 6 ?_ ?_
  · intro x hx
    exact mm_WP.go [247, 275] 40 (lp_ge (N := 6) hx rfl (by decide) (Nat.le_refl _) (fun _ => next x) (fun h => absurd h (by decide)))
  · intro j hj ih x hx
    subst hx
    have ix := ix_n (w := j) (N := 6) (by decide) (by omega)
    have hm := m_move (L := L) (xs := xs) (A := uR A 46 (fa_fill G f j)) (I := uI I 38 29 (nI (c0 + j))) (F := F) (P := P) (c := c0 + j) (tk := tk) (E := E) (f0 := f0) (v := fa_fill G f j ((nI j).toNatClampNeg)) d (by omega) rfl htk h0 (fun z => by rw [ix.2, fa_fill_out (Nat.le_refl _)]; exact hv j hj z)
    refine mm_WP.go [247, 275] 60 (lp_ge (k := j) (N := 6) rfl rfl (by decide) (by omega) (fun h => absurd h (by omega)) (fun _ => ⟨ix.1, ca hm ⟨ix.1, ?_⟩⟩))
    show wp (d + 1) B cd_Model_moveAll Q 247 [some (.ref 38), some (.int (nI j + 1)), b] [] (gm L xs (uR (uR A 46 (upd (fa_fill G f j) ((nI j).toNatClampNeg) (E (c0 + j)))) 55 (fa_fill E f0 (c0 + j + 1))) (uI I 38 29 (nI (c0 + j + 1))) F P)
    rw [ix.2, ← hG j hj, fa_fill_succ]
    exact ih _ (nI_1 _)
theorem m_mv_47 {d : Nat} {B : Nat × Nat} {Q : mm_Q} {tk : Bool} {E f0 f g G H : Nat → Int32} {c0 : Nat} {b : Option Value} (htk : I 38 30 = bI tk) (h0 : tk = false → ∀ p, f0 p = E p) (hc : c0 + 40 ≤ 700) (hG : ∀ j, j < 20 → G j = E (c0 + 2 * j) ∧ H j = E (c0 + 2 * j + 1)) (hv : ∀ j, j < 20 → tk = true → f j = E (c0 + 2 * j) ∧ g j = E (c0 + 2 * j + 1))
    (hq : Q none (gm L xs (uR (uR (uR A 47 (fa_fill G f 20)) 48 (fa_fill H g 20)) 55 (fa_fill E f0 (c0 + 2 * 20))) (uI I 38 29 (nI (c0 + 2 * 20))) F P)) :
    ∀ j, j ≤ 20 → ∀ x : Int32, x = nI j → wp (d + 1) B cd_Model_moveAll Q 289 [some (.ref 38), some (.int x), b] [] (gm L xs (uR (uR (uR A 47 (fa_fill G f j)) 48 (fa_fill H g j)) 55 (fa_fill E f0 (c0 + 2 * j))) (uI I 38 29 (nI (c0 + 2 * j))) F P) := by
  refine rep 20 ?_ ?_
  · intro x hx
    exact mm_WP.go [289] 40 (lp_ge (N := 20) hx rfl (by decide) (Nat.le_refl _) (fun _ => hq) (fun h => absurd h (by decide)))
  · intro j hj ih x hx
    subst hx
    have ix := ix_n (w := j) (N := 20) (by decide) (by omega)
    have hm := m_move (L := L) (xs := xs) (A := uR (uR A 47 (fa_fill G f j)) 48 (fa_fill H g j)) (I := uI I 38 29 (nI (c0 + 2 * j))) (F := F) (P := P) (c := c0 + 2 * j) (tk := tk) (E := E) (f0 := f0) (v := fa_fill G f j ((nI j).toNatClampNeg)) d (by omega) rfl htk h0 (fun z => by rw [ix.2, fa_fill_out (Nat.le_refl _)]; exact (hv j hj z).1)
    refine mm_WP.go [289, 311] 60 (lp_ge (k := j) (N := 20) rfl rfl (by decide) (by omega) (fun h => absurd h (by omega)) (fun _ => ⟨ix.1, ca hm ⟨ix.1, ?_⟩⟩))
    show wp (d + 1) B cd_Model_moveAll Q 311 [some (.ref 38), some (.int (nI j)), b] [] (gm L xs (uR (uR (uR A 47 (upd (fa_fill G f j) ((nI j).toNatClampNeg) (E (c0 + 2 * j)))) 48 (fa_fill H g j)) 55 (fa_fill E f0 (c0 + 2 * j + 1))) (uI I 38 29 (nI (c0 + 2 * j + 1))) F P)
    rw [ix.2, ← (hG j hj).1, fa_fill_succ]
    have hm2 := m_move (L := L) (xs := xs) (A := uR (uR A 47 (fa_fill G f (j + 1))) 48 (fa_fill H g j)) (I := uI I 38 29 (nI (c0 + 2 * j + 1))) (F := F) (P := P) (c := c0 + 2 * j + 1) (tk := tk) (E := E) (f0 := f0) (v := fa_fill H g j ((nI j).toNatClampNeg)) d (by omega) rfl htk h0 (fun z => by rw [ix.2, fa_fill_out (Nat.le_refl _)]; exact (hv j hj z).2)
    refine mm_WP.go [289] 60 ⟨ix.1, ca hm2 ⟨ix.1, ?_⟩⟩
    show wp (d + 1) B cd_Model_moveAll Q 289 [some (.ref 38), some (.int (nI j + 1)), b] [] (gm L xs (uR (uR (uR A 47 (fa_fill G f (j + 1))) 48 (upd (fa_fill H g j) ((nI j).toNatClampNeg) (E (c0 + 2 * j + 1)))) 55 (fa_fill E f0 (c0 + 2 * j + 2))) (uI I 38 29 (nI (c0 + 2 * j + 2))) F P)
    rw [ix.2, ← (hG j hj).2, fa_fill_succ]
    exact ih _ (nI_1 _)
end M45
