/-! orders, of both: the loops -/
theorem sb_t {o : Nat} {q : Nat → Bool} (h : q o = true) : sb (o + 1) q = 2 ^ o + sb o q := by
  rw [sb, if_pos h, Nat.mul_one]
theorem sb_f {o : Nat} {q : Nat → Bool} (h : q o = false) : sb (o + 1) q = sb o q := by
  rw [sb, h, if_neg (by decide), Nat.mul_zero, Nat.zero_add]
theorem or_t {o : Nat} {q : Nat → Bool} (ho : o < 6) (h : q o = true) : nI (sb o q) ||| ((1 : Int32) <<< (nI o &&& 31)) = nI (sb (o + 1) q) := by
  rw [sb_t h, sh_one o (by omega), Int32.or_comm]
  have := fa_or_sum 1 (sb_lt q o)
  rw [Nat.mul_one] at this
  exact this
theorem or_f {o : Nat} {q : Nat → Bool} (h : q o = false) : nI (sb o q) ||| 0 = nI (sb (o + 1) q) := by
  rw [sb_f h]
  exact Int32.or_zero
def fX2 (X : Tl) (o k : Nat) : Bool := fitB (xD X (xA X k)) (xG X (wA (xB X k) (pWh o))) (xG X (wA (xB X k) (pDo o))) (xG X (wA (xB X k) (pWm o)))
def oX2 (X : Tl) (o : Nat) : Bool := al (fX2 X o) (xY X)
section M42
variable {L : Nat} {xs : Nat → Int32} {A I : Nat → Nat → Int32} {F : Nat → Nat → Option Nat} {P : mm_M} {X : Tl} {Z : Option Tl} {t : Nat → Nat} {N : Nat} {rf : Nat → Int32}
theorem m_fits (d : Nat) {s k o w : Nat} {D : Sc} {g : Nat → Option Nat} (hs : s < 24) (hR : RD A s D) (ho : okS D) (hk : k < 20) (h47 : A 47 k = nI s) (h48 : A 48 k = nI w) (hw : W3 w) (hoo : o < 6) (hA : ∀ j, j < 6 → A 46 j = oM (g j)) (hg : ∀ j, j < 6 → g90 (g j)) : sp (d + 3) 163 [.ref 38, .int (nI k), .int (nI o)] (gm L xs A I F P) (ans (gm L xs A I F P) (bI (fitB D (g (wA w (pWh o))) (g (wA w (pDo o))) (g (wA w (pWm o)))))) := by
  have hw6 : w < 600 := hw.1
  have ik := ix_n (w := k) (N := 20) (by decide) hk
  have e8 : A 48 ((nI k).toNatClampNeg) = nI w := by rw [ik.2, h48]
  have j0 : vp_in (A 48 ((nI k).toNatClampNeg) / 100) 6 ∧ (A 48 ((nI k).toNatClampNeg) / 100).toNatClampNeg = wA w 0 := by
    rw [e8, d_100 (by omega)]
    exact ix_n (by decide) (wA_lt (p := 0) hw)
  have j1 : vp_in (A 48 ((nI k).toNatClampNeg) / 10 - A 48 ((nI k).toNatClampNeg) / 10 / 10 * 10) 6 ∧ (A 48 ((nI k).toNatClampNeg) / 10 - A 48 ((nI k).toNatClampNeg) / 10 / 10 * 10).toNatClampNeg = wA w 1 := by
    rw [e8, d_10 (by omega)]
    exact ix_n (by decide) (wA_lt (p := 1) hw)
  have j2 : vp_in (A 48 ((nI k).toNatClampNeg) - A 48 ((nI k).toNatClampNeg) / 10 * 10) 6 ∧ (A 48 ((nI k).toNatClampNeg) - A 48 ((nI k).toNatClampNeg) / 10 * 10).toNatClampNeg = wA w 2 := by
    rw [e8, d_1 (by omega)]
    exact ix_n (by decide) (wA_lt (p := 2) hw)
  refine ⟨⟨_, rfl⟩, rfl, mm_WP.go [58] 80 ⟨ik.1, ik.1, by decide, j0.1, ik.1, by decide, by decide, j1.1, ik.1, by decide, j2.1, ?_⟩⟩
  show wp (d + 2) (mm_Al 163) cd_Model_fits _ 58 [some (.ref 38), some (.int (nI k)), some (.int (nI o)), some (.int (A 47 ((nI k).toNatClampNeg))), some (.int (A 46 ((A 48 ((nI k).toNatClampNeg) / 100).toNatClampNeg))), some (.int (A 46 ((A 48 ((nI k).toNatClampNeg) / 10 - A 48 ((nI k).toNatClampNeg) / 10 / 10 * 10).toNatClampNeg))), some (.int (A 46 ((A 48 ((nI k).toNatClampNeg) - A 48 ((nI k).toNatClampNeg) / 10 * 10).toNatClampNeg)))] [] (gm L xs A I F P)
  rw [j0.2, j1.2, j2.2, hA _ (wA_lt hw), hA _ (wA_lt hw), hA _ (wA_lt hw), ik.2, h47]
  have q0 := hg _ (wA_lt (p := 0) hw)
  have q1 := hg _ (wA_lt (p := 1) hw)
  have q2 := hg _ (wA_lt (p := 2) hw)
  match o, hoo with
  | 0, _ => exact mm_WP.go [] 40 ⟨fun _ => ca (m_isDone d hs hR ho q0 q1 q2) ⟨bI_fit _, rfl, rfl⟩, fun c => absurd rfl c⟩
  | 1, _ => exact mm_WP.go [] 40 ⟨fun c => absurd c (by decide), fun _ => ⟨fun _ => ca (m_isDone d hs hR ho q0 q2 q1) ⟨bI_fit _, rfl, rfl⟩, fun c => absurd rfl c⟩⟩
  | 2, _ => exact mm_WP.go [] 40 ⟨fun c => absurd c (by decide), fun _ => ⟨fun c => absurd c (by decide), fun _ => ⟨fun _ => ca (m_isDone d hs hR ho q1 q0 q2) ⟨bI_fit _, rfl, rfl⟩, fun c => absurd rfl c⟩⟩⟩
  | 3, _ => exact mm_WP.go [] 40 ⟨fun c => absurd c (by decide), fun _ => ⟨fun c => absurd c (by decide), fun _ => ⟨fun c => absurd c (by decide), fun _ => ⟨fun _ => ca (m_isDone d hs hR ho q2 q0 q1) ⟨bI_fit _, rfl, rfl⟩, fun c => absurd rfl c⟩⟩⟩⟩
  | 4, _ => exact mm_WP.go [] 40 ⟨fun c => absurd c (by decide), fun _ => ⟨fun c => absurd c (by decide), fun _ => ⟨fun c => absurd c (by decide), fun _ => ⟨fun c => absurd c (by decide), fun _ => ⟨fun _ => ca (m_isDone d hs hR ho q1 q2 q0) ⟨bI_fit _, rfl, rfl⟩, fun c => absurd rfl c⟩⟩⟩⟩⟩
  | 5, _ => exact mm_WP.go [] 40 ⟨fun c => absurd c (by decide), fun _ => ⟨fun c => absurd c (by decide), fun _ => ⟨fun c => absurd c (by decide), fun _ => ⟨fun c => absurd c (by decide), fun _ => ⟨fun c => absurd c (by decide), fun _ => ca (m_isDone d hs hR ho q2 q1 q0) ⟨bI_fit _, rfl, rfl⟩⟩⟩⟩⟩⟩
  | o + 6, h => exact absurd h (by omega)
theorem m_orders (d : Nat) (ho : okT X) (h : RI (X, Z, t, N, rf) A I) : sp (d + 4) 162 [.ref 38] (gm L xs A I F P) (ans (gm L xs A I F P) (nI (sb 6 (oX2 X)))) := by
  obtain ⟨a1, a2, a3, a4, a5, a6, a7, a8, a9, a10⟩ := h.1
  have a9 : I 38 11 = nI (xY X) := a9
  have hy : xY X ≤ 20 := ho.2.2.2.2.2.2.1
  have hn := ho.1
  have inner : ∀ (o : Nat), o < 6 → ∀ (b : Int32) (Q : mm_Q), (∀ u : Int32, wp (d + 3) (mm_Al 162) cd_Model_orders Q 50 [some (.ref 38), some (.int b), some (.int (nI o)), some (.int (bI (oX2 X o))), some (.int u)] [] (gm L xs A I F P)) → ∀ k, k ≤ xY X → ∀ x y : Int32, x = nI k → y = bI (al (fX2 X o) k) → wp (d + 3) (mm_Al 162) cd_Model_orders Q 15 [some (.ref 38), some (.int b), some (.int (nI o)), some (.int y), some (.int x)] [] (gm L xs A I F P) := by
    intro o hoo b Q next
    refine rep (xY X) ?_ ?_
    · intro x y hx hy2
      subst hy2
      exact mm_WP.go [15, 50] 40 (lp_ge hx a9 (by omega) (Nat.le_refl _) (fun _ => next x) (fun h => absurd h (by omega)))
    · intro k hk ih x y hx hy2
      subst hx
      obtain ⟨h47, h48⟩ := a10 k hk
      obtain ⟨w1, w2⟩ := ho.2.2.2.2.2.2.2 k hk
      have hf := m_fits (L := L) (xs := xs) (I := I) (F := F) (P := P) (g := xG X) d (by omega) (a2 _ w1) (ho.2.1 _ w1) (show k < 20 by omega) h47 h48 w2 hoo a8 (fun j hj m hm => ho.2.2.2.2.2.1 j hj m hm)
      refine mm_WP.go [15, 50] 60 (lp_ge (k := k) rfl a9 (by omega) (by omega) (fun h => absurd h (by omega)) (fun _ => ⟨fun c => ih _ _ (nI_1 k) ?_, fun c => ca hf ⟨fun c2 => ih _ _ (nI_1 k) ?_, fun c2 => ih _ _ (nI_1 k) ?_⟩⟩))
      · rw [hy2] at c
        rw [al, bI_0 c]
        rfl
      · rw [al, show fX2 X o k = false from bI_0 c2, Bool.and_false]
        rfl
      · rw [hy2] at c
        rw [al, show fX2 X o k = true from bI_1 c2, bI_1 c]
        rfl
  have outer : ∀ o, o ≤ 6 → ∀ (x y : Int32) (u v : Option Value), x = nI o → y = nI (sb o (oX2 X)) → wp (d + 3) (mm_Al 162) cd_Model_orders (ans (gm L xs A I F P) (nI (sb 6 (oX2 X)))) 4 [some (.ref 38), some (.int y), some (.int x), u, v] [] (gm L xs A I F P) := by
    refine rep 6 ?_ ?_
    · intro x y u v hx hy2
      subst hy2
      exact mm_WP.go [4] 40 (lp_ge (N := 6) hx rfl (by decide) (by decide) (fun _ => ⟨rfl, rfl⟩) (fun h => absurd h (by decide)))
    · intro o hoo ih x y u v hx hy2
      subst hx
      subst hy2
      refine mm_WP.go [4, 15] 40 (lp_ge (k := o) (N := 6) rfl rfl (by decide) (by omega) (fun h => absurd h (by omega)) (fun _ => ?_))
      refine inner o hoo _ _ (fun u => ?_) 0 (Nat.zero_le _) _ _ rfl rfl
      refine mm_WP.go [4] 40 ⟨fun c => ih _ _ _ _ (nI_1 o) (or_f (bI_0 c)), fun c => ih _ _ _ _ (nI_1 o) (or_t hoo (bI_1 c))⟩
  exact ⟨⟨_, rfl⟩, rfl, mm_WP.go [4] 40 (outer 0 (by decide) _ _ _ _ rfl rfl)⟩
theorem c_orders (d : Nat) (ho : okT X) (h : CI (X, Z, t, N, rf) A I F P) : sp (d + 5) 103 [.ref 6] (gm L xs A I F P) (ans (gm L xs A I F P) (nI (sb 6 (oX2 X)))) := by
  obtain ⟨a1, a2, a3, a4, a5, a6, a7, a8, a9, a10⟩ := h.1
  have a9 : I 21 11 = nI (xY X) := a9
  have hy : xY X ≤ 20 := ho.2.2.2.2.2.2.1
  have hn := ho.1
  have inner : ∀ (o : Nat), o < 6 → ∀ (b : Int32) (Q : mm_Q), (∀ u : Int32, wp (d + 3) (mm_Al 62) cd_Told_fittingOrders Q 59 [some (.ref 21), some (.int b), some (.int (nI o)), some (.int (bI (oX2 X o))), some (.int u)] [] (gm L xs A I F P)) → ∀ k, k ≤ xY X → ∀ x y : Int32, x = nI k → y = bI (al (fX2 X o) k) → wp (d + 3) (mm_Al 62) cd_Told_fittingOrders Q 15 [some (.ref 21), some (.int b), some (.int (nI o)), some (.int y), some (.int x)] [] (gm L xs A I F P) := by
    intro o hoo b Q next
    refine rep (xY X) ?_ ?_
    · intro x y hx hy2
      subst hy2
      exact mm_WP.go [15, 59] 40 (lp_ge hx a9 (by omega) (Nat.le_refl _) (fun _ => next x) (fun h => absurd h (by omega)))
    · intro k hk ih x y hx hy2
      subst hx
      have ik := ix_n (w := k) (N := 20) (by decide) (by omega)
      obtain ⟨h30, h31⟩ := a10 k hk
      obtain ⟨w1, w2⟩ := ho.2.2.2.2.2.2.2 k hk
      obtain ⟨p, hF, hsp⟩ := a2 _ w1
      have is : vp_in (A 30 ((nI k).toNatClampNeg)) 24 ∧ (A 30 ((nI k).toNatClampNeg)).toNatClampNeg = xA X k := by
        rw [ik.2, h30]
        exact ix_n (by decide) (Nat.lt_of_lt_of_le w1 hn)
      have hF2 : F 25 ((A 30 ((nI k).toNatClampNeg)).toNatClampNeg) = some (p + 56) := by
        rw [is.2]
        exact hF
      have hf := c_fits (g := xG X) d (SP_SO (L := L) (xs := xs) (A := A) (I := I) (F := F) hsp) (ho.2.1 _ w1) w2 hoo a8 (fun j hj m hm => ho.2.2.2.2.2.1 j hj m hm)
      rw [← show A 31 ((nI k).toNatClampNeg) = nI (xB X k) by rw [ik.2, h31]] at hf
      refine mm_WP.go [15, 59] 60 (lp_ge (k := k) rfl a9 (by omega) (by omega) (fun h => absurd h (by omega)) (fun _ => ⟨fun c => ?_, fun c => ⟨ik.1, is.1, p + 56, hF2, ik.1, ca hf (ih _ _ (nI_1 k) ?_)⟩⟩))
      · rw [hy2] at c
        have e : oX2 X o = false := al_mono (Nat.le_of_lt hk) (bI_0 c)
        have e2 : y = bI (oX2 X o) := by rw [hy2, e, bI_0 c]
        rw [e2]
        exact next _
      · rw [hy2] at c
        rw [al, bI_1 c, Bool.true_and]
        rfl
  have outer : ∀ o, o ≤ 6 → ∀ (x y : Int32) (u v : Option Value), x = nI o → y = nI (sb o (oX2 X)) → wp (d + 3) (mm_Al 62) cd_Told_fittingOrders (ans (gm L xs A I F P) (nI (sb 6 (oX2 X)))) 4 [some (.ref 21), some (.int y), some (.int x), u, v] [] (gm L xs A I F P) := by
    refine rep 6 ?_ ?_
    · intro x y u v hx hy2
      subst hy2
      exact mm_WP.go [4] 40 (lp_ge (N := 6) hx rfl (by decide) (by decide) (fun _ => ⟨rfl, rfl⟩) (fun h => absurd h (by decide)))
    · intro o hoo ih x y u v hx hy2
      subst hx
      subst hy2
      refine mm_WP.go [4, 15] 40 (lp_ge (k := o) (N := 6) rfl rfl (by decide) (by omega) (fun h => absurd h (by omega)) (fun _ => ?_))
      refine inner o hoo _ _ (fun u => ?_) 0 (Nat.zero_le _) _ _ rfl rfl
      refine mm_WP.go [4] 40 ⟨fun c => ih _ _ _ _ (nI_1 o) ?_, fun c => ih _ _ _ _ (nI_1 o) (or_t hoo (bI_1 c))⟩
      rw [sb_f (bI_0 c)]
  have all : sp (d + 4) 62 [.ref 21] (gm L xs A I F P) (ans (gm L xs A I F P) (nI (sb 6 (oX2 X)))) := ⟨⟨_, rfl⟩, rfl, mm_WP.go [4] 40 (outer 0 (by decide) _ _ _ _ rfl rfl)⟩
  exact ⟨⟨_, rfl⟩, rfl, mm_WP.go [] 40 (ca all ⟨rfl, rfl⟩)⟩
end M42
theorem bo_orders (d : Nat) {E : St} (hE : okE E) : ∃ u E2, bo (d + 5) 103 162 [] E (.int u) E2 := by
  obtain ⟨X, Z, t, N, rf⟩ := E
  exact ⟨_, _, bo_ans (.int (nI (sb 6 (oX2 X)))) hE (fun L xs A I F P h => c_orders d hE.1 h) (fun L xs A I F P h => m_orders (d + 1) hE.1 h)⟩
