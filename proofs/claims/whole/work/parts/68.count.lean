/-! count, of both -/
def rV (rf : Nat → Int32) (x : Int32) : Int32 := if 11 ≤ x.toInt ∧ x.toInt ≤ 16 then rf (x - 10).toNatClampNeg else -9
abbrev nTh (X : Tl) : Nat := fb_sm (fun s => tcO (xD X s)) (xN X)
abbrev nDo (X : Tl) : Nat := fb_sm (fun s => dcO (xD X s)) (xN X)
abbrev nSa (X : Tl) : Nat := fb_sm (fun w => fb_ct (fun s => xS X s w) (xN X)) 6
theorem rV_k {x : Int32} (h : 11 ≤ x.toInt ∧ x.toInt ≤ 16) : ∃ k, 1 ≤ k ∧ k < 7 ∧ x - 10 = nI k ∧ x = nI (k + 10) := by
  obtain ⟨j, hj, rfl⟩ := vp_in_of (x := x) (n := 17) (vp_in_iff.mpr ⟨by omega, by omega⟩) (by decide)
  rw [nI_toInt (by omega)] at h
  refine ⟨j - 10, by omega, by omega, ?_, ?_⟩
  · rw [show (10 : Int32) = nI 10 from rfl, pk_sub (by omega)]
  · congr 1
    omega
section M43
variable {L : Nat} {xs : Nat → Int32} {A I : Nat → Nat → Int32} {F : Nat → Nat → Option Nat} {P : mm_M} {X : Tl} {Z : Option Tl} {t : Nat → Nat} {N : Nat} {rf : Nat → Int32}
theorem c_countThings (d : Nat) (ho : okT X) (h : CI (X, Z, t, N, rf) A I F P) : sp (d + 1) 67 [.ref 21] (gm L xs A I F P) (ans (gm L xs A I F P) (nI (nTh X))) := by
  have a1 : I 21 2 = nI (xN X) := h.1.1
  have hn := ho.1
  have key : ∀ k, k ≤ xN X → ∀ x y : Int32, x = nI k → y = nI (fb_sm (fun s => tcO (xD X s)) k) → wp d (mm_Al 67) cd_Told_countThings (ans (gm L xs A I F P) (nI (nTh X))) 4 [some (.ref 21), some (.int y), some (.int x)] [] (gm L xs A I F P) := by
    refine rep (xN X) ?_ ?_
    · intro x y hx hy
      subst hy
      exact mm_WP.go [4] 40 (lp_ge hx a1 (by omega) (Nat.le_refl _) (fun _ => ⟨rfl, rfl⟩) (fun h => absurd h (by omega)))
    · intro k hk ih x y hx hy
      subst hx
      have ik := ix_n (w := k) (N := 24) (by decide) (by omega)
      obtain ⟨p, hF, f, g, h1, -⟩ := h.1.2.1 k hk
      have hF2 : F 25 ((nI k).toNatClampNeg) = some (p + 56) := by
        rw [ik.2]
        exact hF
      refine mm_WP.go [4, 19] 40 (lp_ge (k := k) rfl a1 (by omega) (by omega) (fun h => absurd h (by omega)) (fun _ => ⟨ik.1, p + 56, hF2, w_gf rfl h1 rfl (mm_WP.go [4] 20 (ih _ _ (nI_1 k) ?_))⟩))
      rw [hy, nI_add]
      rfl
  exact ⟨⟨_, rfl⟩, rfl, mm_WP.go [4] 40 (key 0 (Nat.zero_le _) _ _ rfl rfl)⟩
theorem c_countDoings (d : Nat) (ho : okT X) (h : CI (X, Z, t, N, rf) A I F P) : sp (d + 1) 68 [.ref 21] (gm L xs A I F P) (ans (gm L xs A I F P) (nI (nDo X))) := by
  have a1 : I 21 2 = nI (xN X) := h.1.1
  have hn := ho.1
  have key : ∀ k, k ≤ xN X → ∀ x y : Int32, x = nI k → y = nI (fb_sm (fun s => dcO (xD X s)) k) → wp d (mm_Al 68) cd_Told_countDoings (ans (gm L xs A I F P) (nI (nDo X))) 4 [some (.ref 21), some (.int y), some (.int x)] [] (gm L xs A I F P) := by
    refine rep (xN X) ?_ ?_
    · intro x y hx hy
      subst hy
      exact mm_WP.go [4] 40 (lp_ge hx a1 (by omega) (Nat.le_refl _) (fun _ => ⟨rfl, rfl⟩) (fun h => absurd h (by omega)))
    · intro k hk ih x y hx hy
      subst hx
      have ik := ix_n (w := k) (N := 24) (by decide) (by omega)
      obtain ⟨p, hF, f, g, h1, -⟩ := h.1.2.1 k hk
      have hF2 : F 25 ((nI k).toNatClampNeg) = some (p + 56) := by
        rw [ik.2]
        exact hF
      refine mm_WP.go [4, 19] 40 (lp_ge (k := k) rfl a1 (by omega) (by omega) (fun h => absurd h (by omega)) (fun _ => ⟨ik.1, p + 56, hF2, w_gf rfl h1 rfl (mm_WP.go [4] 20 (ih _ _ (nI_1 k) ?_))⟩))
      rw [hy, nI_add]
      rfl
  exact ⟨⟨_, rfl⟩, rfl, mm_WP.go [4] 40 (key 0 (Nat.zero_le _) _ _ rfl rfl)⟩
theorem c_countSaid (d : Nat) (ho : okT X) (h : CI (X, Z, t, N, rf) A I F P) : sp (d + 2) 69 [.ref 21] (gm L xs A I F P) (ans (gm L xs A I F P) (nI (nSa X))) := by
  have hn := ho.1
  have key : ∀ k, k ≤ 6 → ∀ x y : Int32, x = nI k → y = nI (fb_sm (fun w => fb_ct (fun s => xS X s w) (xN X)) k) → wp (d + 1) (mm_Al 69) cd_Told_countSaid (ans (gm L xs A I F P) (nI (nSa X))) 4 [some (.ref 21), some (.int y), some (.int x)] [] (gm L xs A I F P) := by
    refine rep 6 ?_ ?_
    · intro x y hx hy
      subst hy
      exact mm_WP.go [4] 40 (lp_ge (N := 6) hx rfl (by decide) (Nat.le_refl _) (fun _ => ⟨rfl, rfl⟩) (fun h => absurd h (by decide)))
    · intro k hk ih x y hx hy
      subst hx
      have ik := ix_n (w := k) (N := 6) (by decide) hk
      have e : A 27 ((nI k).toNatClampNeg) = nI (sb (xN X) (fun s => xS X s k)) := by
        rw [ik.2]
        exact h.1.2.2.2.1 k hk
      have hb := j_bitCount d (sb_24 hn (fun s => xS X s k)) (gm L xs A I F P)
      rw [← e, od_sb hn] at hb
      refine mm_WP.go [4] 40 (lp_ge (k := k) (N := 6) rfl rfl (by decide) (by omega) (fun h => absurd h (by omega)) (fun _ => ⟨ik.1, ca hb (ih _ _ (nI_1 k) ?_)⟩))
      rw [hy, nI_add]
      rfl
  exact ⟨⟨_, rfl⟩, rfl, mm_WP.go [4] 40 (key 0 (Nat.zero_le _) _ _ rfl rfl)⟩
theorem c_length (d : Nat) : sp (d + 1) 48 [.ref 7] (gm L xs A I F P) (ans (gm L xs A I F P) (I 7 1)) := ⟨⟨_, rfl⟩, rfl, mm_WP.go [] 20 ⟨rfl, rfl⟩⟩
theorem c_countRefusals (d : Nat) (h : ∀ k, k < 7 → A 20 k = rf k) (x : Int32) : sp (d + 1) 113 [.ref 6, .int x] (gm L xs A I F P) (ans (gm L xs A I F P) (rV rf x)) := by
  have e10 : (10 : Int32).toInt = 10 := by decide
  have e17 : ((10 : Int32) + nI 7).toInt = 17 := by decide
  unfold rV
  by_cases c : 11 ≤ x.toInt ∧ x.toInt ≤ 16
  · obtain ⟨k, k1, k7, ek, ex⟩ := rV_k c
    have ik := ix_e ek (N := 7) (by decide) k7
    rw [if_pos c]
    refine ⟨⟨_, rfl⟩, rfl, mm_WP.go [] 40 ⟨fun c1 => ?_, fun _ => ⟨fun _ => ⟨ik.1, congrArg (fun z => some (Value.int z)) ?_, rfl⟩, fun c2 => ?_⟩⟩⟩
    · rw [fa_le, e10] at c1
      omega
    · rw [ik.2]
      exact h k k7
    · rw [fa_lt, e17] at c2
      omega
  · rw [if_neg c]
    refine ⟨⟨_, rfl⟩, rfl, mm_WP.go [] 40 ⟨fun c1 => ⟨rfl, rfl⟩, fun c1 => ⟨fun c2 => ?_, fun c2 => ⟨rfl, rfl⟩⟩⟩⟩
    rw [fa_le, e10] at c1
    rw [fa_lt, e17] at c2
    omega
def cV (E : St) (x : Int32) : Int32 := if x = 0 then nI (xN E.1) else if x = 1 then nI (nTh E.1) else if x = 2 then nI (nDo E.1) else if x = 3 then nI (nSa E.1) else if x = 4 then nI (xY E.1) else if x = 5 then nI E.2.2.2.1 else rV E.2.2.2.2 x
theorem c_count (d : Nat) (ho : okT X) (h : CI (X, Z, t, N, rf) A I F P) (x : Int32) : sp (d + 3) 112 [.ref 6, .int x] (gm L xs A I F P) (ans (gm L xs A I F P) (cV (X, Z, t, N, rf) x)) := by
  have si : ∀ {u v : Int32}, u = v → (some (Value.int u) : Option Value) = some (Value.int v) := fun h => congrArg (fun z => some (Value.int z)) h
  unfold cV
  refine ⟨⟨_, rfl⟩, rfl, mm_WP.go [] 40 ⟨fun c => ?_, fun c0 => ⟨fun c => ?_, fun c1 => ⟨fun c => ?_, fun c2 => ⟨fun c => ?_, fun c3 => ⟨fun c => ?_, fun c4 => ⟨fun c => ?_, fun c5 => ?_⟩⟩⟩⟩⟩⟩⟩
  · rw [if_pos c]
    exact ⟨si h.1.1, rfl⟩
  · rw [if_neg c0, if_pos c]
    exact ca (c_countThings (d + 1) ho h) ⟨rfl, rfl⟩
  · rw [if_neg c0, if_neg c1, if_pos c]
    exact ca (c_countDoings (d + 1) ho h) ⟨rfl, rfl⟩
  · rw [if_neg c0, if_neg c1, if_neg c2, if_pos c]
    exact ca (c_countSaid d ho h) ⟨rfl, rfl⟩
  · rw [if_neg c0, if_neg c1, if_neg c2, if_neg c3, if_pos c]
    exact ⟨si h.1.2.2.2.2.2.2.2.2.1, rfl⟩
  · rw [if_neg c0, if_neg c1, if_neg c2, if_neg c3, if_neg c4, if_pos c]
    exact ca (c_length (d + 1)) ⟨si h.2.2.2.2.2.1, rfl⟩
  · rw [if_neg c0, if_neg c1, if_neg c2, if_neg c3, if_neg c4, if_neg c5]
    exact ca (c_countRefusals (d + 1) h.2.2.2.2.2.2.2 x) ⟨rfl, rfl⟩
theorem m_count (d : Nat) (ho : okT X) (h : RI (X, Z, t, N, rf) A I) (x : Int32) : sp (d + 3) 181 [.ref 38, .int x] (gm L xs A I F P) (ans (gm L xs A I F P) (cV (X, Z, t, N, rf) x)) := by
  have si : ∀ {u v : Int32}, u = v → (some (Value.int u) : Option Value) = some (Value.int v) := fun h => congrArg (fun z => some (Value.int z)) h
  have hr : RT X A I := h.1
  have a1 := hr.1
  have hn := ho.1
  have k1 : ∀ k, k ≤ xN X → ∀ u y : Int32, u = nI k → y = nI (fb_sm (fun s => tcO (xD X s)) k) → wp (d + 2) (mm_Al 181) cd_Model_count (ans (gm L xs A I F P) (nI (nTh X))) 47 [some (.ref 38), some (.int x), some (.int y), some (.int u)] [] (gm L xs A I F P) := by
    refine rep (xN X) ?_ ?_
    · intro u y hx hy
      subst hy
      exact mm_WP.go [47] 40 (lp_ge hx a1 (by omega) (Nat.le_refl _) (fun _ => ⟨rfl, rfl⟩) (fun h => absurd h (by omega)))
    · intro k hk ih u y hx hy
      subst hx
      have ik := ix_n (w := k) (N := 24) (by decide) (by omega)
      refine mm_WP.go [47] 40 (lp_ge (k := k) rfl a1 (by omega) (by omega) (fun h => absurd h (by omega)) (fun _ => ⟨ik.1, ih _ _ (nI_1 k) ?_⟩))
      rw [hy, ik.2, (hr.2.1 k hk).1, nI_add]
      rfl
  have k2 : ∀ k, k ≤ xN X → ∀ u y : Int32, u = nI k → y = nI (fb_sm (fun s => dcO (xD X s)) k) → wp (d + 2) (mm_Al 181) cd_Model_count (ans (gm L xs A I F P) (nI (nDo X))) 74 [some (.ref 38), some (.int x), some (.int y), some (.int u)] [] (gm L xs A I F P) := by
    refine rep (xN X) ?_ ?_
    · intro u y hx hy
      subst hy
      exact mm_WP.go [74] 40 (lp_ge hx a1 (by omega) (Nat.le_refl _) (fun _ => ⟨rfl, rfl⟩) (fun h => absurd h (by omega)))
    · intro k hk ih u y hx hy
      subst hx
      have ik := ix_n (w := k) (N := 24) (by decide) (by omega)
      refine mm_WP.go [74] 40 (lp_ge (k := k) rfl a1 (by omega) (by omega) (fun h => absurd h (by omega)) (fun _ => ⟨ik.1, ih _ _ (nI_1 k) ?_⟩))
      rw [hy, ik.2, (hr.2.1 k hk).2.2.1, nI_add]
      rfl
  have k3 : ∀ k, k ≤ 6 → ∀ u y : Int32, u = nI k → y = nI (fb_sm (fun w => fb_ct (fun s => xS X s w) (xN X)) k) → wp (d + 2) (mm_Al 181) cd_Model_count (ans (gm L xs A I F P) (nI (nSa X))) 101 [some (.ref 38), some (.int x), some (.int y), some (.int u)] [] (gm L xs A I F P) := by
    refine rep 6 ?_ ?_
    · intro u y hx hy
      subst hy
      exact mm_WP.go [101] 40 (lp_ge (N := 6) hx rfl (by decide) (Nat.le_refl _) (fun _ => ⟨rfl, rfl⟩) (fun h => absurd h (by decide)))
    · intro k hk ih u y hx hy
      subst hx
      refine mm_WP.go [101] 40 (lp_ge (k := k) (N := 6) rfl rfl (by decide) (by omega) (fun h => absurd h (by omega)) (fun _ => ca (m_saidIn (d + 1) (RT_RS ho hr) hk) (ih _ _ (nI_1 k) ?_)))
      rw [hy, nI_add]
      rfl
  unfold cV
  refine ⟨⟨_, rfl⟩, rfl, mm_WP.go [47, 74, 101] 40 ⟨fun c => ?_, fun c0 => ⟨fun c => ?_, fun c1 => ⟨fun c => ?_, fun c2 => ⟨fun c => ?_, fun c3 => ⟨fun c => ?_, fun c4 => ⟨fun c => ?_, fun c5 => ?_⟩⟩⟩⟩⟩⟩⟩
  · rw [if_pos c]
    exact ⟨si a1, rfl⟩
  · rw [if_neg c0, if_pos c]
    exact k1 0 (Nat.zero_le _) _ _ rfl rfl
  · rw [if_neg c0, if_neg c1, if_pos c]
    exact k2 0 (Nat.zero_le _) _ _ rfl rfl
  · rw [if_neg c0, if_neg c1, if_neg c2, if_pos c]
    exact k3 0 (Nat.zero_le _) _ _ rfl rfl
  · rw [if_neg c0, if_neg c1, if_neg c2, if_neg c3, if_pos c]
    exact ⟨si hr.2.2.2.2.2.2.2.2.1, rfl⟩
  · rw [if_neg c0, if_neg c1, if_neg c2, if_neg c3, if_neg c4, if_pos c]
    exact ⟨si h.2.2.2.1, rfl⟩
  · rw [if_neg c0, if_neg c1, if_neg c2, if_neg c3, if_neg c4, if_neg c5]
    have ei : ((11 : Int64) ≤ x.toInt64 ∧ x.toInt64 ≤ 16) ↔ (11 ≤ x.toInt ∧ x.toInt ≤ 16) := by
      rw [show (11 : Int64) = (11 : Int32).toInt64 from by decide, show (16 : Int64) = (16 : Int32).toInt64 from by decide, in_32]
      exact Iff.rfl
    unfold rV
    refine cy (m_in (d + 1) _ _ _ _) (fun z => e1 ?_) (fun z => e0 ?_)
    · have c := ei.mp z
      obtain ⟨k, k1, k7, ek, ex⟩ := rV_k c
      have ik := ix_e ek (N := 7) (by decide) k7
      rw [if_pos c]
      refine ⟨ik.1, si ?_, rfl⟩
      rw [ik.2]
      exact h.2.2.2.2.2 k k7
    · rw [if_neg (fun c => z (ei.mpr c))]
      exact ⟨rfl, rfl⟩
end M43
theorem bo_count (d : Nat) {E : St} (hE : okE E) (x : Int32) : ∃ u E2, bo (d + 3) 112 181 [.int x] E (.int u) E2 := by
  obtain ⟨X, Z, t, N, rf⟩ := E
  exact ⟨_, _, bo_ans (.int (cV (X, Z, t, N, rf) x)) hE (fun L xs A I F P h => c_count d hE.1 h x) (fun L xs A I F P h => m_count d hE.1 h x)⟩
