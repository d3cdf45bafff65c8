/-! feed, of both -/
def bb (b : Int64) (i : Nat) : Nat := b.toBitVec.toNat / 2 ^ (8 * i) % 256
theorem bb_lt {b : Int64} {i : Nat} : bb b i < 256 := Nat.mod_lt _ (by decide)
theorem lN_32 (n : Nat) : (lN n).toInt32 = nI n := Int64.toInt32_ofNat'
theorem by_c (b : Int64) {i : Nat} (hi : i < 8) : ((b.toUInt64 >>> ((8 * nI i).toInt64.toUInt64 &&& Int64.toUInt64 63)).toInt64).toInt32 &&& 255 = nI (bb b i) := by
  obtain ⟨n, hn, rfl⟩ := wb_of b
  unfold bb
  rw [show 8 * nI i = nI (8 * i) from pk_mul 8 i, wb_shr hn (by omega), lN_32, show (255 : Int32) = nI (2 ^ 8 - 1) from rfl, fa_mask, wb_tn hn]
theorem by_255 : ∀ i, i < 64 → (255 : Int64).toBitVec.getLsbD i = decide (i < 8) := by decide +kernel
theorem by_sm : ∀ k, k < 64 → ((lN k).toBitVec.smod 64).toNat = k := by decide +kernel
theorem by_m (b : Int64) {i : Nat} (hi : i < 8) : ((b >>> ((8 * nI i).toInt64 &&& 63)) &&& 255).toInt32 = nI (bb b i) := by
  obtain ⟨n, hn, rfl⟩ := wb_of b
  unfold bb
  have e : (lN n >>> ((8 * nI i).toInt64 &&& 63)) &&& 255 = lN (n / 2 ^ (8 * i) % 2 ^ 8) := by
    rw [show 8 * nI i = nI (8 * i) from pk_mul 8 i, wb_c _ (by omega)]
    apply wb_inj
    apply BitVec.eq_of_getLsbD_eq
    intro j hj
    rw [Int64.toBitVec_and, BitVec.getLsbD_and, by_255 j hj, Int64.toBitVec_shiftRight, wb_tb (n / 2 ^ (8 * i) % 2 ^ 8), BitVec.getLsbD_ofNat, Nat.testBit_mod_two_pow]
    show (((lN n).toBitVec.sshiftRight ((lN (8 * i)).toBitVec.smod 64).toNat).getLsbD j && _) = _
    rw [by_sm _ (by omega), BitVec.getLsbD_sshiftRight, Nat.testBit_div_two_pow]
    by_cases c : j < 8
    · have c2 : 8 * i + j < 64 := by omega
      rw [decide_eq_true c, decide_eq_true hj, wb_tb, BitVec.getLsbD_ofNat]
      simp [c2, show ¬ 64 ≤ j by omega, show j + 8 * i < 64 by omega, Nat.add_comm]
    · rw [decide_eq_false c]
      simp
  rw [e, lN_32, wb_tn hn]
/-- the text behind a feed -/
def fdT (t : Nat → Nat) (N : Nat) (b : Int64) (j : Nat) : Nat := if j < N then t j else bb b (j - N)
section M36
variable {L : Nat} {xs : Nat → Int32} {A I : Nat → Nat → Int32} {F : Nat → Nat → Option Nat} {P : mm_M} {X : Tl} {Z : Option Tl} {t : Nat → Nat} {N : Nat} {rf : Nat → Int32}
theorem c_room (d : Nat) : sp (d + 1) 37 [.ref 7] (gm L xs A I F P) (ans (gm L xs A I F P) (40 - I 7 1)) := ⟨⟨_, rfl⟩, rfl, mm_WP.go [] 20 ⟨rfl, rfl⟩⟩
theorem c_append (d : Nat) {k : Nat} {b : Int64} (hI : I 7 1 = nI N) (hk : k ≤ 8) (hN : N + k ≤ 40) : sp (d + 1) 38 [.ref 7, .int (nI k), .long b] (gm L xs A I F P) (fun r m => r = some (.int (nI (N + k))) ∧ ∃ f, (∀ j, j < N → f j = A 8 j) ∧ (∀ j, j < k → f (N + j) = nI (bb b j)) ∧ m = gm L xs (uR A 8 f) (uI I 7 1 (nI (N + k))) F P) := by
  have key : ∀ i, i ≤ k → ∀ (x : Int32) (f : Nat → Int32), x = nI i → (∀ j, j < N → f j = A 8 j) → (∀ j, j < i → f (N + j) = nI (bb b j)) → wp d (mm_Al 38) cd_Text_append (fun r m => r = some (.int (nI (N + k))) ∧ ∃ f, (∀ j, j < N → f j = A 8 j) ∧ (∀ j, j < k → f (N + j) = nI (bb b j)) ∧ m = gm L xs (uR A 8 f) (uI I 7 1 (nI (N + k))) F P) 3 [some (.ref 7), some (.int (nI k)), some (.long b), none, some (.int x)] [] (gm L xs (uR A 8 f) (uI I 7 1 (nI (N + i))) F P) := by
    refine rep k ?_ ?_
    · intro x f hx h1 h2
      exact mm_WP.go [3] 40 (lp_ge (N := k) hx rfl (by omega) (Nat.le_refl _) (fun _ => ⟨rfl, f, h1, h2, rfl⟩) (fun h => absurd h (by omega)))
    · intro i hi ih x f hx h1 h2
      subst hx
      have ix := ix_n (w := N + i) (N := 40) (by decide) (by omega)
      refine mm_WP.go [3] 60 (lp_ge (k := i) (N := k) rfl rfl (by omega) (by omega) (fun h => absurd h (by omega)) (fun _ => lp_ge (k := N + i) (N := 40) rfl rfl (by decide) (by omega) (fun h => absurd h (by omega)) (fun _ => ⟨ix.1, trivial, ?_⟩)))
      show wp d (mm_Al 38) cd_Text_append _ 3 [some (.ref 7), some (.int (nI k)), some (.long b), none, some (.int (nI i + 1))] [] (gm L xs (uR A 8 (upd f ((nI (N + i)).toNatClampNeg) (((b.toUInt64 >>> ((8 * nI i).toInt64.toUInt64 &&& Int64.toUInt64 63)).toInt64).toInt32 &&& 255))) (uI I 7 1 (nI (N + i) + 1)) F P)
      rw [ix.2, by_c b (by omega), nI_1 (N + i)]
      refine ih _ _ (nI_1 i) (fun j hj => ?_) (fun j hj => ?_)
      · rw [upd_at, if_neg (by omega)]
        exact h1 j hj
      · rw [upd_at]
        by_cases c : j = i
        · rw [if_pos (by omega), c]
        · rw [if_neg (by omega)]
          exact h2 j (by omega)
  refine ⟨⟨_, rfl⟩, rfl, mm_WP.go [3] 40 ?_⟩
  have h := key 0 (Nat.zero_le _) 0 (A 8) rfl (fun j _ => rfl) (fun j hj => absurd hj (Nat.not_lt_zero j))
  rw [show N + 0 = N from rfl, ← hI] at h
  exact h
theorem txt_at {f : Nat → Int32} {f0 : Nat → Int32} {b : Int64} {k : Nat} (h0 : ∀ i, i < N → f0 i = nI (t i)) (h1 : ∀ j, j < N → f j = f0 j) (h2 : ∀ j, j < k → f (N + j) = nI (bb b j)) : ∀ i, i < N + k → f i = nI (fdT t N b i) := by
  intro i hi
  unfold fdT
  by_cases c : i < N
  · rw [if_pos c, h1 i c, h0 i c]
  · rw [if_neg c, ← h2 (i - N) (by omega), show N + (i - N) = i by omega]
theorem c_feed (d : Nat) {k : Nat} {b : Int64} (h : CI (X, Z, t, N, rf) A I F P) (h1 : 1 ≤ k) (hk : k ≤ 8) (hN : N + k ≤ 40) : sp (d + 2) 71 [.ref 6, .int (nI k), .long b] (gm L xs A I F P) (cQ L xs A I (X, Z, fdT t N b, N + k, rf) (.int (nI (N + k)))) := by
  obtain ⟨c1, c2, c3, c4, c5, c6, c7, c8⟩ := h
  have hI : I 7 1 = nI N := c6
  have e40 : (40 : Int32) - I 7 1 = nI (40 - N) := by
    rw [hI, show (40 : Int32) = nI 40 from rfl, pk_sub (by omega)]
  refine ⟨⟨_, rfl⟩, rfl, mm_WP.go [] 40 ⟨fun _ => ⟨fun c => ?_, fun _ => ca (c_room d) ⟨fun _ => ⟨_, c_append d hI hk hN, ?_⟩, fun c => ?_⟩⟩, fun c => ?_⟩⟩
  · rw [show (8 : Int32) = nI 8 from rfl, nI_ltI (by decide) (by omega)] at c
    omega
  · rintro r m ⟨rfl, f, hf1, hf2, rfl⟩
    exact ⟨rfl, _, _, F, P, rfl, ⟨c1, c2, c3, c4, c5, rfl, txt_at c7 hf1 hf2, c8⟩, sR.rf.r (by decide) _, tR.rf.i (by decide) _ _⟩
  · rw [e40, nI_leI (by omega) (by omega)] at c
    omega
  · rw [show (1 : Int32) = nI 1 from rfl, nI_leI (by decide) (by omega)] at c
    omega
theorem c_feed_4 (d : Nat) {x : Int32} {b : Int64} (hx : x < 1) : sp (d + 2) 71 [.ref 6, .int x, .long b] (gm L xs A I F P) (rC L xs A I F P 4 (-4)) :=
  ⟨⟨_, rfl⟩, rfl, mm_WP.go [] 40 ⟨fun c => absurd c (Int32.not_le.mpr hx), fun _ => ca (c_rf4 d) ⟨rfl, rfl⟩⟩⟩
theorem c_feed_6 (d : Nat) {x : Int32} {b : Int64} (h : CI (X, Z, t, N, rf) A I F P) (hN : N ≤ 40) (h1 : ¬ x < 1) (hx : 8 < x ∨ ∃ k, k ≤ 8 ∧ x = nI k ∧ 40 < N + k) : sp (d + 2) 71 [.ref 6, .int x, .long b] (gm L xs A I F P) (rC L xs A I F P 6 (-6)) := by
  have hI : I 7 1 = nI N := h.2.2.2.2.2.1
  have e40 : (40 : Int32) - I 7 1 = nI (40 - N) := by
    rw [hI, show (40 : Int32) = nI 40 from rfl, pk_sub (by omega)]
  refine ⟨⟨_, rfl⟩, rfl, mm_WP.go [] 40 ⟨fun _ => ⟨fun c => ca (c_rf6 d) ⟨rfl, rfl⟩, fun c8 => ca (c_room d) ⟨fun c => ?_, fun c => ca (c_rf6 d) ⟨rfl, rfl⟩⟩⟩, fun c => absurd (Int32.not_lt.mp h1) c⟩⟩
  rcases hx with hx | ⟨k, hk, rfl, h40⟩
  · exact absurd hx c8
  · rw [e40, nI_leI (by omega) (by omega)] at c
    omega
theorem m_feed (d : Nat) {k : Nat} {b : Int64} (h : RI (X, Z, t, N, rf) A I) (h1 : 1 ≤ k) (hk : k ≤ 8) (hN : N + k ≤ 40) : sp (d + 2) 115 [.ref 38, .int (nI k), .long b] (gm L xs A I F P) (mQ L xs A I F P (X, Z, fdT t N b, N + k, rf) (.int (nI (N + k)))) := by
  obtain ⟨c1, c2, c3, c4, c5, c6⟩ := h
  have hI : I 38 15 = nI N := c4
  have key : ∀ i, i ≤ k → ∀ (x : Int32) (f : Nat → Int32), x = nI i → (∀ j, j < N → f j = A 49 j) → (∀ j, j < i → f (N + j) = nI (bb b j)) → wp (d + 1) (mm_Al 115) cd_Model_feed (mQ L xs A I F P (X, Z, fdT t N b, N + k, rf) (.int (nI (N + k)))) 39 [some (.ref 38), some (.int (nI k)), some (.long b), none, some (.int x)] [] (gm L xs (uR A 49 f) (uI I 38 15 (nI (N + i))) F P) := by
    refine rep k ?_ ?_
    · intro x f hx h1 h2
      exact mm_WP.go [39] 40 (lp_ge (N := k) hx rfl (by omega) (Nat.le_refl _) (fun _ => ⟨rfl, _, _, rfl, ⟨c1, c2, c3, rfl, txt_at c5 h1 h2, c6⟩, sC.rf.r (by decide) _, tC.rf.i (by decide) _ _⟩) (fun h => absurd h (by omega)))
    · intro i hi ih x f hx h1 h2
      subst hx
      have ix := ix_n (w := N + i) (N := 40) (by decide) (by omega)
      refine mm_WP.go [39] 60 (lp_ge (k := i) (N := k) rfl rfl (by omega) (by omega) (fun h => absurd h (by omega)) (fun _ => ⟨ix.1, trivial, ?_⟩))
      show wp (d + 1) (mm_Al 115) cd_Model_feed _ 39 [some (.ref 38), some (.int (nI k)), some (.long b), none, some (.int (nI i + 1))] [] (gm L xs (uR A 49 (upd f ((nI (N + i)).toNatClampNeg) ((b >>> ((8 * nI i).toInt64 &&& 63)) &&& 255).toInt32)) (uI I 38 15 (nI (N + i) + 1)) F P)
      rw [ix.2, by_m b (by omega), nI_1 (N + i)]
      refine ih _ _ (nI_1 i) (fun j hj => ?_) (fun j hj => ?_)
      · rw [upd_at, if_neg (by omega)]
        exact h1 j hj
      · rw [upd_at]
        by_cases c : j = i
        · rw [if_pos (by omega), c]
        · rw [if_neg (by omega)]
          exact h2 j (by omega)
  have h := key 0 (Nat.zero_le _) 0 (A 49) rfl (fun j _ => rfl) (fun j hj => absurd hj (Nat.not_lt_zero j))
  rw [show N + 0 = N from rfl, ← hI] at h
  refine ⟨⟨_, rfl⟩, rfl, mm_WP.go [39] 40 ⟨fun _ => ⟨fun c => ?_, fun _ => ⟨fun _ => h, fun c => ?_⟩⟩, fun c => ?_⟩⟩
  · rw [show (8 : Int32) = nI 8 from rfl, nI_ltI (by decide) (by omega)] at c
    omega
  · rw [hI, nI_add, show (40 : Int32) = nI 40 from rfl, nI_leI (by omega) (by omega)] at c
    omega
  · rw [show (1 : Int32) = nI 1 from rfl, nI_leI (by decide) (by omega)] at c
    omega
theorem m_feed_4 (d : Nat) {x : Int32} {b : Int64} (hx : x < 1) : sp (d + 2) 115 [.ref 38, .int x, .long b] (gm L xs A I F P) (rM L xs A I F P 4 (-4)) :=
  ⟨⟨_, rfl⟩, rfl, mm_WP.go [39] 40 ⟨fun c => absurd c (Int32.not_le.mpr hx), fun _ => ca (m_rf4 d) ⟨rfl, rfl⟩⟩⟩
theorem m_feed_6 (d : Nat) {x : Int32} {b : Int64} (h : RI (X, Z, t, N, rf) A I) (hN : N ≤ 40) (h1 : ¬ x < 1) (hx : 8 < x ∨ ∃ k, k ≤ 8 ∧ x = nI k ∧ 40 < N + k) : sp (d + 2) 115 [.ref 38, .int x, .long b] (gm L xs A I F P) (rM L xs A I F P 6 (-6)) := by
  have hI : I 38 15 = nI N := h.2.2.2.1
  refine ⟨⟨_, rfl⟩, rfl, mm_WP.go [39] 40 ⟨fun _ => ⟨fun c => ca (m_rf6 d) ⟨rfl, rfl⟩, fun c8 => ⟨fun c => ?_, fun c => ca (m_rf6 d) ⟨rfl, rfl⟩⟩⟩, fun c => absurd (Int32.not_lt.mp h1) c⟩⟩
  rcases hx with hx | ⟨k, hk, rfl, h40⟩
  · exact absurd hx c8
  · rw [hI, nI_add, show (40 : Int32) = nI 40 from rfl, nI_leI (by omega) (by omega)] at c
    omega
end M36
theorem i_le8 {x : Int32} (h1 : ¬ x < 1) (h8 : ¬ 8 < x) : ∃ k, 1 ≤ k ∧ k ≤ 8 ∧ x = nI k := by
  rw [fa_lt] at h1 h8
  have e1 : (1 : Int32).toInt = 1 := by decide
  have e8 : (8 : Int32).toInt = 8 := by decide
  obtain ⟨k, hk, rfl⟩ := vp_in_of (x := x) (n := 9) (vp_in_iff.mpr ⟨by omega, by omega⟩) (by decide)
  rw [nI_toInt (by omega)] at h1 h8
  exact ⟨k, by omega, by omega, rfl⟩
theorem bo_feed (d : Nat) {E : St} (hE : okE E) (x : Int32) (b : Int64) : ∃ v E2, bo (d + 2) 71 115 [.int x, .long b] E (.int v) E2 := by
  obtain ⟨X, Z, t, N, rf⟩ := E
  have hN : N ≤ 40 := hE.2.2.1
  have ht : ∀ i, i < N → t i < 256 := hE.2.2.2
  by_cases h1 : x < 1
  · exact bo_rf (k := 4) hE (by decide) (fun L xs A I F P h => c_feed_4 d h1) (fun L xs A I F P h => m_feed_4 d h1)
  by_cases h8 : 8 < x
  · exact bo_rf (k := 6) hE (by decide) (fun L xs A I F P h => c_feed_6 d h hN h1 (Or.inl h8)) (fun L xs A I F P h => m_feed_6 d h hN h1 (Or.inl h8))
  obtain ⟨k, hk1, hk8, rfl⟩ := i_le8 h1 h8
  by_cases h40 : 40 < N + k
  · exact bo_rf (k := 6) hE (by decide) (fun L xs A I F P h => c_feed_6 d h hN h1 (Or.inr ⟨k, hk8, rfl, h40⟩)) (fun L xs A I F P h => m_feed_6 d h hN h1 (Or.inr ⟨k, hk8, rfl, h40⟩))
  · refine ⟨nI (N + k), (X, Z, fdT t N b, N + k, rf), ⟨hE.1, hE.2.1, by show N + k ≤ 40; omega, fun i hi => ?_⟩, fun L xs A I F P h => c_feed d h hk1 hk8 (by omega), fun L xs A I F P h => m_feed d h hk1 hk8 (by omega)⟩
    show fdT t N b i < 256
    unfold fdT
    split
    · rename_i c
      exact ht i c
    · exact bb_lt
