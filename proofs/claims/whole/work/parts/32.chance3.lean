/-! calls, shortly; the faces of likelihood and chance -/
theorem ca {X : mm_Q → Prop} {a : Option Value} {mem : mm_M} {K : Option Value → mm_M → Prop} (h : X (fun r m => r = a ∧ m = mem)) (k : K a mem) : ∃ Q, X Q ∧ ∀ r m, Q r m → K r m := ⟨_, h, by rintro r m ⟨rfl, rfl⟩; exact k⟩
theorem cy {X : mm_Q → Prop} {C : Prop} {mem : mm_M} {K : Option Value → mm_M → Prop} (h : X (yes mem C)) (k1 : C → K (some (.int 1)) mem) (k0 : ¬ C → K (some (.int 0)) mem) : ∃ Q, X Q ∧ ∀ r m, Q r m → K r m := ⟨_, h, by
  rintro r m ⟨rfl, ⟨h, rfl⟩ | ⟨h, rfl⟩⟩
  · exact k1 h
  · exact k0 h⟩
/-- downwards: each from the next -/
theorem rep {R : Nat → Prop} (N : Nat) (hN : R N) (h : ∀ k, k < N → R (k + 1) → R k) : ∀ k, k ≤ N → R k := by
  have h2 : ∀ j k, j + k = N → R k := by
    intro j
    induction j with
    | zero =>
      intro k hk
      have : k = N := by omega
      subst this
      exact hN
    | succ j ih => exact fun k hk => h k (by omega) (ih (k + 1) (by omega))
  exact fun k hk => h2 (N - k) k (by omega)
section M11
variable {L : Nat} {xs : Nat → Int32} {A I : Nat → Nat → Int32} {F : Nat → Nat → Option Nat} {P : mm_M} {n : Nat} {H S : Nat → Nat → Bool}
abbrev rCL (L : Nat) (xs : Nat → Int32) (A I : Nat → Nat → Int32) (F : Nat → Nat → Option Nat) (P : mm_M) (k : Nat) (w : Int32) : mm_Q := fun r m => r = some (.long (-4000000000000000000 + w.toInt64)) ∧ m = gm L xs (uA A 20 k (A 20 k + 1)) I F P
abbrev rML (L : Nat) (xs : Nat → Int32) (A I : Nat → Nat → Int32) (F : Nat → Nat → Option Nat) (P : mm_M) (k : Nat) (w : Int32) : mm_Q := fun r m => r = some (.long (-4000000000000000000 + w.toInt64)) ∧ m = gm L xs (uA A 50 k (A 50 k + 1)) I F P
theorem c_likelihood (d : Nat) (hC : CS n H S A I) {wt : Nat → Nat} (hW : WT wt (A 28)) {hit miss : Nat} (hHt : I 21 6 = nI hit) (hh : hit ≤ 100) (hM : I 21 7 = nI miss) (hmi : miss ≤ 100) {w m : Nat} (hw : w < 6) (hm : m < 90) : sp (d + 4) 92 [.ref 6, .int (nI w), .int (nI m)] (gm L xs A I F P) (fun r m1 => r = some (.long (lN (LK n H S wt hit miss w m))) ∧ m1 = gm L xs A I F P) := by
  refine ⟨⟨_, rfl⟩, rfl, mm_WP.go [] 100 (cy (c_noWord (d + 2) _ _) (fun h => absurd (ix_n (N := 6) (by decide) hw).1 h) (fun _ => ?_))⟩
  refine n0 (cy (c_noMeaning (d + 2) _ _) (fun h => absurd (ix_n (N := 90) (by decide) hm).1 h) (fun _ => ?_))
  refine e0 (ca (c_of d hC hW hHt hh hM hmi hw hm) ?_)
  exact ⟨rfl, rfl⟩
theorem c_likelihood_r (d : Nat) {w m : Int32} (hh : ¬ (vp_in w 6 ∧ vp_in m 90)) : sp (d + 4) 92 [.ref 6, .int w, .int m] (gm L xs A I F P) (rCL L xs A I F P 1 (-1)) := by
  refine ⟨⟨_, rfl⟩, rfl, mm_WP.go [] 100 (cy (c_noWord (d + 2) _ _) (fun h => ?_) (fun h => ?_))⟩
  · exact n1 (ca (c_rf1 (d + 2)) ⟨rfl, rfl⟩)
  · refine n0 (cy (c_noMeaning (d + 2) _ _) (fun h2 => ?_) (fun h2 => ?_))
    · exact e1 (ca (c_rf1 (d + 2)) ⟨rfl, rfl⟩)
    · exact absurd ⟨Classical.not_not.mp h, Classical.not_not.mp h2⟩ hh
theorem m_likelihood (d : Nat) (hR : RS n H S A I) {wt : Nat → Nat} (hW : WT wt (A 45)) {hit miss : Nat} (hHt : I 38 8 = nI hit) (hh : hit ≤ 100) (hM : I 38 9 = nI miss) (hmi : miss ≤ 100) {w m : Nat} (hw : w < 6) (hm : m < 90) : sp (d + 4) 145 [.ref 38, .int (nI w), .int (nI m)] (gm L xs A I F P) (fun r m1 => r = some (.long (lN (LK n H S wt hit miss w m))) ∧ m1 = gm L xs A I F P) := by
  refine ⟨⟨_, rfl⟩, rfl, mm_WP.go [] 100 (cy (m_isWord (d + 1) _ _) (fun _ => ?_) (fun h => absurd (ix_n (N := 6) (by decide) hw).1 h))⟩
  refine e1 (cy (m_isMeaning (d + 1) _ _) (fun _ => ?_) (fun h => absurd (ix_n (N := 90) (by decide) hm).1 h))
  refine e1 (ca (m_lo (d + 1) hR hW hHt hh hM hmi hw hm) ?_)
  exact ⟨rfl, rfl⟩
theorem m_likelihood_r (d : Nat) {w m : Int32} (hh : ¬ (vp_in w 6 ∧ vp_in m 90)) : sp (d + 4) 145 [.ref 38, .int w, .int m] (gm L xs A I F P) (rML L xs A I F P 1 (-1)) := by
  refine ⟨⟨_, rfl⟩, rfl, mm_WP.go [] 100 (cy (m_isWord (d + 1) _ _) (fun h => ?_) (fun h => ?_))⟩
  · refine e1 (cy (m_isMeaning (d + 1) _ _) (fun h2 => absurd ⟨h, h2⟩ hh) (fun h2 => ?_))
    exact e0 (ca (m_rf1 (d + 2)) ⟨rfl, rfl⟩)
  · exact e0 (ca (m_rf1 (d + 2)) ⟨rfl, rfl⟩)
theorem c_chance (d : Nat) (hC : CS n H S A I) {wt : Nat → Nat} (hW : WT wt (A 28)) {hit miss : Nat} (hHt : I 21 6 = nI hit) (hh : hit ≤ 100) (hM : I 21 7 = nI miss) (hmi : miss ≤ 100) {w m pt : Nat} (hw : w < 6) (hm : m < 90) (hp : pt < 2) : sp (d + 6) 93 [.ref 6, .int (nI w), .int (nI m), .int (nI pt)] (gm L xs A I F P) (fun r m1 => r = some (.long (lN (ch (LK n H S wt hit miss w m) (LL n H S wt hit miss w) pt))) ∧ m1 = gm L xs A I F P) := by
  have hp : pt = 0 ∨ pt = 1 := by omega
  have key : wp (d + 5) (mm_Al 93) cd_Word_chance (fun r m1 => r = some (.long (lN (ch (LK n H S wt hit miss w m) (LL n H S wt hit miss w) pt))) ∧ m1 = gm L xs A I F P) 21 [some (.ref 6), some (.int (nI w)), some (.int (nI m)), some (.int (nI pt))] [] (gm L xs A I F P) := by
    refine mm_WP.go [] 100 (cy (c_noWord (d + 4) _ _) (fun h => absurd (ix_n (N := 6) (by decide) hw).1 h) (fun _ => ?_))
    refine n0 (cy (c_noMeaning (d + 4) _ _) (fun h => absurd (ix_n (N := 90) (by decide) hm).1 h) (fun _ => ?_))
    rcases hp with rfl | rfl
    · exact e0 (n0 (ca (c_above d hC hW hHt hh hM hmi hw hm) ⟨rfl, rfl⟩))
    · exact e0 (n1 (ca (c_below d hC hW hHt hh hM hmi hw hm) ⟨rfl, rfl⟩))
  rcases hp with rfl | rfl
  · exact ⟨⟨_, rfl⟩, rfl, mm_WP.go [21] 100 (e0 key)⟩
  · exact ⟨⟨_, rfl⟩, rfl, mm_WP.go [21] 100 (e1 ⟨fun _ => key, fun c => absurd rfl c⟩)⟩
theorem c_chance_2 (d : Nat) {w m pt : Int32} (hp : ¬ vp_in pt 2) : sp (d + 6) 93 [.ref 6, .int w, .int m, .int pt] (gm L xs A I F P) (rCL L xs A I F P 2 (-2)) := by
  refine ⟨⟨_, rfl⟩, rfl, mm_WP.go [21] 100 ⟨fun c => ?_, fun c => ⟨fun c2 => ?_, fun c2 => ?_⟩⟩⟩
  · exact absurd (c ▸ vp_in_iff.mpr (by decide)) hp
  · exact absurd (c2 ▸ vp_in_iff.mpr (by decide)) hp
  · exact ca (c_rf2 (d + 4)) ⟨rfl, rfl⟩
theorem c_chance_1 (d : Nat) {w m pt : Int32} (hp : vp_in pt 2) (hh : ¬ (vp_in w 6 ∧ vp_in m 90)) : sp (d + 6) 93 [.ref 6, .int w, .int m, .int pt] (gm L xs A I F P) (rCL L xs A I F P 1 (-1)) := by
  have key : wp (d + 5) (mm_Al 93) cd_Word_chance (rCL L xs A I F P 1 (-1)) 21 [some (.ref 6), some (.int w), some (.int m), some (.int pt)] [] (gm L xs A I F P) := by
    refine mm_WP.go [] 100 (cy (c_noWord (d + 4) _ _) (fun h => ?_) (fun h => ?_))
    · exact n1 (ca (c_rf1 (d + 4)) ⟨rfl, rfl⟩)
    · refine n0 (cy (c_noMeaning (d + 4) _ _) (fun h2 => ?_) (fun h2 => ?_))
      · exact e1 (ca (c_rf1 (d + 4)) ⟨rfl, rfl⟩)
      · exact absurd ⟨Classical.not_not.mp h, Classical.not_not.mp h2⟩ hh
  refine ⟨⟨_, rfl⟩, rfl, mm_WP.go [21] 100 ⟨fun _ => key, fun c => ⟨fun _ => key, fun c2 => ?_⟩⟩⟩
  obtain ⟨k, hk, rfl⟩ := vp_in_of hp (by decide)
  have : k = 0 ∨ k = 1 := by omega
  rcases this with rfl | rfl
  · exact absurd rfl c
  · exact absurd rfl c2
theorem in_01 {s : Int32} : ((0 : Int64) ≤ s.toInt64 ∧ s.toInt64 ≤ 1) ↔ vp_in s 2 := in_vp (b := 1) (n := 2) rfl
theorem m_chance_loop {d : Nat} {B : Nat × Nat} {Q : mm_Q} (hR : RS n H S A I) {wt : Nat → Nat} (hW : WT wt (A 45)) {hit miss : Nat} (hHt : I 38 8 = nI hit) (hh : hit ≤ 100) (hM : I 38 9 = nI miss) (hmi : miss ≤ 100) {w m pt : Nat} (hw : w < 6) (hm : m < 90) (hp : pt < 2) (hq : Q (some (.long (lN (ch (LK n H S wt hit miss w m) (LL n H S wt hit miss w) pt)))) (gm L xs A I F P)) :
    ∀ (j k : Nat) (x : Int32) (y : Int64), j + k = 90 → x = nI k → y = lN (fb_sm (fun m => LK n H S wt hit miss w m) k) → wp (d + 2) B cd_Model_chance Q 53 [some (.ref 38), some (.int (nI w)), some (.int (nI m)), some (.int (nI pt)), some (.long y), none, some (.int x), none, none, none] [] (gm L xs A I F P) := by
  have l1 := LK_le (n := n) (H := H) (S := S) (w := w) (m := m) (hW (kd m) (kd_lt m)).2.2 hh hmi
  have l2 := LL_le (n := n) (H := H) (S := S) (w := w) (fun k hk => (hW k hk).2.2) hh hmi
  intro j
  induction j with
  | zero =>
    intro k x y hj hx hy
    refine mm_WP.go [53] 100 (lp_ge (N := 90) hx rfl (by omega) (by omega) (fun h => ?_) (fun h => absurd h (by omega)))
    subst h
    subst hy
    refine ca (m_lo d hR hW hHt hh hM hmi hw hm) ?_
    change Q (some (.long (lN (ch _ (fb_sm (fun m => LK n H S wt hit miss w m) 90) pt)))) _ at hq
    change fb_sm (fun m => LK n H S wt hit miss w m) 90 ≤ _ at l2
    generalize fb_sm (fun m => LK n H S wt hit miss w m) 90 = all at *
    have hle : LK n H S wt hit miss w m = 0 ∨ LK n H S wt hit miss w m ≠ 0 := by omega
    generalize LK n H S wt hit miss w m = v at *
    have hv : v < 2 ^ 63 := Nat.lt_of_le_of_lt l1 (by decide)
    have ha : all < 2 ^ 63 := Nat.lt_of_le_of_lt l2 (by decide)
    have hp : pt = 0 ∨ pt = 1 := by omega
    unfold ch at hq
    refine ⟨fun c => ?_, fun c => ?_⟩
    · have h0 : v ≠ 0 := fun h => c ((lcmp_z hv).mpr h)
      rw [if_neg h0] at hq
      refine ca (m_gcd (d + 1) hv ha _) ?_
      have hg : Nat.gcd v all < 2 ^ 63 := Nat.lt_of_le_of_lt (Nat.gcd_le_left _ (by omega)) hv
      have hg0 : Nat.gcd v all ≠ 0 := fun h => h0 (Nat.eq_zero_of_gcd_eq_zero_left h)
      rcases hp with rfl | rfl
      · rw [if_pos rfl, ← pk_lDiv hv (by omega) hg] at hq
        exact n0 ⟨lN_nz hg hg0, hq⟩
      · rw [if_neg (by decide), ← pk_lDiv ha (by omega) hg] at hq
        exact n1 ⟨lN_nz hg hg0, hq⟩
    · have h0 := (lcmp_z hv).mp c
      rw [if_pos h0] at hq
      rcases hp with rfl | rfl
      · exact hq
      · exact hq
  | succ j ih =>
    intro k x y hj hx hy
    refine mm_WP.go [53] 100 (lp_ge (N := 90) hx rfl (by omega) (by omega) (fun h => absurd h (by omega)) (fun _ => ?_))
    subst hx
    refine ca (m_lo d hR hW hHt hh hM hmi hw (show k < 90 by omega)) ?_
    refine ih (k + 1) _ _ (by omega) (nI_1 k) ?_
    rw [hy, lN_add, fb_sm_succ]
theorem m_chance (d : Nat) (hR : RS n H S A I) {wt : Nat → Nat} (hW : WT wt (A 45)) {hit miss : Nat} (hHt : I 38 8 = nI hit) (hh : hit ≤ 100) (hM : I 38 9 = nI miss) (hmi : miss ≤ 100) {w m pt : Nat} (hw : w < 6) (hm : m < 90) (hp : pt < 2) : sp (d + 6) 147 [.ref 38, .int (nI w), .int (nI m), .int (nI pt)] (gm L xs A I F P) (fun r m1 => r = some (.long (lN (ch (LK n H S wt hit miss w m) (LL n H S wt hit miss w) pt))) ∧ m1 = gm L xs A I F P) := by
  refine ⟨⟨_, rfl⟩, rfl, mm_WP.go [53] 100 (cy (m_in (d + 4) _ _ _ _) (fun _ => ?_) (fun h => absurd (in_01.mpr (ix_n (N := 2) (by decide) hp).1) h))⟩
  refine n1 (cy (m_isWord (d + 3) _ _) (fun _ => ?_) (fun h => absurd (ix_n (N := 6) (by decide) hw).1 h))
  refine e1 (cy (m_isMeaning (d + 3) _ _) (fun _ => ?_) (fun h => absurd (ix_n (N := 90) (by decide) hm).1 h))
  exact n1 (m_chance_loop (d := d + 3) hR hW hHt hh hM hmi hw hm hp ⟨rfl, rfl⟩ 90 0 _ _ rfl rfl rfl)
theorem m_chance_2 (d : Nat) {w m pt : Int32} (hp : ¬ vp_in pt 2) : sp (d + 6) 147 [.ref 38, .int w, .int m, .int pt] (gm L xs A I F P) (rML L xs A I F P 2 (-2)) := by
  refine ⟨⟨_, rfl⟩, rfl, mm_WP.go [53] 100 (cy (m_in (d + 4) _ _ _ _) (fun h => absurd (in_01.mp h) hp) (fun _ => ?_))⟩
  exact n0 (ca (m_rf2 (d + 4)) ⟨rfl, rfl⟩)
theorem m_chance_1 (d : Nat) {w m pt : Int32} (hp : vp_in pt 2) (hh : ¬ (vp_in w 6 ∧ vp_in m 90)) : sp (d + 6) 147 [.ref 38, .int w, .int m, .int pt] (gm L xs A I F P) (rML L xs A I F P 1 (-1)) := by
  refine ⟨⟨_, rfl⟩, rfl, mm_WP.go [53] 100 (cy (m_in (d + 4) _ _ _ _) (fun _ => ?_) (fun h => absurd (in_01.mpr hp) h))⟩
  refine n1 (cy (m_isWord (d + 3) _ _) (fun h => ?_) (fun h => ?_))
  · refine e1 (cy (m_isMeaning (d + 3) _ _) (fun h2 => absurd ⟨h, h2⟩ hh) (fun h2 => ?_))
    exact n0 (ca (m_rf1 (d + 4)) ⟨rfl, rfl⟩)
  · exact e0 (ca (m_rf1 (d + 4)) ⟨rfl, rfl⟩)
end M11
