/-! the constructors -/
def mP (L : Nat) (xs : Nat → Int32) (R : mm_M) : mm_M := .inl (0, L, .inl xs) :: .inl (0, 8, .inl (fun j => mm_t1.getD j 0)) :: .inl (0, 15, .inl (fun j => mm_t2.getD j 0)) :: .inl (0, 6, .inl (fun j => mm_t3.getD j 0)) :: .inl (0, 6, .inl (fun j => mm_t4.getD j 0)) :: .inl (0, 6, .inl (fun j => mm_t5.getD j 0)) :: R
theorem nth_set_eq {α : Type} : ∀ {l : List α} {r : Nat} {v w : α}, mm_nth l r = some w → mm_nth (mm_set l r v) r = some v
  | [], _, _, _, h => by cases h
  | _ :: _, 0, _, _, _ => rfl
  | _ :: t, r + 1, _, _, h => nth_set_eq (l := t) (r := r) h
theorem set_set {α : Type} : ∀ {l : List α} {r : Nat} {v w : α}, mm_set (mm_set l r v) r w = mm_set l r w
  | [], _, _, _ => rfl
  | _ :: _, 0, _, _ => rfl
  | a :: t, r + 1, _, _ => congrArg (a :: ·) (set_set (l := t) (r := r))
theorem set_same {α : Type} : ∀ {l : List α} {r : Nat} {v : α}, mm_nth l r = some v → mm_set l r v = l
  | [], _, _, h => by cases h
  | _ :: _, 0, _, h => by cases h; rfl
  | a :: t, r + 1, _, h => congrArg (a :: ·) (set_same (l := t) (r := r) h)
theorem k_fill (d : Nat) {mem : mm_M} {r N : Nat} {g : Nat → Int32} {v : Int32} (h6 : Nat.ble 6 r = true) (h : mm_nth mem r = some (.inl (0, N, .inl g))) (hN : N < 2 ^ 31) : sp (d + 1) 182 [.ref r, .int v] mem (fun q m => q = none ∧ ∃ f, (∀ i, i < N → f i = v) ∧ m = mm_set mem r (.inl (0, N, .inl f))) := by
  have key : ∀ k, k ≤ N → ∀ (x : Int32) (f : Nat → Int32), x = nI k → (∀ i, i < k → f i = v) → wp d (mm_Al 182) cd_Arrays_fill (fun q m => q = none ∧ ∃ f, (∀ i, i < N → f i = v) ∧ m = mm_set mem r (.inl (0, N, .inl f))) 5 [some (.ref r), some (.int v), some (.int x), some (.int (nI N))] [] (mm_set mem r (.inl (0, N, .inl f))) := by
    refine rep N ?_ ?_
    · intro x f hx hf
      exact mm_WP.go [5] 20 (lp_ge (N := N) hx rfl hN (Nat.le_refl _) (fun _ => ⟨rfl, f, hf, rfl⟩) (fun h => absurd h (by omega)))
    · intro k hk ih x f hx hf
      subst hx
      have ix := ix_n hN hk
      refine mm_WP.go [5, 13] 20 (lp_ge (k := k) (N := N) rfl rfl hN (by omega) (fun h => absurd h (by omega)) (fun _ => w_is rfl h6 (nth_set_eq h) ix.1 ?_))
      rw [set_set, ix.2]
      refine mm_WP.go [5] 20 (ih _ _ (nI_1 k) (fun i hi => ?_))
      rw [upd_at]
      by_cases c : i = k
      · rw [if_pos c]
      · rw [if_neg c]
        exact hf i (by omega)
  refine ⟨trivial, rfl, mm_WP.go [3] 20 (w_al rfl h (mm_WP.go [5] 20 ?_))⟩
  have h2 := key 0 (Nat.zero_le _) 0 g rfl (fun i hi => absurd hi (Nat.not_lt_zero i))
  rw [set_same h] at h2
  exact h2
section K0
variable {L : Nat} {xs : Nat → Int32}
theorem k_text (d : Nat) {c6 : va_E} : sp (d + 1) 36 [.ref 7] (mP L xs [c6, .inr (4, mm_Df 4)]) (fun r m => r = none ∧ m = mP L xs [c6, .inr (4, [.ref 8, .int 0, .int 0]), .inl (0, 40, .inl (fun _ => 0))]) := by
  refine ⟨⟨_, rfl⟩, rfl, mm_WP.go [9] 20 ⟨by decide, rfl, ⟨by decide, by decide⟩, fun r hr => ?_⟩⟩
  have hr : r = 8 := hr
  subst hr
  exact mm_WP.go [] 20 ⟨trivial, trivial, trivial, rfl, rfl⟩
theorem k_scene_9 (d : Nat) {c6 c7 c8 c9 : va_E} : sp (d + 1) 27 [.ref 10] (mP L xs [c6, c7, c8, c9, .inr (3, mm_Df 3)]) (fun r m => r = none ∧ m = mP L xs [c6, c7, c8, c9, .inr (3, [.ref 11, .ref 12, .int 0, .int 0]), .inl (0, 4, .inl (fun _ => 0)), .inl (0, 3, .inl (fun _ => 0))]) := by
  refine ⟨⟨_, rfl⟩, rfl, mm_WP.go [8] 20 ⟨by decide, rfl, ⟨by decide, by decide⟩, fun r hr => ?_⟩⟩
  have hr : r = 11 := hr
  subst hr
  refine mm_WP.go [15] 20 ⟨trivial, rfl, ⟨by decide, by decide⟩, fun r hr => ?_⟩
  have hr : r = 12 := hr
  subst hr
  exact mm_WP.go [] 20 ⟨trivial, trivial, trivial, rfl, rfl⟩
set_option maxRecDepth 20000 in
theorem k_told_9 (d : Nat) {c6 c7 c8 : va_E} : sp (d + 2) 49 [.ref 9] (mP L xs [c6, c7, c8, .inr (5, mm_Df 5)]) (fun r m => r = none ∧ ∃ g f7 f8, (∀ i, i < 24 → g i = some 10) ∧ (∀ i, i < 8 → f7 i = 10) ∧ (∀ i, i < 6 → f8 i = -9) ∧ m = mP L xs [c6, c7, c8, .inr (5, [.ref 10, .ref 13, .int 0, .ref 14, .ref 15, .ref 16, .int 90, .int 10, .ref 17, .ref 18, .ref 19, .int 0]), .inr (3, [.ref 11, .ref 12, .int 0, .int 0]), .inl (0, 4, .inl (fun _ => 0)), .inl (0, 3, .inl (fun _ => 0)), .inl (2, 24, .inr (.inr (.inr (.inr g)))), .inl (0, 90, .inl (fun _ => 0)), .inl (0, 6, .inl (fun _ => 0)), .inl (0, 8, .inl f7), .inl (0, 6, .inl f8), .inl (0, 20, .inl (fun _ => 0)), .inl (0, 20, .inl (fun _ => 0))]) := by
  have key : ∀ k, k ≤ 24 → ∀ (x : Int32) (g : Nat → Option Nat), x = nI k → (∀ i, i < k → g i = some 10) → wq (d + 1) (mm_Al 49) cd_Told_init (fun r m => r = none ∧ ∃ g f7 f8, (∀ i, i < 24 → g i = some 10) ∧ (∀ i, i < 8 → f7 i = 10) ∧ (∀ i, i < 6 → f8 i = -9) ∧ m = mP L xs [c6, c7, c8, .inr (5, [.ref 10, .ref 13, .int 0, .ref 14, .ref 15, .ref 16, .int 90, .int 10, .ref 17, .ref 18, .ref 19, .int 0]), .inr (3, [.ref 11, .ref 12, .int 0, .int 0]), .inl (0, 4, .inl (fun _ => 0)), .inl (0, 3, .inl (fun _ => 0)), .inl (2, 24, .inr (.inr (.inr (.inr g)))), .inl (0, 90, .inl (fun _ => 0)), .inl (0, 6, .inl (fun _ => 0)), .inl (0, 8, .inl f7), .inl (0, 6, .inl f8), .inl (0, 20, .inl (fun _ => 0)), .inl (0, 20, .inl (fun _ => 0))]) 96 [some (.ref 9), some (.int x)] [] (mP L xs [c6, c7, c8, .inr (5, [.ref 10, .ref 13, .int 0, .ref 14, .ref 15, .ref 16, .int 90, .int 10, .ref 17, .ref 18, .ref 19, .int 0]), .inr (3, [.ref 11, .ref 12, .int 0, .int 0]), .inl (0, 4, .inl (fun _ => 0)), .inl (0, 3, .inl (fun _ => 0)), .inl (2, 24, .inr (.inr (.inr (.inr g)))), .inl (0, 90, .inl (fun _ => 0)), .inl (0, 6, .inl (fun _ => 0)), .inl (0, 8, .inl (fun _ => 0)), .inl (0, 6, .inl (fun _ => 0)), .inl (0, 20, .inl (fun _ => 0)), .inl (0, 20, .inl (fun _ => 0))]) 10 185 := by
    refine rep 24 ?_ ?_
    · intro x g hx hg
      refine mm_WP.go [96, 127] 40 (lp_ge (N := 24) hx rfl (by decide) (by decide) (fun _ => ?_) (fun h => absurd h (by decide)))
      refine mm_WP.go [130] 20 ⟨_, k_fill d rfl rfl (by decide), ?_⟩
      rintro r m ⟨rfl, f7, h7, rfl⟩
      show wq (d + 1) (mm_Al 49) cd_Told_init _ 130 [some (.ref 9), some (.int x)] [] (mP L xs [c6, c7, c8, .inr (5, [.ref 10, .ref 13, .int 0, .ref 14, .ref 15, .ref 16, .int 90, .int 10, .ref 17, .ref 18, .ref 19, .int 0]), .inr (3, [.ref 11, .ref 12, .int 0, .int 0]), .inl (0, 4, .inl (fun _ => 0)), .inl (0, 3, .inl (fun _ => 0)), .inl (2, 24, .inr (.inr (.inr (.inr g)))), .inl (0, 90, .inl (fun _ => 0)), .inl (0, 6, .inl (fun _ => 0)), .inl (0, 8, .inl f7), .inl (0, 6, .inl (fun _ => 0)), .inl (0, 20, .inl (fun _ => 0)), .inl (0, 20, .inl (fun _ => 0))]) 10 185
      refine mm_WP.go [136] 20 ?_
      refine mm_WP.go [139] 20 ⟨_, k_fill d rfl rfl (by decide), ?_⟩
      rintro r m ⟨rfl, f8, h8, rfl⟩
      exact mm_WP.go [] 20 ⟨rfl, g, f7, f8, hg, h7, h8, rfl⟩
    · intro k hk ih x g hx hg
      subst hx
      have ik := ix_n (w := k) (N := 24) (by decide) hk
      refine mm_WP.go [96] 40 (lp_ge (k := k) (N := 24) rfl rfl (by decide) (by omega) (fun h => absurd h (by omega)) (fun _ => ⟨ik.1, ⟨_, rfl⟩, ?_⟩))
      show wq (d + 1) (mm_Al 49) cd_Told_init _ 96 [some (.ref 9), some (.int (nI k + 1))] [] (mP L xs [c6, c7, c8, .inr (5, [.ref 10, .ref 13, .int 0, .ref 14, .ref 15, .ref 16, .int 90, .int 10, .ref 17, .ref 18, .ref 19, .int 0]), .inr (3, [.ref 11, .ref 12, .int 0, .int 0]), .inl (0, 4, .inl (fun _ => 0)), .inl (0, 3, .inl (fun _ => 0)), .inl (2, 24, .inr (.inr (.inr (.inr (va_up g ((nI k).toNatClampNeg) (some 10)))))), .inl (0, 90, .inl (fun _ => 0)), .inl (0, 6, .inl (fun _ => 0)), .inl (0, 8, .inl (fun _ => 0)), .inl (0, 6, .inl (fun _ => 0)), .inl (0, 20, .inl (fun _ => 0)), .inl (0, 20, .inl (fun _ => 0))]) 10 185
      rw [ik.2]
      refine ih _ _ (nI_1 k) (fun i hi => ?_)
      show (if i = k then some 10 else g i) = some 10
      by_cases e : i = k
      · rw [if_pos e]
      · rw [if_neg e]
        exact hg i (by omega)
  refine ⟨⟨_, rfl⟩, rfl, mm_WP.go [9] 20 ⟨by decide, ⟨by decide, by decide⟩, fun r hr => ?_⟩⟩
  have hr : r = 10 := hr
  subst hr
  show wq (d + 1) (mm_Al 49) cd_Told_init _ 9 [some (.ref 9), none] [.ref 10, .ref 10, .ref 9] (mP L xs [c6, c7, c8, .inr (5, [.null, .null, .int 0, .null, .null, .null, .int 0, .int 0, .null, .null, .null, .int 0]), .inr (3, mm_Df 3)]) 1 4
  refine mm_WP.go [12] 20 ⟨⟨by decide, by decide⟩, ca (k_scene_9 d) ?_⟩
  show wq (d + 1) (mm_Al 49) cd_Told_init _ 12 [some (.ref 9), none] [.ref 10, .ref 9] (mP L xs [c6, c7, c8, .inr (5, [.null, .null, .int 0, .null, .null, .null, .int 0, .int 0, .null, .null, .null, .int 0]), .inr (3, [.ref 11, .ref 12, .int 0, .int 0]), .inl (0, 4, .inl (fun _ => 0)), .inl (0, 3, .inl (fun _ => 0))]) 3 11
  refine mm_WP.go [21] 20 ⟨trivial, rfl, ⟨by decide, by decide⟩, fun r hr => ?_⟩
  have hr : r = 13 := hr
  subst hr
  show wq (d + 1) (mm_Al 49) cd_Told_init _ 21 [some (.ref 9), none] [.ref 13, .ref 9] (mP L xs [c6, c7, c8, .inr (5, [.ref 10, .null, .int 0, .null, .null, .null, .int 0, .int 0, .null, .null, .null, .int 0]), .inr (3, [.ref 11, .ref 12, .int 0, .int 0]), .inl (0, 4, .inl (fun _ => 0)), .inl (0, 3, .inl (fun _ => 0)), .inl (2, 24, .inr (.inr (.inr (.inr (fun _ => none)))))]) 4 35
  refine mm_WP.go [34] 20 ⟨trivial, trivial, rfl, ⟨by decide, by decide⟩, fun r hr => ?_⟩
  have hr : r = 14 := hr
  subst hr
  show wq (d + 1) (mm_Al 49) cd_Told_init _ 34 [some (.ref 9), none] [.ref 14, .ref 9] (mP L xs [c6, c7, c8, .inr (5, [.ref 10, .ref 13, .int 0, .null, .null, .null, .int 0, .int 0, .null, .null, .null, .int 0]), .inr (3, [.ref 11, .ref 12, .int 0, .int 0]), .inl (0, 4, .inl (fun _ => 0)), .inl (0, 3, .inl (fun _ => 0)), .inl (2, 24, .inr (.inr (.inr (.inr (fun _ => none))))), .inl (0, 90, .inl (fun _ => 0))]) 5 125
  refine mm_WP.go [42] 20 ⟨trivial, rfl, ⟨by decide, by decide⟩, fun r hr => ?_⟩
  have hr : r = 15 := hr
  subst hr
  show wq (d + 1) (mm_Al 49) cd_Told_init _ 42 [some (.ref 9), none] [.ref 15, .ref 9] (mP L xs [c6, c7, c8, .inr (5, [.ref 10, .ref 13, .int 0, .ref 14, .null, .null, .int 0, .int 0, .null, .null, .null, .int 0]), .inr (3, [.ref 11, .ref 12, .int 0, .int 0]), .inl (0, 4, .inl (fun _ => 0)), .inl (0, 3, .inl (fun _ => 0)), .inl (2, 24, .inr (.inr (.inr (.inr (fun _ => none))))), .inl (0, 90, .inl (fun _ => 0)), .inl (0, 6, .inl (fun _ => 0))]) 6 131
  refine mm_WP.go [50] 20 ⟨trivial, rfl, ⟨by decide, by decide⟩, fun r hr => ?_⟩
  have hr : r = 16 := hr
  subst hr
  show wq (d + 1) (mm_Al 49) cd_Told_init _ 50 [some (.ref 9), none] [.ref 16, .ref 9] (mP L xs [c6, c7, c8, .inr (5, [.ref 10, .ref 13, .int 0, .ref 14, .ref 15, .null, .int 0, .int 0, .null, .null, .null, .int 0]), .inr (3, [.ref 11, .ref 12, .int 0, .int 0]), .inl (0, 4, .inl (fun _ => 0)), .inl (0, 3, .inl (fun _ => 0)), .inl (2, 24, .inr (.inr (.inr (.inr (fun _ => none))))), .inl (0, 90, .inl (fun _ => 0)), .inl (0, 6, .inl (fun _ => 0)), .inl (0, 8, .inl (fun _ => 0))]) 7 139
  refine mm_WP.go [70] 20 ⟨trivial, trivial, trivial, rfl, ⟨by decide, by decide⟩, fun r hr => ?_⟩
  have hr : r = 17 := hr
  subst hr
  show wq (d + 1) (mm_Al 49) cd_Told_init _ 70 [some (.ref 9), none] [.ref 17, .ref 9] (mP L xs [c6, c7, c8, .inr (5, [.ref 10, .ref 13, .int 0, .ref 14, .ref 15, .ref 16, .int 90, .int 10, .null, .null, .null, .int 0]), .inr (3, [.ref 11, .ref 12, .int 0, .int 0]), .inl (0, 4, .inl (fun _ => 0)), .inl (0, 3, .inl (fun _ => 0)), .inl (2, 24, .inr (.inr (.inr (.inr (fun _ => none))))), .inl (0, 90, .inl (fun _ => 0)), .inl (0, 6, .inl (fun _ => 0)), .inl (0, 8, .inl (fun _ => 0)), .inl (0, 6, .inl (fun _ => 0))]) 8 145
  refine mm_WP.go [78] 20 ⟨trivial, rfl, ⟨by decide, by decide⟩, fun r hr => ?_⟩
  have hr : r = 18 := hr
  subst hr
  show wq (d + 1) (mm_Al 49) cd_Told_init _ 78 [some (.ref 9), none] [.ref 18, .ref 9] (mP L xs [c6, c7, c8, .inr (5, [.ref 10, .ref 13, .int 0, .ref 14, .ref 15, .ref 16, .int 90, .int 10, .ref 17, .null, .null, .int 0]), .inr (3, [.ref 11, .ref 12, .int 0, .int 0]), .inl (0, 4, .inl (fun _ => 0)), .inl (0, 3, .inl (fun _ => 0)), .inl (2, 24, .inr (.inr (.inr (.inr (fun _ => none))))), .inl (0, 90, .inl (fun _ => 0)), .inl (0, 6, .inl (fun _ => 0)), .inl (0, 8, .inl (fun _ => 0)), .inl (0, 6, .inl (fun _ => 0)), .inl (0, 20, .inl (fun _ => 0))]) 9 165
  refine mm_WP.go [86] 20 ⟨trivial, rfl, ⟨by decide, by decide⟩, fun r hr => ?_⟩
  have hr : r = 19 := hr
  subst hr
  show wq (d + 1) (mm_Al 49) cd_Told_init _ 86 [some (.ref 9), none] [.ref 19, .ref 9] (mP L xs [c6, c7, c8, .inr (5, [.ref 10, .ref 13, .int 0, .ref 14, .ref 15, .ref 16, .int 90, .int 10, .ref 17, .ref 18, .null, .int 0]), .inr (3, [.ref 11, .ref 12, .int 0, .int 0]), .inl (0, 4, .inl (fun _ => 0)), .inl (0, 3, .inl (fun _ => 0)), .inl (2, 24, .inr (.inr (.inr (.inr (fun _ => none))))), .inl (0, 90, .inl (fun _ => 0)), .inl (0, 6, .inl (fun _ => 0)), .inl (0, 8, .inl (fun _ => 0)), .inl (0, 6, .inl (fun _ => 0)), .inl (0, 20, .inl (fun _ => 0)), .inl (0, 20, .inl (fun _ => 0))]) 10 185
  refine mm_WP.go [96] 20 ⟨trivial, trivial, ?_⟩
  exact key 0 (by decide) 0 (fun _ => none) rfl (fun i hi => absurd hi (Nat.not_lt_zero i))
theorem k_scene_21 (d : Nat) {c6 c7 c8 c9 c10 c11 c12 c13 c14 c15 c16 c17 c18 c19 c20 c21 : va_E} : sp (d + 1) 27 [.ref 22] (mP L xs [c6, c7, c8, c9, c10, c11, c12, c13, c14, c15, c16, c17, c18, c19, c20, c21, .inr (3, mm_Df 3)]) (fun r m => r = none ∧ m = mP L xs [c6, c7, c8, c9, c10, c11, c12, c13, c14, c15, c16, c17, c18, c19, c20, c21, .inr (3, [.ref 23, .ref 24, .int 0, .int 0]), .inl (0, 4, .inl (fun _ => 0)), .inl (0, 3, .inl (fun _ => 0))]) := by
  refine ⟨⟨_, rfl⟩, rfl, mm_WP.go [8] 20 ⟨by decide, rfl, ⟨by decide, by decide⟩, fun r hr => ?_⟩⟩
  have hr : r = 23 := hr
  subst hr
  refine mm_WP.go [15] 20 ⟨trivial, rfl, ⟨by decide, by decide⟩, fun r hr => ?_⟩
  have hr : r = 24 := hr
  subst hr
  exact mm_WP.go [] 20 ⟨trivial, trivial, trivial, rfl, rfl⟩
set_option maxRecDepth 20000 in
theorem k_told_21 (d : Nat) {c6 c7 c8 c9 c10 c11 c12 c13 c14 c15 c16 c17 c18 c19 c20 : va_E} : sp (d + 2) 49 [.ref 21] (mP L xs [c6, c7, c8, c9, c10, c11, c12, c13, c14, c15, c16, c17, c18, c19, c20, .inr (5, mm_Df 5)]) (fun r m => r = none ∧ ∃ g f7 f8, (∀ i, i < 24 → g i = some 22) ∧ (∀ i, i < 8 → f7 i = 10) ∧ (∀ i, i < 6 → f8 i = -9) ∧ m = mP L xs [c6, c7, c8, c9, c10, c11, c12, c13, c14, c15, c16, c17, c18, c19, c20, .inr (5, [.ref 22, .ref 25, .int 0, .ref 26, .ref 27, .ref 28, .int 90, .int 10, .ref 29, .ref 30, .ref 31, .int 0]), .inr (3, [.ref 23, .ref 24, .int 0, .int 0]), .inl (0, 4, .inl (fun _ => 0)), .inl (0, 3, .inl (fun _ => 0)), .inl (2, 24, .inr (.inr (.inr (.inr g)))), .inl (0, 90, .inl (fun _ => 0)), .inl (0, 6, .inl (fun _ => 0)), .inl (0, 8, .inl f7), .inl (0, 6, .inl f8), .inl (0, 20, .inl (fun _ => 0)), .inl (0, 20, .inl (fun _ => 0))]) := by
  have key : ∀ k, k ≤ 24 → ∀ (x : Int32) (g : Nat → Option Nat), x = nI k → (∀ i, i < k → g i = some 22) → wq (d + 1) (mm_Al 49) cd_Told_init (fun r m => r = none ∧ ∃ g f7 f8, (∀ i, i < 24 → g i = some 22) ∧ (∀ i, i < 8 → f7 i = 10) ∧ (∀ i, i < 6 → f8 i = -9) ∧ m = mP L xs [c6, c7, c8, c9, c10, c11, c12, c13, c14, c15, c16, c17, c18, c19, c20, .inr (5, [.ref 22, .ref 25, .int 0, .ref 26, .ref 27, .ref 28, .int 90, .int 10, .ref 29, .ref 30, .ref 31, .int 0]), .inr (3, [.ref 23, .ref 24, .int 0, .int 0]), .inl (0, 4, .inl (fun _ => 0)), .inl (0, 3, .inl (fun _ => 0)), .inl (2, 24, .inr (.inr (.inr (.inr g)))), .inl (0, 90, .inl (fun _ => 0)), .inl (0, 6, .inl (fun _ => 0)), .inl (0, 8, .inl f7), .inl (0, 6, .inl f8), .inl (0, 20, .inl (fun _ => 0)), .inl (0, 20, .inl (fun _ => 0))]) 96 [some (.ref 21), some (.int x)] [] (mP L xs [c6, c7, c8, c9, c10, c11, c12, c13, c14, c15, c16, c17, c18, c19, c20, .inr (5, [.ref 22, .ref 25, .int 0, .ref 26, .ref 27, .ref 28, .int 90, .int 10, .ref 29, .ref 30, .ref 31, .int 0]), .inr (3, [.ref 23, .ref 24, .int 0, .int 0]), .inl (0, 4, .inl (fun _ => 0)), .inl (0, 3, .inl (fun _ => 0)), .inl (2, 24, .inr (.inr (.inr (.inr g)))), .inl (0, 90, .inl (fun _ => 0)), .inl (0, 6, .inl (fun _ => 0)), .inl (0, 8, .inl (fun _ => 0)), .inl (0, 6, .inl (fun _ => 0)), .inl (0, 20, .inl (fun _ => 0)), .inl (0, 20, .inl (fun _ => 0))]) 10 185 := by
    refine rep 24 ?_ ?_
    · intro x g hx hg
      refine mm_WP.go [96, 127] 40 (lp_ge (N := 24) hx rfl (by decide) (by decide) (fun _ => ?_) (fun h => absurd h (by decide)))
      refine mm_WP.go [130] 20 ⟨_, k_fill d rfl rfl (by decide), ?_⟩
      rintro r m ⟨rfl, f7, h7, rfl⟩
      show wq (d + 1) (mm_Al 49) cd_Told_init _ 130 [some (.ref 21), some (.int x)] [] (mP L xs [c6, c7, c8, c9, c10, c11, c12, c13, c14, c15, c16, c17, c18, c19, c20, .inr (5, [.ref 22, .ref 25, .int 0, .ref 26, .ref 27, .ref 28, .int 90, .int 10, .ref 29, .ref 30, .ref 31, .int 0]), .inr (3, [.ref 23, .ref 24, .int 0, .int 0]), .inl (0, 4, .inl (fun _ => 0)), .inl (0, 3, .inl (fun _ => 0)), .inl (2, 24, .inr (.inr (.inr (.inr g)))), .inl (0, 90, .inl (fun _ => 0)), .inl (0, 6, .inl (fun _ => 0)), .inl (0, 8, .inl f7), .inl (0, 6, .inl (fun _ => 0)), .inl (0, 20, .inl (fun _ => 0)), .inl (0, 20, .inl (fun _ => 0))]) 10 185
      refine mm_WP.go [136] 20 ?_
      refine mm_WP.go [139] 20 ⟨_, k_fill d rfl rfl (by decide), ?_⟩
      rintro r m ⟨rfl, f8, h8, rfl⟩
      exact mm_WP.go [] 20 ⟨rfl, g, f7, f8, hg, h7, h8, rfl⟩
    · intro k hk ih x g hx hg
      subst hx
      have ik := ix_n (w := k) (N := 24) (by decide) hk
      refine mm_WP.go [96] 40 (lp_ge (k := k) (N := 24) rfl rfl (by decide) (by omega) (fun h => absurd h (by omega)) (fun _ => ⟨ik.1, ⟨_, rfl⟩, ?_⟩))
      show wq (d + 1) (mm_Al 49) cd_Told_init _ 96 [some (.ref 21), some (.int (nI k + 1))] [] (mP L xs [c6, c7, c8, c9, c10, c11, c12, c13, c14, c15, c16, c17, c18, c19, c20, .inr (5, [.ref 22, .ref 25, .int 0, .ref 26, .ref 27, .ref 28, .int 90, .int 10, .ref 29, .ref 30, .ref 31, .int 0]), .inr (3, [.ref 23, .ref 24, .int 0, .int 0]), .inl (0, 4, .inl (fun _ => 0)), .inl (0, 3, .inl (fun _ => 0)), .inl (2, 24, .inr (.inr (.inr (.inr (va_up g ((nI k).toNatClampNeg) (some 22)))))), .inl (0, 90, .inl (fun _ => 0)), .inl (0, 6, .inl (fun _ => 0)), .inl (0, 8, .inl (fun _ => 0)), .inl (0, 6, .inl (fun _ => 0)), .inl (0, 20, .inl (fun _ => 0)), .inl (0, 20, .inl (fun _ => 0))]) 10 185
      rw [ik.2]
      refine ih _ _ (nI_1 k) (fun i hi => ?_)
      show (if i = k then some 22 else g i) = some 22
      by_cases e : i = k
      · rw [if_pos e]
      · rw [if_neg e]
        exact hg i (by omega)
  refine ⟨⟨_, rfl⟩, rfl, mm_WP.go [9] 20 ⟨by decide, ⟨by decide, by decide⟩, fun r hr => ?_⟩⟩
  have hr : r = 22 := hr
  subst hr
  show wq (d + 1) (mm_Al 49) cd_Told_init _ 9 [some (.ref 21), none] [.ref 22, .ref 22, .ref 21] (mP L xs [c6, c7, c8, c9, c10, c11, c12, c13, c14, c15, c16, c17, c18, c19, c20, .inr (5, [.null, .null, .int 0, .null, .null, .null, .int 0, .int 0, .null, .null, .null, .int 0]), .inr (3, mm_Df 3)]) 1 4
  refine mm_WP.go [12] 20 ⟨⟨by decide, by decide⟩, ca (k_scene_21 d) ?_⟩
  show wq (d + 1) (mm_Al 49) cd_Told_init _ 12 [some (.ref 21), none] [.ref 22, .ref 21] (mP L xs [c6, c7, c8, c9, c10, c11, c12, c13, c14, c15, c16, c17, c18, c19, c20, .inr (5, [.null, .null, .int 0, .null, .null, .null, .int 0, .int 0, .null, .null, .null, .int 0]), .inr (3, [.ref 23, .ref 24, .int 0, .int 0]), .inl (0, 4, .inl (fun _ => 0)), .inl (0, 3, .inl (fun _ => 0))]) 3 11
  refine mm_WP.go [21] 20 ⟨trivial, rfl, ⟨by decide, by decide⟩, fun r hr => ?_⟩
  have hr : r = 25 := hr
  subst hr
  show wq (d + 1) (mm_Al 49) cd_Told_init _ 21 [some (.ref 21), none] [.ref 25, .ref 21] (mP L xs [c6, c7, c8, c9, c10, c11, c12, c13, c14, c15, c16, c17, c18, c19, c20, .inr (5, [.ref 22, .null, .int 0, .null, .null, .null, .int 0, .int 0, .null, .null, .null, .int 0]), .inr (3, [.ref 23, .ref 24, .int 0, .int 0]), .inl (0, 4, .inl (fun _ => 0)), .inl (0, 3, .inl (fun _ => 0)), .inl (2, 24, .inr (.inr (.inr (.inr (fun _ => none)))))]) 4 35
  refine mm_WP.go [34] 20 ⟨trivial, trivial, rfl, ⟨by decide, by decide⟩, fun r hr => ?_⟩
  have hr : r = 26 := hr
  subst hr
  show wq (d + 1) (mm_Al 49) cd_Told_init _ 34 [some (.ref 21), none] [.ref 26, .ref 21] (mP L xs [c6, c7, c8, c9, c10, c11, c12, c13, c14, c15, c16, c17, c18, c19, c20, .inr (5, [.ref 22, .ref 25, .int 0, .null, .null, .null, .int 0, .int 0, .null, .null, .null, .int 0]), .inr (3, [.ref 23, .ref 24, .int 0, .int 0]), .inl (0, 4, .inl (fun _ => 0)), .inl (0, 3, .inl (fun _ => 0)), .inl (2, 24, .inr (.inr (.inr (.inr (fun _ => none))))), .inl (0, 90, .inl (fun _ => 0))]) 5 125
  refine mm_WP.go [42] 20 ⟨trivial, rfl, ⟨by decide, by decide⟩, fun r hr => ?_⟩
  have hr : r = 27 := hr
  subst hr
  show wq (d + 1) (mm_Al 49) cd_Told_init _ 42 [some (.ref 21), none] [.ref 27, .ref 21] (mP L xs [c6, c7, c8, c9, c10, c11, c12, c13, c14, c15, c16, c17, c18, c19, c20, .inr (5, [.ref 22, .ref 25, .int 0, .ref 26, .null, .null, .int 0, .int 0, .null, .null, .null, .int 0]), .inr (3, [.ref 23, .ref 24, .int 0, .int 0]), .inl (0, 4, .inl (fun _ => 0)), .inl (0, 3, .inl (fun _ => 0)), .inl (2, 24, .inr (.inr (.inr (.inr (fun _ => none))))), .inl (0, 90, .inl (fun _ => 0)), .inl (0, 6, .inl (fun _ => 0))]) 6 131
  refine mm_WP.go [50] 20 ⟨trivial, rfl, ⟨by decide, by decide⟩, fun r hr => ?_⟩
  have hr : r = 28 := hr
  subst hr
  show wq (d + 1) (mm_Al 49) cd_Told_init _ 50 [some (.ref 21), none] [.ref 28, .ref 21] (mP L xs [c6, c7, c8, c9, c10, c11, c12, c13, c14, c15, c16, c17, c18, c19, c20, .inr (5, [.ref 22, .ref 25, .int 0, .ref 26, .ref 27, .null, .int 0, .int 0, .null, .null, .null, .int 0]), .inr (3, [.ref 23, .ref 24, .int 0, .int 0]), .inl (0, 4, .inl (fun _ => 0)), .inl (0, 3, .inl (fun _ => 0)), .inl (2, 24, .inr (.inr (.inr (.inr (fun _ => none))))), .inl (0, 90, .inl (fun _ => 0)), .inl (0, 6, .inl (fun _ => 0)), .inl (0, 8, .inl (fun _ => 0))]) 7 139
  refine mm_WP.go [70] 20 ⟨trivial, trivial, trivial, rfl, ⟨by decide, by decide⟩, fun r hr => ?_⟩
  have hr : r = 29 := hr
  subst hr
  show wq (d + 1) (mm_Al 49) cd_Told_init _ 70 [some (.ref 21), none] [.ref 29, .ref 21] (mP L xs [c6, c7, c8, c9, c10, c11, c12, c13, c14, c15, c16, c17, c18, c19, c20, .inr (5, [.ref 22, .ref 25, .int 0, .ref 26, .ref 27, .ref 28, .int 90, .int 10, .null, .null, .null, .int 0]), .inr (3, [.ref 23, .ref 24, .int 0, .int 0]), .inl (0, 4, .inl (fun _ => 0)), .inl (0, 3, .inl (fun _ => 0)), .inl (2, 24, .inr (.inr (.inr (.inr (fun _ => none))))), .inl (0, 90, .inl (fun _ => 0)), .inl (0, 6, .inl (fun _ => 0)), .inl (0, 8, .inl (fun _ => 0)), .inl (0, 6, .inl (fun _ => 0))]) 8 145
  refine mm_WP.go [78] 20 ⟨trivial, rfl, ⟨by decide, by decide⟩, fun r hr => ?_⟩
  have hr : r = 30 := hr
  subst hr
  show wq (d + 1) (mm_Al 49) cd_Told_init _ 78 [some (.ref 21), none] [.ref 30, .ref 21] (mP L xs [c6, c7, c8, c9, c10, c11, c12, c13, c14, c15, c16, c17, c18, c19, c20, .inr (5, [.ref 22, .ref 25, .int 0, .ref 26, .ref 27, .ref 28, .int 90, .int 10, .ref 29, .null, .null, .int 0]), .inr (3, [.ref 23, .ref 24, .int 0, .int 0]), .inl (0, 4, .inl (fun _ => 0)), .inl (0, 3, .inl (fun _ => 0)), .inl (2, 24, .inr (.inr (.inr (.inr (fun _ => none))))), .inl (0, 90, .inl (fun _ => 0)), .inl (0, 6, .inl (fun _ => 0)), .inl (0, 8, .inl (fun _ => 0)), .inl (0, 6, .inl (fun _ => 0)), .inl (0, 20, .inl (fun _ => 0))]) 9 165
  refine mm_WP.go [86] 20 ⟨trivial, rfl, ⟨by decide, by decide⟩, fun r hr => ?_⟩
  have hr : r = 31 := hr
  subst hr
  show wq (d + 1) (mm_Al 49) cd_Told_init _ 86 [some (.ref 21), none] [.ref 31, .ref 21] (mP L xs [c6, c7, c8, c9, c10, c11, c12, c13, c14, c15, c16, c17, c18, c19, c20, .inr (5, [.ref 22, .ref 25, .int 0, .ref 26, .ref 27, .ref 28, .int 90, .int 10, .ref 29, .ref 30, .null, .int 0]), .inr (3, [.ref 23, .ref 24, .int 0, .int 0]), .inl (0, 4, .inl (fun _ => 0)), .inl (0, 3, .inl (fun _ => 0)), .inl (2, 24, .inr (.inr (.inr (.inr (fun _ => none))))), .inl (0, 90, .inl (fun _ => 0)), .inl (0, 6, .inl (fun _ => 0)), .inl (0, 8, .inl (fun _ => 0)), .inl (0, 6, .inl (fun _ => 0)), .inl (0, 20, .inl (fun _ => 0)), .inl (0, 20, .inl (fun _ => 0))]) 10 185
  refine mm_WP.go [96] 20 ⟨trivial, trivial, ?_⟩
  exact key 0 (by decide) 0 (fun _ => none) rfl (fun i hi => absurd hi (Nat.not_lt_zero i))
theorem k_likely (d : Nat) {c6 c7 c8 c9 c10 c11 c12 c13 c14 c15 c16 c17 c18 c19 c20 c21 c22 c23 c24 c25 c26 c27 c28 c29 c30 c31 : va_E} : sp (d + 1) 19 [.ref 32, .ref 21] (mP L xs [c6, c7, c8, c9, c10, c11, c12, c13, c14, c15, c16, c17, c18, c19, c20, c21, c22, c23, c24, c25, c26, c27, c28, c29, c30, c31, .inr (2, mm_Df 2)]) (fun r m => r = none ∧ m = mP L xs [c6, c7, c8, c9, c10, c11, c12, c13, c14, c15, c16, c17, c18, c19, c20, c21, c22, c23, c24, c25, c26, c27, c28, c29, c30, c31, .inr (2, [.ref 21])]) :=
  ⟨⟨_, rfl⟩, rfl, mm_WP.go [] 20 ⟨by decide, trivial, rfl, rfl⟩⟩
theorem k_giver (d : Nat) {c6 c7 c8 c9 c10 c11 c12 c13 c14 c15 c16 c17 c18 c19 c20 c21 c22 c23 c24 c25 c26 c27 c28 c29 c30 c31 c32 : va_E} : sp (d + 1) 12 [.ref 33, .ref 21] (mP L xs [c6, c7, c8, c9, c10, c11, c12, c13, c14, c15, c16, c17, c18, c19, c20, c21, c22, c23, c24, c25, c26, c27, c28, c29, c30, c31, c32, .inr (1, mm_Df 1)]) (fun r m => r = none ∧ m = mP L xs [c6, c7, c8, c9, c10, c11, c12, c13, c14, c15, c16, c17, c18, c19, c20, c21, c22, c23, c24, c25, c26, c27, c28, c29, c30, c31, c32, .inr (1, [.ref 21, .ref 34]), .inl (0, 6, .inl (fun _ => 0))]) := by
  refine ⟨⟨_, rfl⟩, rfl, mm_WP.go [9] 20 ⟨by decide, rfl, ⟨by decide, by decide⟩, fun r hr => ?_⟩⟩
  have hr : r = 34 := hr
  subst hr
  exact mm_WP.go [] 20 ⟨trivial, trivial, rfl, rfl⟩
theorem k_chooser (d : Nat) {c6 c7 c8 c9 c10 c11 c12 c13 c14 c15 c16 c17 c18 c19 c20 c21 c22 c23 c24 c25 c26 c27 c28 c29 c30 c31 c32 c33 c34 : va_E} : sp (d + 1) 0 [.ref 35, .ref 21] (mP L xs [c6, c7, c8, c9, c10, c11, c12, c13, c14, c15, c16, c17, c18, c19, c20, c21, c22, c23, c24, c25, c26, c27, c28, c29, c30, c31, c32, c33, c34, .inr (0, mm_Df 0)]) (fun r m => r = none ∧ m = mP L xs [c6, c7, c8, c9, c10, c11, c12, c13, c14, c15, c16, c17, c18, c19, c20, c21, c22, c23, c24, c25, c26, c27, c28, c29, c30, c31, c32, c33, c34, .inr (0, [.ref 21, .ref 36, .int 0, .ref 37, .int 0]), .inl (0, 90, .inl (fun _ => 0)), .inl (0, 220, .inl (fun _ => 0))]) := by
  refine ⟨⟨_, rfl⟩, rfl, mm_WP.go [9] 20 ⟨by decide, rfl, ⟨by decide, by decide⟩, fun r hr => ?_⟩⟩
  have hr : r = 36 := hr
  subst hr
  refine mm_WP.go [23] 20 ⟨trivial, trivial, rfl, ⟨by decide, by decide⟩, fun r hr => ?_⟩
  have hr : r = 37 := hr
  subst hr
  exact mm_WP.go [] 20 ⟨trivial, trivial, trivial, rfl, rfl⟩
set_option maxRecDepth 20000 in
theorem k_word (d : Nat) : sp (d + 3) 70 [.ref 6] (mP L xs [.inr (6, mm_Df 6)]) (fun r m => r = none ∧ ∃ g a b g2 a2 b2, ((∀ i, i < 24 → g i = some 10) ∧ (∀ i, i < 8 → a i = 10) ∧ (∀ i, i < 6 → b i = -9)) ∧ ((∀ i, i < 24 → g2 i = some 22) ∧ (∀ i, i < 8 → a2 i = 10) ∧ (∀ i, i < 6 → b2 i = -9)) ∧ m = mP L xs [.inr (6, [.ref 7, .ref 21, .ref 9, .int 0, .ref 20, .ref 32, .ref 33, .ref 35]), .inr (4, [.ref 8, .int 0, .int 0]), .inl (0, 40, .inl (fun _ => 0)), .inr (5, [.ref 10, .ref 13, .int 0, .ref 14, .ref 15, .ref 16, .int 90, .int 10, .ref 17, .ref 18, .ref 19, .int 0]), .inr (3, [.ref 11, .ref 12, .int 0, .int 0]), .inl (0, 4, .inl (fun _ => 0)), .inl (0, 3, .inl (fun _ => 0)), .inl (2, 24, .inr (.inr (.inr (.inr g)))), .inl (0, 90, .inl (fun _ => 0)), .inl (0, 6, .inl (fun _ => 0)), .inl (0, 8, .inl a), .inl (0, 6, .inl b), .inl (0, 20, .inl (fun _ => 0)), .inl (0, 20, .inl (fun _ => 0)), .inl (0, 7, .inl (fun _ => 0)), .inr (5, [.ref 22, .ref 25, .int 0, .ref 26, .ref 27, .ref 28, .int 90, .int 10, .ref 29, .ref 30, .ref 31, .int 0]), .inr (3, [.ref 23, .ref 24, .int 0, .int 0]), .inl (0, 4, .inl (fun _ => 0)), .inl (0, 3, .inl (fun _ => 0)), .inl (2, 24, .inr (.inr (.inr (.inr g2)))), .inl (0, 90, .inl (fun _ => 0)), .inl (0, 6, .inl (fun _ => 0)), .inl (0, 8, .inl a2), .inl (0, 6, .inl b2), .inl (0, 20, .inl (fun _ => 0)), .inl (0, 20, .inl (fun _ => 0)), .inr (2, [.ref 21]), .inr (1, [.ref 21, .ref 34]), .inl (0, 6, .inl (fun _ => 0)), .inr (0, [.ref 21, .ref 36, .int 0, .ref 37, .int 0]), .inl (0, 90, .inl (fun _ => 0)), .inl (0, 220, .inl (fun _ => 0))]) := by
  refine ⟨⟨_, rfl⟩, rfl, mm_WP.go [9] 20 ⟨by decide, ⟨by decide, by decide⟩, fun r hr => ?_⟩⟩
  have hr : r = 7 := hr
  subst hr
  show wq (d + 2) (mm_Al 70) cd_Word_init _ 9 [some (.ref 6), none] [.ref 7, .ref 7, .ref 6] (mP L xs [.inr (6, [.null, .null, .null, .int 0, .null, .null, .null, .null]), .inr (4, mm_Df 4)]) 1 3
  refine mm_WP.go [12] 20 ⟨⟨by decide, by decide⟩, ca (k_text (d + 1)) ?_⟩
  show wq (d + 2) (mm_Al 70) cd_Word_init _ 12 [some (.ref 6), none] [.ref 7, .ref 6] (mP L xs [.inr (6, [.null, .null, .null, .int 0, .null, .null, .null, .null]), .inr (4, [.ref 8, .int 0, .int 0]), .inl (0, 40, .inl (fun _ => 0))]) 2 43
  refine mm_WP.go [20] 20 ⟨trivial, ⟨by decide, by decide⟩, fun r hr => ?_⟩
  have hr : r = 9 := hr
  subst hr
  show wq (d + 2) (mm_Al 70) cd_Word_init _ 20 [some (.ref 6), none] [.ref 9, .ref 9, .ref 6] (mP L xs [.inr (6, [.ref 7, .null, .null, .int 0, .null, .null, .null, .null]), .inr (4, [.ref 8, .int 0, .int 0]), .inl (0, 40, .inl (fun _ => 0)), .inr (5, mm_Df 5)]) 3 55
  refine mm_WP.go [23] 20 ⟨⟨by decide, by decide⟩, _, k_told_9 d, ?_⟩
  rintro r m ⟨rfl, g, a, b, h1, h2, h3, rfl⟩
  show wq (d + 2) (mm_Al 70) cd_Word_init _ 23 [some (.ref 6), none] [.ref 9, .ref 6] (mP L xs [.inr (6, [.ref 7, .null, .null, .int 0, .null, .null, .null, .null]), .inr (4, [.ref 8, .int 0, .int 0]), .inl (0, 40, .inl (fun _ => 0)), .inr (5, [.ref 10, .ref 13, .int 0, .ref 14, .ref 15, .ref 16, .int 90, .int 10, .ref 17, .ref 18, .ref 19, .int 0]), .inr (3, [.ref 11, .ref 12, .int 0, .int 0]), .inl (0, 4, .inl (fun _ => 0)), .inl (0, 3, .inl (fun _ => 0)), .inl (2, 24, .inr (.inr (.inr (.inr g)))), .inl (0, 90, .inl (fun _ => 0)), .inl (0, 6, .inl (fun _ => 0)), .inl (0, 8, .inl a), .inl (0, 6, .inl b), .inl (0, 20, .inl (fun _ => 0)), .inl (0, 20, .inl (fun _ => 0))]) 13 240
  refine mm_WP.go [36] 20 ⟨trivial, rfl, rfl, ⟨by decide, by decide⟩, fun r hr => ?_⟩
  have hr : r = 20 := hr
  subst hr
  show wq (d + 2) (mm_Al 70) cd_Word_init _ 36 [some (.ref 6), none] [.ref 20, .ref 6] (mP L xs [.inr (6, [.ref 7, .null, .ref 9, .int 0, .null, .null, .null, .null]), .inr (4, [.ref 8, .int 0, .int 0]), .inl (0, 40, .inl (fun _ => 0)), .inr (5, [.ref 10, .ref 13, .int 0, .ref 14, .ref 15, .ref 16, .int 90, .int 10, .ref 17, .ref 18, .ref 19, .int 0]), .inr (3, [.ref 11, .ref 12, .int 0, .int 0]), .inl (0, 4, .inl (fun _ => 0)), .inl (0, 3, .inl (fun _ => 0)), .inl (2, 24, .inr (.inr (.inr (.inr g)))), .inl (0, 90, .inl (fun _ => 0)), .inl (0, 6, .inl (fun _ => 0)), .inl (0, 8, .inl a), .inl (0, 6, .inl b), .inl (0, 20, .inl (fun _ => 0)), .inl (0, 20, .inl (fun _ => 0)), .inl (0, 7, .inl (fun _ => 0))]) 14 247
  refine mm_WP.go [43] 20 ⟨trivial, ⟨by decide, by decide⟩, fun r hr => ?_⟩
  have hr : r = 21 := hr
  subst hr
  show wq (d + 2) (mm_Al 70) cd_Word_init _ 43 [some (.ref 6), none] [.ref 21, .ref 21] (mP L xs [.inr (6, [.ref 7, .null, .ref 9, .int 0, .ref 20, .null, .null, .null]), .inr (4, [.ref 8, .int 0, .int 0]), .inl (0, 40, .inl (fun _ => 0)), .inr (5, [.ref 10, .ref 13, .int 0, .ref 14, .ref 15, .ref 16, .int 90, .int 10, .ref 17, .ref 18, .ref 19, .int 0]), .inr (3, [.ref 11, .ref 12, .int 0, .int 0]), .inl (0, 4, .inl (fun _ => 0)), .inl (0, 3, .inl (fun _ => 0)), .inl (2, 24, .inr (.inr (.inr (.inr g)))), .inl (0, 90, .inl (fun _ => 0)), .inl (0, 6, .inl (fun _ => 0)), .inl (0, 8, .inl a), .inl (0, 6, .inl b), .inl (0, 20, .inl (fun _ => 0)), .inl (0, 20, .inl (fun _ => 0)), .inl (0, 7, .inl (fun _ => 0)), .inr (5, mm_Df 5)]) 15 259
  refine mm_WP.go [46] 20 ⟨⟨by decide, by decide⟩, _, k_told_21 d, ?_⟩
  rintro r m ⟨rfl, g2, a2, b2, h4, h5, h6, rfl⟩
  show wq (d + 2) (mm_Al 70) cd_Word_init _ 46 [some (.ref 6), none] [.ref 21] (mP L xs [.inr (6, [.ref 7, .null, .ref 9, .int 0, .ref 20, .null, .null, .null]), .inr (4, [.ref 8, .int 0, .int 0]), .inl (0, 40, .inl (fun _ => 0)), .inr (5, [.ref 10, .ref 13, .int 0, .ref 14, .ref 15, .ref 16, .int 90, .int 10, .ref 17, .ref 18, .ref 19, .int 0]), .inr (3, [.ref 11, .ref 12, .int 0, .int 0]), .inl (0, 4, .inl (fun _ => 0)), .inl (0, 3, .inl (fun _ => 0)), .inl (2, 24, .inr (.inr (.inr (.inr g)))), .inl (0, 90, .inl (fun _ => 0)), .inl (0, 6, .inl (fun _ => 0)), .inl (0, 8, .inl a), .inl (0, 6, .inl b), .inl (0, 20, .inl (fun _ => 0)), .inl (0, 20, .inl (fun _ => 0)), .inl (0, 7, .inl (fun _ => 0)), .inr (5, [.ref 22, .ref 25, .int 0, .ref 26, .ref 27, .ref 28, .int 90, .int 10, .ref 29, .ref 30, .ref 31, .int 0]), .inr (3, [.ref 23, .ref 24, .int 0, .int 0]), .inl (0, 4, .inl (fun _ => 0)), .inl (0, 3, .inl (fun _ => 0)), .inl (2, 24, .inr (.inr (.inr (.inr g2)))), .inl (0, 90, .inl (fun _ => 0)), .inl (0, 6, .inl (fun _ => 0)), .inl (0, 8, .inl a2), .inl (0, 6, .inl b2), .inl (0, 20, .inl (fun _ => 0)), .inl (0, 20, .inl (fun _ => 0))]) 25 444
  refine mm_WP.go [58] 20 ⟨trivial, ⟨by decide, by decide⟩, fun r hr => ?_⟩
  have hr : r = 32 := hr
  subst hr
  show wq (d + 2) (mm_Al 70) cd_Word_init _ 58 [some (.ref 6), some (.ref 21)] [.ref 21, .ref 32, .ref 32, .ref 6] (mP L xs [.inr (6, [.ref 7, .ref 21, .ref 9, .int 0, .ref 20, .null, .null, .null]), .inr (4, [.ref 8, .int 0, .int 0]), .inl (0, 40, .inl (fun _ => 0)), .inr (5, [.ref 10, .ref 13, .int 0, .ref 14, .ref 15, .ref 16, .int 90, .int 10, .ref 17, .ref 18, .ref 19, .int 0]), .inr (3, [.ref 11, .ref 12, .int 0, .int 0]), .inl (0, 4, .inl (fun _ => 0)), .inl (0, 3, .inl (fun _ => 0)), .inl (2, 24, .inr (.inr (.inr (.inr g)))), .inl (0, 90, .inl (fun _ => 0)), .inl (0, 6, .inl (fun _ => 0)), .inl (0, 8, .inl a), .inl (0, 6, .inl b), .inl (0, 20, .inl (fun _ => 0)), .inl (0, 20, .inl (fun _ => 0)), .inl (0, 7, .inl (fun _ => 0)), .inr (5, [.ref 22, .ref 25, .int 0, .ref 26, .ref 27, .ref 28, .int 90, .int 10, .ref 29, .ref 30, .ref 31, .int 0]), .inr (3, [.ref 23, .ref 24, .int 0, .int 0]), .inl (0, 4, .inl (fun _ => 0)), .inl (0, 3, .inl (fun _ => 0)), .inl (2, 24, .inr (.inr (.inr (.inr g2)))), .inl (0, 90, .inl (fun _ => 0)), .inl (0, 6, .inl (fun _ => 0)), .inl (0, 8, .inl a2), .inl (0, 6, .inl b2), .inl (0, 20, .inl (fun _ => 0)), .inl (0, 20, .inl (fun _ => 0)), .inr (2, mm_Df 2)]) 26 445
  refine mm_WP.go [61] 20 (ca (k_likely (d + 1)) ?_)
  show wq (d + 2) (mm_Al 70) cd_Word_init _ 61 [some (.ref 6), some (.ref 21)] [.ref 32, .ref 6] (mP L xs [.inr (6, [.ref 7, .ref 21, .ref 9, .int 0, .ref 20, .null, .null, .null]), .inr (4, [.ref 8, .int 0, .int 0]), .inl (0, 40, .inl (fun _ => 0)), .inr (5, [.ref 10, .ref 13, .int 0, .ref 14, .ref 15, .ref 16, .int 90, .int 10, .ref 17, .ref 18, .ref 19, .int 0]), .inr (3, [.ref 11, .ref 12, .int 0, .int 0]), .inl (0, 4, .inl (fun _ => 0)), .inl (0, 3, .inl (fun _ => 0)), .inl (2, 24, .inr (.inr (.inr (.inr g)))), .inl (0, 90, .inl (fun _ => 0)), .inl (0, 6, .inl (fun _ => 0)), .inl (0, 8, .inl a), .inl (0, 6, .inl b), .inl (0, 20, .inl (fun _ => 0)), .inl (0, 20, .inl (fun _ => 0)), .inl (0, 7, .inl (fun _ => 0)), .inr (5, [.ref 22, .ref 25, .int 0, .ref 26, .ref 27, .ref 28, .int 90, .int 10, .ref 29, .ref 30, .ref 31, .int 0]), .inr (3, [.ref 23, .ref 24, .int 0, .int 0]), .inl (0, 4, .inl (fun _ => 0)), .inl (0, 3, .inl (fun _ => 0)), .inl (2, 24, .inr (.inr (.inr (.inr g2)))), .inl (0, 90, .inl (fun _ => 0)), .inl (0, 6, .inl (fun _ => 0)), .inl (0, 8, .inl a2), .inl (0, 6, .inl b2), .inl (0, 20, .inl (fun _ => 0)), .inl (0, 20, .inl (fun _ => 0)), .inr (2, [.ref 21])]) 26 445
  refine mm_WP.go [70] 20 ⟨trivial, ⟨by decide, by decide⟩, fun r hr => ?_⟩
  have hr : r = 33 := hr
  subst hr
  show wq (d + 2) (mm_Al 70) cd_Word_init _ 70 [some (.ref 6), some (.ref 21)] [.ref 21, .ref 33, .ref 33, .ref 6] (mP L xs [.inr (6, [.ref 7, .ref 21, .ref 9, .int 0, .ref 20, .ref 32, .null, .null]), .inr (4, [.ref 8, .int 0, .int 0]), .inl (0, 40, .inl (fun _ => 0)), .inr (5, [.ref 10, .ref 13, .int 0, .ref 14, .ref 15, .ref 16, .int 90, .int 10, .ref 17, .ref 18, .ref 19, .int 0]), .inr (3, [.ref 11, .ref 12, .int 0, .int 0]), .inl (0, 4, .inl (fun _ => 0)), .inl (0, 3, .inl (fun _ => 0)), .inl (2, 24, .inr (.inr (.inr (.inr g)))), .inl (0, 90, .inl (fun _ => 0)), .inl (0, 6, .inl (fun _ => 0)), .inl (0, 8, .inl a), .inl (0, 6, .inl b), .inl (0, 20, .inl (fun _ => 0)), .inl (0, 20, .inl (fun _ => 0)), .inl (0, 7, .inl (fun _ => 0)), .inr (5, [.ref 22, .ref 25, .int 0, .ref 26, .ref 27, .ref 28, .int 90, .int 10, .ref 29, .ref 30, .ref 31, .int 0]), .inr (3, [.ref 23, .ref 24, .int 0, .int 0]), .inl (0, 4, .inl (fun _ => 0)), .inl (0, 3, .inl (fun _ => 0)), .inl (2, 24, .inr (.inr (.inr (.inr g2)))), .inl (0, 90, .inl (fun _ => 0)), .inl (0, 6, .inl (fun _ => 0)), .inl (0, 8, .inl a2), .inl (0, 6, .inl b2), .inl (0, 20, .inl (fun _ => 0)), .inl (0, 20, .inl (fun _ => 0)), .inr (2, [.ref 21]), .inr (1, mm_Df 1)]) 27 447
  refine mm_WP.go [73] 20 ⟨⟨by decide, by decide⟩, ca (k_giver (d + 1)) ?_⟩
  show wq (d + 2) (mm_Al 70) cd_Word_init _ 73 [some (.ref 6), some (.ref 21)] [.ref 33, .ref 6] (mP L xs [.inr (6, [.ref 7, .ref 21, .ref 9, .int 0, .ref 20, .ref 32, .null, .null]), .inr (4, [.ref 8, .int 0, .int 0]), .inl (0, 40, .inl (fun _ => 0)), .inr (5, [.ref 10, .ref 13, .int 0, .ref 14, .ref 15, .ref 16, .int 90, .int 10, .ref 17, .ref 18, .ref 19, .int 0]), .inr (3, [.ref 11, .ref 12, .int 0, .int 0]), .inl (0, 4, .inl (fun _ => 0)), .inl (0, 3, .inl (fun _ => 0)), .inl (2, 24, .inr (.inr (.inr (.inr g)))), .inl (0, 90, .inl (fun _ => 0)), .inl (0, 6, .inl (fun _ => 0)), .inl (0, 8, .inl a), .inl (0, 6, .inl b), .inl (0, 20, .inl (fun _ => 0)), .inl (0, 20, .inl (fun _ => 0)), .inl (0, 7, .inl (fun _ => 0)), .inr (5, [.ref 22, .ref 25, .int 0, .ref 26, .ref 27, .ref 28, .int 90, .int 10, .ref 29, .ref 30, .ref 31, .int 0]), .inr (3, [.ref 23, .ref 24, .int 0, .int 0]), .inl (0, 4, .inl (fun _ => 0)), .inl (0, 3, .inl (fun _ => 0)), .inl (2, 24, .inr (.inr (.inr (.inr g2)))), .inl (0, 90, .inl (fun _ => 0)), .inl (0, 6, .inl (fun _ => 0)), .inl (0, 8, .inl a2), .inl (0, 6, .inl b2), .inl (0, 20, .inl (fun _ => 0)), .inl (0, 20, .inl (fun _ => 0)), .inr (2, [.ref 21]), .inr (1, [.ref 21, .ref 34]), .inl (0, 6, .inl (fun _ => 0))]) 28 453
  refine mm_WP.go [82] 20 ⟨trivial, ⟨by decide, by decide⟩, fun r hr => ?_⟩
  have hr : r = 35 := hr
  subst hr
  show wq (d + 2) (mm_Al 70) cd_Word_init _ 82 [some (.ref 6), some (.ref 21)] [.ref 21, .ref 35, .ref 35, .ref 6] (mP L xs [.inr (6, [.ref 7, .ref 21, .ref 9, .int 0, .ref 20, .ref 32, .ref 33, .null]), .inr (4, [.ref 8, .int 0, .int 0]), .inl (0, 40, .inl (fun _ => 0)), .inr (5, [.ref 10, .ref 13, .int 0, .ref 14, .ref 15, .ref 16, .int 90, .int 10, .ref 17, .ref 18, .ref 19, .int 0]), .inr (3, [.ref 11, .ref 12, .int 0, .int 0]), .inl (0, 4, .inl (fun _ => 0)), .inl (0, 3, .inl (fun _ => 0)), .inl (2, 24, .inr (.inr (.inr (.inr g)))), .inl (0, 90, .inl (fun _ => 0)), .inl (0, 6, .inl (fun _ => 0)), .inl (0, 8, .inl a), .inl (0, 6, .inl b), .inl (0, 20, .inl (fun _ => 0)), .inl (0, 20, .inl (fun _ => 0)), .inl (0, 7, .inl (fun _ => 0)), .inr (5, [.ref 22, .ref 25, .int 0, .ref 26, .ref 27, .ref 28, .int 90, .int 10, .ref 29, .ref 30, .ref 31, .int 0]), .inr (3, [.ref 23, .ref 24, .int 0, .int 0]), .inl (0, 4, .inl (fun _ => 0)), .inl (0, 3, .inl (fun _ => 0)), .inl (2, 24, .inr (.inr (.inr (.inr g2)))), .inl (0, 90, .inl (fun _ => 0)), .inl (0, 6, .inl (fun _ => 0)), .inl (0, 8, .inl a2), .inl (0, 6, .inl b2), .inl (0, 20, .inl (fun _ => 0)), .inl (0, 20, .inl (fun _ => 0)), .inr (2, [.ref 21]), .inr (1, [.ref 21, .ref 34]), .inl (0, 6, .inl (fun _ => 0)), .inr (0, mm_Df 0)]) 29 458
  refine mm_WP.go [85] 20 ⟨⟨by decide, by decide⟩, ca (k_chooser (d + 1)) ?_⟩
  show wq (d + 2) (mm_Al 70) cd_Word_init _ 85 [some (.ref 6), some (.ref 21)] [.ref 35, .ref 6] (mP L xs [.inr (6, [.ref 7, .ref 21, .ref 9, .int 0, .ref 20, .ref 32, .ref 33, .null]), .inr (4, [.ref 8, .int 0, .int 0]), .inl (0, 40, .inl (fun _ => 0)), .inr (5, [.ref 10, .ref 13, .int 0, .ref 14, .ref 15, .ref 16, .int 90, .int 10, .ref 17, .ref 18, .ref 19, .int 0]), .inr (3, [.ref 11, .ref 12, .int 0, .int 0]), .inl (0, 4, .inl (fun _ => 0)), .inl (0, 3, .inl (fun _ => 0)), .inl (2, 24, .inr (.inr (.inr (.inr g)))), .inl (0, 90, .inl (fun _ => 0)), .inl (0, 6, .inl (fun _ => 0)), .inl (0, 8, .inl a), .inl (0, 6, .inl b), .inl (0, 20, .inl (fun _ => 0)), .inl (0, 20, .inl (fun _ => 0)), .inl (0, 7, .inl (fun _ => 0)), .inr (5, [.ref 22, .ref 25, .int 0, .ref 26, .ref 27, .ref 28, .int 90, .int 10, .ref 29, .ref 30, .ref 31, .int 0]), .inr (3, [.ref 23, .ref 24, .int 0, .int 0]), .inl (0, 4, .inl (fun _ => 0)), .inl (0, 3, .inl (fun _ => 0)), .inl (2, 24, .inr (.inr (.inr (.inr g2)))), .inl (0, 90, .inl (fun _ => 0)), .inl (0, 6, .inl (fun _ => 0)), .inl (0, 8, .inl a2), .inl (0, 6, .inl b2), .inl (0, 20, .inl (fun _ => 0)), .inl (0, 20, .inl (fun _ => 0)), .inr (2, [.ref 21]), .inr (1, [.ref 21, .ref 34]), .inl (0, 6, .inl (fun _ => 0)), .inr (0, [.ref 21, .ref 36, .int 0, .ref 37, .int 0]), .inl (0, 90, .inl (fun _ => 0)), .inl (0, 220, .inl (fun _ => 0))]) 31 768
  exact mm_WP.go [] 20 ⟨trivial, rfl, g, a, b, g2, a2, b2, ⟨h1, h2, h3⟩, ⟨h4, h5, h6⟩, rfl⟩
set_option maxRecDepth 40000 in
theorem k_model (d : Nat) {c6 c7 c8 c9 c10 c11 c12 c13 c14 c15 c16 c17 c18 c19 c20 c21 c22 c23 c24 c25 c26 c27 c28 c29 c30 c31 c32 c33 c34 c35 c36 c37 : va_E} : sp (d + 1) 114 [.ref 38] (mP L xs [c6, c7, c8, c9, c10, c11, c12, c13, c14, c15, c16, c17, c18, c19, c20, c21, c22, c23, c24, c25, c26, c27, c28, c29, c30, c31, c32, c33, c34, c35, c36, c37, .inr (7, mm_Df 7)]) (fun r m => r = none ∧ ∃ f g, (∀ i, i < 8 → f i = 10) ∧ (∀ i, i < 6 → g i = -1) ∧ m = mP L xs [c6, c7, c8, c9, c10, c11, c12, c13, c14, c15, c16, c17, c18, c19, c20, c21, c22, c23, c24, c25, c26, c27, c28, c29, c30, c31, c32, c33, c34, c35, c36, c37, .inr (7, [.int 0, .ref 39, .ref 40, .ref 41, .ref 42, .ref 43, .ref 44, .ref 45, .int 90, .int 10, .ref 46, .int 0, .ref 47, .ref 48, .ref 49, .int 0, .ref 50, .int 0, .int 0, .int 0, .ref 51, .int 0, .ref 52, .ref 53, .int 0, .ref 54, .int 0, .int 0, .ref 55, .int 0, .int 0]), .inl (0, 24, .inl (fun _ => 0)), .inl (0, 96, .inl (fun _ => 0)), .inl (0, 24, .inl (fun _ => 0)), .inl (0, 216, .inl (fun _ => 0)), .inl (1, 144, .inl (fun _ => 0)), .inl (1, 2160, .inl (fun _ => 0)), .inl (0, 8, .inl f), .inl (0, 6, .inl g), .inl (0, 20, .inl (fun _ => 0)), .inl (0, 20, .inl (fun _ => 0)), .inl (0, 40, .inl (fun _ => 0)), .inl (0, 7, .inl (fun _ => 0)), .inl (0, 3, .inl (fun _ => 0)), .inl (0, 3, .inl (fun _ => 0)), .inl (0, 12, .inl (fun _ => 0)), .inl (0, 90, .inl (fun _ => 0)), .inl (0, 700, .inl (fun _ => 0))]) := by
  have vi : ∀ {k N : Nat}, k < N → N < 2 ^ 31 → vp_in (nI k) N := fun h1 h2 => (ix_n h2 h1).1
  refine ⟨⟨_, rfl⟩, rfl, mm_WP.go [9] 20 ⟨by decide, rfl, ⟨by decide, by decide⟩, fun r hr => ?_⟩⟩
  have hr : r = 39 := hr
  subst hr
  show wq (d) (mm_Al 114) cd_Model_init _ 9 [some (.ref 38)] [.ref 39, .ref 38] (mP L xs [c6, c7, c8, c9, c10, c11, c12, c13, c14, c15, c16, c17, c18, c19, c20, c21, c22, c23, c24, c25, c26, c27, c28, c29, c30, c31, c32, c33, c34, c35, c36, c37, .inr (7, [.int 0, .null, .null, .null, .null, .null, .null, .null, .int 0, .int 0, .null, .int 0, .null, .null, .null, .int 0, .null, .int 0, .int 0, .int 0, .null, .int 0, .null, .null, .int 0, .null, .int 0, .int 0, .null, .int 0, .int 0]), .inl (0, 24, .inl (fun _ => 0))]) 1 24
  refine mm_WP.go [17] 20 ⟨trivial, rfl, ⟨by decide, by decide⟩, fun r hr => ?_⟩
  have hr : r = 40 := hr
  subst hr
  show wq (d) (mm_Al 114) cd_Model_init _ 17 [some (.ref 38)] [.ref 40, .ref 38] (mP L xs [c6, c7, c8, c9, c10, c11, c12, c13, c14, c15, c16, c17, c18, c19, c20, c21, c22, c23, c24, c25, c26, c27, c28, c29, c30, c31, c32, c33, c34, c35, c36, c37, .inr (7, [.int 0, .ref 39, .null, .null, .null, .null, .null, .null, .int 0, .int 0, .null, .int 0, .null, .null, .null, .int 0, .null, .int 0, .int 0, .int 0, .null, .int 0, .null, .null, .int 0, .null, .int 0, .int 0, .null, .int 0, .int 0]), .inl (0, 24, .inl (fun _ => 0)), .inl (0, 96, .inl (fun _ => 0))]) 2 120
  refine mm_WP.go [25] 20 ⟨trivial, rfl, ⟨by decide, by decide⟩, fun r hr => ?_⟩
  have hr : r = 41 := hr
  subst hr
  show wq (d) (mm_Al 114) cd_Model_init _ 25 [some (.ref 38)] [.ref 41, .ref 38] (mP L xs [c6, c7, c8, c9, c10, c11, c12, c13, c14, c15, c16, c17, c18, c19, c20, c21, c22, c23, c24, c25, c26, c27, c28, c29, c30, c31, c32, c33, c34, c35, c36, c37, .inr (7, [.int 0, .ref 39, .ref 40, .null, .null, .null, .null, .null, .int 0, .int 0, .null, .int 0, .null, .null, .null, .int 0, .null, .int 0, .int 0, .int 0, .null, .int 0, .null, .null, .int 0, .null, .int 0, .int 0, .null, .int 0, .int 0]), .inl (0, 24, .inl (fun _ => 0)), .inl (0, 96, .inl (fun _ => 0)), .inl (0, 24, .inl (fun _ => 0))]) 3 144
  refine mm_WP.go [34] 20 ⟨trivial, rfl, ⟨by decide, by decide⟩, fun r hr => ?_⟩
  have hr : r = 42 := hr
  subst hr
  show wq (d) (mm_Al 114) cd_Model_init _ 34 [some (.ref 38)] [.ref 42, .ref 38] (mP L xs [c6, c7, c8, c9, c10, c11, c12, c13, c14, c15, c16, c17, c18, c19, c20, c21, c22, c23, c24, c25, c26, c27, c28, c29, c30, c31, c32, c33, c34, c35, c36, c37, .inr (7, [.int 0, .ref 39, .ref 40, .ref 41, .null, .null, .null, .null, .int 0, .int 0, .null, .int 0, .null, .null, .null, .int 0, .null, .int 0, .int 0, .int 0, .null, .int 0, .null, .null, .int 0, .null, .int 0, .int 0, .null, .int 0, .int 0]), .inl (0, 24, .inl (fun _ => 0)), .inl (0, 96, .inl (fun _ => 0)), .inl (0, 24, .inl (fun _ => 0)), .inl (0, 216, .inl (fun _ => 0))]) 4 360
  refine mm_WP.go [43] 20 ⟨trivial, rfl, ⟨by decide, by decide⟩, fun r hr => ?_⟩
  have hr : r = 43 := hr
  subst hr
  show wq (d) (mm_Al 114) cd_Model_init _ 43 [some (.ref 38)] [.ref 43, .ref 38] (mP L xs [c6, c7, c8, c9, c10, c11, c12, c13, c14, c15, c16, c17, c18, c19, c20, c21, c22, c23, c24, c25, c26, c27, c28, c29, c30, c31, c32, c33, c34, c35, c36, c37, .inr (7, [.int 0, .ref 39, .ref 40, .ref 41, .ref 42, .null, .null, .null, .int 0, .int 0, .null, .int 0, .null, .null, .null, .int 0, .null, .int 0, .int 0, .int 0, .null, .int 0, .null, .null, .int 0, .null, .int 0, .int 0, .null, .int 0, .int 0]), .inl (0, 24, .inl (fun _ => 0)), .inl (0, 96, .inl (fun _ => 0)), .inl (0, 24, .inl (fun _ => 0)), .inl (0, 216, .inl (fun _ => 0)), .inl (1, 144, .inl (fun _ => 0))]) 5 504
  refine mm_WP.go [52] 20 ⟨trivial, rfl, ⟨by decide, by decide⟩, fun r hr => ?_⟩
  have hr : r = 44 := hr
  subst hr
  show wq (d) (mm_Al 114) cd_Model_init _ 52 [some (.ref 38)] [.ref 44, .ref 38] (mP L xs [c6, c7, c8, c9, c10, c11, c12, c13, c14, c15, c16, c17, c18, c19, c20, c21, c22, c23, c24, c25, c26, c27, c28, c29, c30, c31, c32, c33, c34, c35, c36, c37, .inr (7, [.int 0, .ref 39, .ref 40, .ref 41, .ref 42, .ref 43, .null, .null, .int 0, .int 0, .null, .int 0, .null, .null, .null, .int 0, .null, .int 0, .int 0, .int 0, .null, .int 0, .null, .null, .int 0, .null, .int 0, .int 0, .null, .int 0, .int 0]), .inl (0, 24, .inl (fun _ => 0)), .inl (0, 96, .inl (fun _ => 0)), .inl (0, 24, .inl (fun _ => 0)), .inl (0, 216, .inl (fun _ => 0)), .inl (1, 144, .inl (fun _ => 0)), .inl (1, 2160, .inl (fun _ => 0))]) 6 2664
  refine mm_WP.go [60] 20 ⟨trivial, rfl, ⟨by decide, by decide⟩, fun r hr => ?_⟩
  have hr : r = 45 := hr
  subst hr
  show wq (d) (mm_Al 114) cd_Model_init _ 60 [some (.ref 38)] [.ref 45, .ref 38] (mP L xs [c6, c7, c8, c9, c10, c11, c12, c13, c14, c15, c16, c17, c18, c19, c20, c21, c22, c23, c24, c25, c26, c27, c28, c29, c30, c31, c32, c33, c34, c35, c36, c37, .inr (7, [.int 0, .ref 39, .ref 40, .ref 41, .ref 42, .ref 43, .ref 44, .null, .int 0, .int 0, .null, .int 0, .null, .null, .null, .int 0, .null, .int 0, .int 0, .int 0, .null, .int 0, .null, .null, .int 0, .null, .int 0, .int 0, .null, .int 0, .int 0]), .inl (0, 24, .inl (fun _ => 0)), .inl (0, 96, .inl (fun _ => 0)), .inl (0, 24, .inl (fun _ => 0)), .inl (0, 216, .inl (fun _ => 0)), .inl (1, 144, .inl (fun _ => 0)), .inl (1, 2160, .inl (fun _ => 0)), .inl (0, 8, .inl (fun _ => 0))]) 7 2672
  refine mm_WP.go [102] 60 ⟨vi (k := 0) (by decide) (by decide), vi (k := 1) (by decide) (by decide), vi (k := 2) (by decide) (by decide), vi (k := 3) (by decide) (by decide), vi (k := 4) (by decide) (by decide), vi (k := 5) (by decide) (by decide), vi (k := 6) (by decide) (by decide), vi (k := 7) (by decide) (by decide), ?_⟩
  show wq (d) (mm_Al 114) cd_Model_init _ 102 [some (.ref 38)] [.ref 45, .ref 38] (mP L xs [c6, c7, c8, c9, c10, c11, c12, c13, c14, c15, c16, c17, c18, c19, c20, c21, c22, c23, c24, c25, c26, c27, c28, c29, c30, c31, c32, c33, c34, c35, c36, c37, .inr (7, [.int 0, .ref 39, .ref 40, .ref 41, .ref 42, .ref 43, .ref 44, .null, .int 0, .int 0, .null, .int 0, .null, .null, .null, .int 0, .null, .int 0, .int 0, .int 0, .null, .int 0, .null, .null, .int 0, .null, .int 0, .int 0, .null, .int 0, .int 0]), .inl (0, 24, .inl (fun _ => 0)), .inl (0, 96, .inl (fun _ => 0)), .inl (0, 24, .inl (fun _ => 0)), .inl (0, 216, .inl (fun _ => 0)), .inl (1, 144, .inl (fun _ => 0)), .inl (1, 2160, .inl (fun _ => 0)), .inl (0, 8, .inl (upd (upd (upd (upd (upd (upd (upd (upd (fun _ => 0) 0 10) 1 10) 2 10) 3 10) 4 10) 5 10) 6 10) 7 10))]) 7 2672
  refine mm_WP.go [122] 60 ⟨trivial, trivial, trivial, rfl, ⟨by decide, by decide⟩, fun r hr => ?_⟩
  have hr : r = 46 := hr
  subst hr
  show wq (d) (mm_Al 114) cd_Model_init _ 122 [some (.ref 38)] [.ref 46, .ref 38] (mP L xs [c6, c7, c8, c9, c10, c11, c12, c13, c14, c15, c16, c17, c18, c19, c20, c21, c22, c23, c24, c25, c26, c27, c28, c29, c30, c31, c32, c33, c34, c35, c36, c37, .inr (7, [.int 0, .ref 39, .ref 40, .ref 41, .ref 42, .ref 43, .ref 44, .ref 45, .int 90, .int 10, .null, .int 0, .null, .null, .null, .int 0, .null, .int 0, .int 0, .int 0, .null, .int 0, .null, .null, .int 0, .null, .int 0, .int 0, .null, .int 0, .int 0]), .inl (0, 24, .inl (fun _ => 0)), .inl (0, 96, .inl (fun _ => 0)), .inl (0, 24, .inl (fun _ => 0)), .inl (0, 216, .inl (fun _ => 0)), .inl (1, 144, .inl (fun _ => 0)), .inl (1, 2160, .inl (fun _ => 0)), .inl (0, 8, .inl (upd (upd (upd (upd (upd (upd (upd (upd (fun _ => 0) 0 10) 1 10) 2 10) 3 10) 4 10) 5 10) 6 10) 7 10)), .inl (0, 6, .inl (fun _ => 0))]) 8 2678
  refine mm_WP.go [146] 60 ⟨vi (k := 0) (by decide) (by decide), vi (k := 1) (by decide) (by decide), vi (k := 2) (by decide) (by decide), vi (k := 3) (by decide) (by decide), vi (k := 4) (by decide) (by decide), vi (k := 5) (by decide) (by decide), ?_⟩
  show wq (d) (mm_Al 114) cd_Model_init _ 146 [some (.ref 38)] [.ref 46, .ref 38] (mP L xs [c6, c7, c8, c9, c10, c11, c12, c13, c14, c15, c16, c17, c18, c19, c20, c21, c22, c23, c24, c25, c26, c27, c28, c29, c30, c31, c32, c33, c34, c35, c36, c37, .inr (7, [.int 0, .ref 39, .ref 40, .ref 41, .ref 42, .ref 43, .ref 44, .ref 45, .int 90, .int 10, .null, .int 0, .null, .null, .null, .int 0, .null, .int 0, .int 0, .int 0, .null, .int 0, .null, .null, .int 0, .null, .int 0, .int 0, .null, .int 0, .int 0]), .inl (0, 24, .inl (fun _ => 0)), .inl (0, 96, .inl (fun _ => 0)), .inl (0, 24, .inl (fun _ => 0)), .inl (0, 216, .inl (fun _ => 0)), .inl (1, 144, .inl (fun _ => 0)), .inl (1, 2160, .inl (fun _ => 0)), .inl (0, 8, .inl (upd (upd (upd (upd (upd (upd (upd (upd (fun _ => 0) 0 10) 1 10) 2 10) 3 10) 4 10) 5 10) 6 10) 7 10)), .inl (0, 6, .inl (upd (upd (upd (upd (upd (upd (fun _ => 0) 0 (-1)) 1 (-1)) 2 (-1)) 3 (-1)) 4 (-1)) 5 (-1)))]) 8 2678
  refine mm_WP.go [154] 20 ⟨trivial, rfl, ⟨by decide, by decide⟩, fun r hr => ?_⟩
  have hr : r = 47 := hr
  subst hr
  show wq (d) (mm_Al 114) cd_Model_init _ 154 [some (.ref 38)] [.ref 47, .ref 38] (mP L xs [c6, c7, c8, c9, c10, c11, c12, c13, c14, c15, c16, c17, c18, c19, c20, c21, c22, c23, c24, c25, c26, c27, c28, c29, c30, c31, c32, c33, c34, c35, c36, c37, .inr (7, [.int 0, .ref 39, .ref 40, .ref 41, .ref 42, .ref 43, .ref 44, .ref 45, .int 90, .int 10, .ref 46, .int 0, .null, .null, .null, .int 0, .null, .int 0, .int 0, .int 0, .null, .int 0, .null, .null, .int 0, .null, .int 0, .int 0, .null, .int 0, .int 0]), .inl (0, 24, .inl (fun _ => 0)), .inl (0, 96, .inl (fun _ => 0)), .inl (0, 24, .inl (fun _ => 0)), .inl (0, 216, .inl (fun _ => 0)), .inl (1, 144, .inl (fun _ => 0)), .inl (1, 2160, .inl (fun _ => 0)), .inl (0, 8, .inl (upd (upd (upd (upd (upd (upd (upd (upd (fun _ => 0) 0 10) 1 10) 2 10) 3 10) 4 10) 5 10) 6 10) 7 10)), .inl (0, 6, .inl (upd (upd (upd (upd (upd (upd (fun _ => 0) 0 (-1)) 1 (-1)) 2 (-1)) 3 (-1)) 4 (-1)) 5 (-1))), .inl (0, 20, .inl (fun _ => 0))]) 9 2698
  refine mm_WP.go [162] 20 ⟨trivial, rfl, ⟨by decide, by decide⟩, fun r hr => ?_⟩
  have hr : r = 48 := hr
  subst hr
  show wq (d) (mm_Al 114) cd_Model_init _ 162 [some (.ref 38)] [.ref 48, .ref 38] (mP L xs [c6, c7, c8, c9, c10, c11, c12, c13, c14, c15, c16, c17, c18, c19, c20, c21, c22, c23, c24, c25, c26, c27, c28, c29, c30, c31, c32, c33, c34, c35, c36, c37, .inr (7, [.int 0, .ref 39, .ref 40, .ref 41, .ref 42, .ref 43, .ref 44, .ref 45, .int 90, .int 10, .ref 46, .int 0, .ref 47, .null, .null, .int 0, .null, .int 0, .int 0, .int 0, .null, .int 0, .null, .null, .int 0, .null, .int 0, .int 0, .null, .int 0, .int 0]), .inl (0, 24, .inl (fun _ => 0)), .inl (0, 96, .inl (fun _ => 0)), .inl (0, 24, .inl (fun _ => 0)), .inl (0, 216, .inl (fun _ => 0)), .inl (1, 144, .inl (fun _ => 0)), .inl (1, 2160, .inl (fun _ => 0)), .inl (0, 8, .inl (upd (upd (upd (upd (upd (upd (upd (upd (fun _ => 0) 0 10) 1 10) 2 10) 3 10) 4 10) 5 10) 6 10) 7 10)), .inl (0, 6, .inl (upd (upd (upd (upd (upd (upd (fun _ => 0) 0 (-1)) 1 (-1)) 2 (-1)) 3 (-1)) 4 (-1)) 5 (-1))), .inl (0, 20, .inl (fun _ => 0)), .inl (0, 20, .inl (fun _ => 0))]) 10 2718
  refine mm_WP.go [170] 20 ⟨trivial, rfl, ⟨by decide, by decide⟩, fun r hr => ?_⟩
  have hr : r = 49 := hr
  subst hr
  show wq (d) (mm_Al 114) cd_Model_init _ 170 [some (.ref 38)] [.ref 49, .ref 38] (mP L xs [c6, c7, c8, c9, c10, c11, c12, c13, c14, c15, c16, c17, c18, c19, c20, c21, c22, c23, c24, c25, c26, c27, c28, c29, c30, c31, c32, c33, c34, c35, c36, c37, .inr (7, [.int 0, .ref 39, .ref 40, .ref 41, .ref 42, .ref 43, .ref 44, .ref 45, .int 90, .int 10, .ref 46, .int 0, .ref 47, .ref 48, .null, .int 0, .null, .int 0, .int 0, .int 0, .null, .int 0, .null, .null, .int 0, .null, .int 0, .int 0, .null, .int 0, .int 0]), .inl (0, 24, .inl (fun _ => 0)), .inl (0, 96, .inl (fun _ => 0)), .inl (0, 24, .inl (fun _ => 0)), .inl (0, 216, .inl (fun _ => 0)), .inl (1, 144, .inl (fun _ => 0)), .inl (1, 2160, .inl (fun _ => 0)), .inl (0, 8, .inl (upd (upd (upd (upd (upd (upd (upd (upd (fun _ => 0) 0 10) 1 10) 2 10) 3 10) 4 10) 5 10) 6 10) 7 10)), .inl (0, 6, .inl (upd (upd (upd (upd (upd (upd (fun _ => 0) 0 (-1)) 1 (-1)) 2 (-1)) 3 (-1)) 4 (-1)) 5 (-1))), .inl (0, 20, .inl (fun _ => 0)), .inl (0, 20, .inl (fun _ => 0)), .inl (0, 40, .inl (fun _ => 0))]) 11 2758
  refine mm_WP.go [178] 20 ⟨trivial, rfl, ⟨by decide, by decide⟩, fun r hr => ?_⟩
  have hr : r = 50 := hr
  subst hr
  show wq (d) (mm_Al 114) cd_Model_init _ 178 [some (.ref 38)] [.ref 50, .ref 38] (mP L xs [c6, c7, c8, c9, c10, c11, c12, c13, c14, c15, c16, c17, c18, c19, c20, c21, c22, c23, c24, c25, c26, c27, c28, c29, c30, c31, c32, c33, c34, c35, c36, c37, .inr (7, [.int 0, .ref 39, .ref 40, .ref 41, .ref 42, .ref 43, .ref 44, .ref 45, .int 90, .int 10, .ref 46, .int 0, .ref 47, .ref 48, .ref 49, .int 0, .null, .int 0, .int 0, .int 0, .null, .int 0, .null, .null, .int 0, .null, .int 0, .int 0, .null, .int 0, .int 0]), .inl (0, 24, .inl (fun _ => 0)), .inl (0, 96, .inl (fun _ => 0)), .inl (0, 24, .inl (fun _ => 0)), .inl (0, 216, .inl (fun _ => 0)), .inl (1, 144, .inl (fun _ => 0)), .inl (1, 2160, .inl (fun _ => 0)), .inl (0, 8, .inl (upd (upd (upd (upd (upd (upd (upd (upd (fun _ => 0) 0 10) 1 10) 2 10) 3 10) 4 10) 5 10) 6 10) 7 10)), .inl (0, 6, .inl (upd (upd (upd (upd (upd (upd (fun _ => 0) 0 (-1)) 1 (-1)) 2 (-1)) 3 (-1)) 4 (-1)) 5 (-1))), .inl (0, 20, .inl (fun _ => 0)), .inl (0, 20, .inl (fun _ => 0)), .inl (0, 40, .inl (fun _ => 0)), .inl (0, 7, .inl (fun _ => 0))]) 12 2765
  refine mm_WP.go [185] 20 ⟨trivial, rfl, ⟨by decide, by decide⟩, fun r hr => ?_⟩
  have hr : r = 51 := hr
  subst hr
  show wq (d) (mm_Al 114) cd_Model_init _ 185 [some (.ref 38)] [.ref 51, .ref 38] (mP L xs [c6, c7, c8, c9, c10, c11, c12, c13, c14, c15, c16, c17, c18, c19, c20, c21, c22, c23, c24, c25, c26, c27, c28, c29, c30, c31, c32, c33, c34, c35, c36, c37, .inr (7, [.int 0, .ref 39, .ref 40, .ref 41, .ref 42, .ref 43, .ref 44, .ref 45, .int 90, .int 10, .ref 46, .int 0, .ref 47, .ref 48, .ref 49, .int 0, .ref 50, .int 0, .int 0, .int 0, .null, .int 0, .null, .null, .int 0, .null, .int 0, .int 0, .null, .int 0, .int 0]), .inl (0, 24, .inl (fun _ => 0)), .inl (0, 96, .inl (fun _ => 0)), .inl (0, 24, .inl (fun _ => 0)), .inl (0, 216, .inl (fun _ => 0)), .inl (1, 144, .inl (fun _ => 0)), .inl (1, 2160, .inl (fun _ => 0)), .inl (0, 8, .inl (upd (upd (upd (upd (upd (upd (upd (upd (fun _ => 0) 0 10) 1 10) 2 10) 3 10) 4 10) 5 10) 6 10) 7 10)), .inl (0, 6, .inl (upd (upd (upd (upd (upd (upd (fun _ => 0) 0 (-1)) 1 (-1)) 2 (-1)) 3 (-1)) 4 (-1)) 5 (-1))), .inl (0, 20, .inl (fun _ => 0)), .inl (0, 20, .inl (fun _ => 0)), .inl (0, 40, .inl (fun _ => 0)), .inl (0, 7, .inl (fun _ => 0)), .inl (0, 3, .inl (fun _ => 0))]) 13 2768
  refine mm_WP.go [192] 20 ⟨trivial, rfl, ⟨by decide, by decide⟩, fun r hr => ?_⟩
  have hr : r = 52 := hr
  subst hr
  show wq (d) (mm_Al 114) cd_Model_init _ 192 [some (.ref 38)] [.ref 52, .ref 38] (mP L xs [c6, c7, c8, c9, c10, c11, c12, c13, c14, c15, c16, c17, c18, c19, c20, c21, c22, c23, c24, c25, c26, c27, c28, c29, c30, c31, c32, c33, c34, c35, c36, c37, .inr (7, [.int 0, .ref 39, .ref 40, .ref 41, .ref 42, .ref 43, .ref 44, .ref 45, .int 90, .int 10, .ref 46, .int 0, .ref 47, .ref 48, .ref 49, .int 0, .ref 50, .int 0, .int 0, .int 0, .ref 51, .int 0, .null, .null, .int 0, .null, .int 0, .int 0, .null, .int 0, .int 0]), .inl (0, 24, .inl (fun _ => 0)), .inl (0, 96, .inl (fun _ => 0)), .inl (0, 24, .inl (fun _ => 0)), .inl (0, 216, .inl (fun _ => 0)), .inl (1, 144, .inl (fun _ => 0)), .inl (1, 2160, .inl (fun _ => 0)), .inl (0, 8, .inl (upd (upd (upd (upd (upd (upd (upd (upd (fun _ => 0) 0 10) 1 10) 2 10) 3 10) 4 10) 5 10) 6 10) 7 10)), .inl (0, 6, .inl (upd (upd (upd (upd (upd (upd (fun _ => 0) 0 (-1)) 1 (-1)) 2 (-1)) 3 (-1)) 4 (-1)) 5 (-1))), .inl (0, 20, .inl (fun _ => 0)), .inl (0, 20, .inl (fun _ => 0)), .inl (0, 40, .inl (fun _ => 0)), .inl (0, 7, .inl (fun _ => 0)), .inl (0, 3, .inl (fun _ => 0)), .inl (0, 3, .inl (fun _ => 0))]) 14 2771
  refine mm_WP.go [200] 20 ⟨trivial, rfl, ⟨by decide, by decide⟩, fun r hr => ?_⟩
  have hr : r = 53 := hr
  subst hr
  show wq (d) (mm_Al 114) cd_Model_init _ 200 [some (.ref 38)] [.ref 53, .ref 38] (mP L xs [c6, c7, c8, c9, c10, c11, c12, c13, c14, c15, c16, c17, c18, c19, c20, c21, c22, c23, c24, c25, c26, c27, c28, c29, c30, c31, c32, c33, c34, c35, c36, c37, .inr (7, [.int 0, .ref 39, .ref 40, .ref 41, .ref 42, .ref 43, .ref 44, .ref 45, .int 90, .int 10, .ref 46, .int 0, .ref 47, .ref 48, .ref 49, .int 0, .ref 50, .int 0, .int 0, .int 0, .ref 51, .int 0, .ref 52, .null, .int 0, .null, .int 0, .int 0, .null, .int 0, .int 0]), .inl (0, 24, .inl (fun _ => 0)), .inl (0, 96, .inl (fun _ => 0)), .inl (0, 24, .inl (fun _ => 0)), .inl (0, 216, .inl (fun _ => 0)), .inl (1, 144, .inl (fun _ => 0)), .inl (1, 2160, .inl (fun _ => 0)), .inl (0, 8, .inl (upd (upd (upd (upd (upd (upd (upd (upd (fun _ => 0) 0 10) 1 10) 2 10) 3 10) 4 10) 5 10) 6 10) 7 10)), .inl (0, 6, .inl (upd (upd (upd (upd (upd (upd (fun _ => 0) 0 (-1)) 1 (-1)) 2 (-1)) 3 (-1)) 4 (-1)) 5 (-1))), .inl (0, 20, .inl (fun _ => 0)), .inl (0, 20, .inl (fun _ => 0)), .inl (0, 40, .inl (fun _ => 0)), .inl (0, 7, .inl (fun _ => 0)), .inl (0, 3, .inl (fun _ => 0)), .inl (0, 3, .inl (fun _ => 0)), .inl (0, 12, .inl (fun _ => 0))]) 15 2783
  refine mm_WP.go [208] 20 ⟨trivial, rfl, ⟨by decide, by decide⟩, fun r hr => ?_⟩
  have hr : r = 54 := hr
  subst hr
  show wq (d) (mm_Al 114) cd_Model_init _ 208 [some (.ref 38)] [.ref 54, .ref 38] (mP L xs [c6, c7, c8, c9, c10, c11, c12, c13, c14, c15, c16, c17, c18, c19, c20, c21, c22, c23, c24, c25, c26, c27, c28, c29, c30, c31, c32, c33, c34, c35, c36, c37, .inr (7, [.int 0, .ref 39, .ref 40, .ref 41, .ref 42, .ref 43, .ref 44, .ref 45, .int 90, .int 10, .ref 46, .int 0, .ref 47, .ref 48, .ref 49, .int 0, .ref 50, .int 0, .int 0, .int 0, .ref 51, .int 0, .ref 52, .ref 53, .int 0, .null, .int 0, .int 0, .null, .int 0, .int 0]), .inl (0, 24, .inl (fun _ => 0)), .inl (0, 96, .inl (fun _ => 0)), .inl (0, 24, .inl (fun _ => 0)), .inl (0, 216, .inl (fun _ => 0)), .inl (1, 144, .inl (fun _ => 0)), .inl (1, 2160, .inl (fun _ => 0)), .inl (0, 8, .inl (upd (upd (upd (upd (upd (upd (upd (upd (fun _ => 0) 0 10) 1 10) 2 10) 3 10) 4 10) 5 10) 6 10) 7 10)), .inl (0, 6, .inl (upd (upd (upd (upd (upd (upd (fun _ => 0) 0 (-1)) 1 (-1)) 2 (-1)) 3 (-1)) 4 (-1)) 5 (-1))), .inl (0, 20, .inl (fun _ => 0)), .inl (0, 20, .inl (fun _ => 0)), .inl (0, 40, .inl (fun _ => 0)), .inl (0, 7, .inl (fun _ => 0)), .inl (0, 3, .inl (fun _ => 0)), .inl (0, 3, .inl (fun _ => 0)), .inl (0, 12, .inl (fun _ => 0)), .inl (0, 90, .inl (fun _ => 0))]) 16 2873
  refine mm_WP.go [217] 20 ⟨trivial, rfl, ⟨by decide, by decide⟩, fun r hr => ?_⟩
  have hr : r = 55 := hr
  subst hr
  show wq (d) (mm_Al 114) cd_Model_init _ 217 [some (.ref 38)] [.ref 55, .ref 38] (mP L xs [c6, c7, c8, c9, c10, c11, c12, c13, c14, c15, c16, c17, c18, c19, c20, c21, c22, c23, c24, c25, c26, c27, c28, c29, c30, c31, c32, c33, c34, c35, c36, c37, .inr (7, [.int 0, .ref 39, .ref 40, .ref 41, .ref 42, .ref 43, .ref 44, .ref 45, .int 90, .int 10, .ref 46, .int 0, .ref 47, .ref 48, .ref 49, .int 0, .ref 50, .int 0, .int 0, .int 0, .ref 51, .int 0, .ref 52, .ref 53, .int 0, .ref 54, .int 0, .int 0, .null, .int 0, .int 0]), .inl (0, 24, .inl (fun _ => 0)), .inl (0, 96, .inl (fun _ => 0)), .inl (0, 24, .inl (fun _ => 0)), .inl (0, 216, .inl (fun _ => 0)), .inl (1, 144, .inl (fun _ => 0)), .inl (1, 2160, .inl (fun _ => 0)), .inl (0, 8, .inl (upd (upd (upd (upd (upd (upd (upd (upd (fun _ => 0) 0 10) 1 10) 2 10) 3 10) 4 10) 5 10) 6 10) 7 10)), .inl (0, 6, .inl (upd (upd (upd (upd (upd (upd (fun _ => 0) 0 (-1)) 1 (-1)) 2 (-1)) 3 (-1)) 4 (-1)) 5 (-1))), .inl (0, 20, .inl (fun _ => 0)), .inl (0, 20, .inl (fun _ => 0)), .inl (0, 40, .inl (fun _ => 0)), .inl (0, 7, .inl (fun _ => 0)), .inl (0, 3, .inl (fun _ => 0)), .inl (0, 3, .inl (fun _ => 0)), .inl (0, 12, .inl (fun _ => 0)), .inl (0, 90, .inl (fun _ => 0)), .inl (0, 700, .inl (fun _ => 0))]) 17 3573
  refine mm_WP.go [] 20 ⟨trivial, trivial, rfl, (upd (upd (upd (upd (upd (upd (upd (upd (fun _ => 0) 0 10) 1 10) 2 10) 3 10) 4 10) 5 10) 6 10) 7 10), (upd (upd (upd (upd (upd (upd (fun _ => 0) 0 (-1)) 1 (-1)) 2 (-1)) 3 (-1)) 4 (-1)) 5 (-1)), ?_, ?_, rfl⟩
  · intro i hi
    match i, hi with
    | 0, _ => exact rfl
    | 1, _ => exact rfl
    | 2, _ => exact rfl
    | 3, _ => exact rfl
    | 4, _ => exact rfl
    | 5, _ => exact rfl
    | 6, _ => exact rfl
    | 7, _ => exact rfl
    | k + 8, h => exact absurd h (by omega)
  · intro i hi
    match i, hi with
    | 0, _ => exact rfl
    | 1, _ => exact rfl
    | 2, _ => exact rfl
    | 3, _ => exact rfl
    | 4, _ => exact rfl
    | 5, _ => exact rfl
    | k + 6, h => exact absurd h (by omega)
end K0
