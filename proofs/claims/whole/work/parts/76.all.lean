/-! the law's walk, from its entry -/
def X0 : Tl := (0, fun _ => (0, fun _ => 0, 0, fun _ => 0, fun _ => 0, fun _ => 0), fun _ _ => false, fun _ => 10, 90, 10, fun _ => none, 0, fun _ => 0, fun _ => 0)
def E0 : St := (X0, none, fun _ => 0, 0, fun _ => 0)
theorem E0_ok : okE E0 := ⟨⟨Nat.zero_le _, fun s hs => absurd hs (Nat.not_lt_zero s), fun k hk => (show 1 ≤ 10 ∧ 10 ≤ 99 from ⟨by decide, by decide⟩), by decide, by decide, (fun w hw m hm => by cases hm), Nat.zero_le _, fun i hi => absurd hi (Nat.not_lt_zero i)⟩, (fun Y hY => by cases hY), Nat.zero_le _, fun i hi => absurd hi (Nat.not_lt_zero i)⟩
set_option maxRecDepth 40000 in
theorem lw_all (L : Nat) (xs : Nat → Int32) (hL : L ≤ 256) : mm_WP (mm_Sp mm_Pt mm_Al mm_Df 20) mm_Al mm_Df (600000, 7302250) cd_law (fun r _ => r = some (.int 1)) 0 (mm_args 4 [.ref 0]) [] (mm_m0 L xs) 0 0 := by
  refine mm_WP.go [4] 20 ⟨⟨by decide, by decide⟩, fun r hr => ?_⟩
  have hr : r = 6 := hr
  subst hr
  show mm_WP (mm_Sp mm_Pt mm_Al mm_Df 20) mm_Al mm_Df (600000, 7302250) cd_law (fun r _ => r = some (.int 1)) 4 [some (.ref 0), none, none, none] [.ref 6, .ref 6] (mP L xs [.inr (6, mm_Df 6)]) 1 8
  refine mm_WP.go [7] 20 ⟨⟨by decide, by decide⟩, _, k_word 17, ?_⟩
  rintro r m ⟨rfl, g, a, b, g2, a2, b2, ⟨h1, h2, h3⟩, ⟨h4, h5, h6⟩, rfl⟩
  refine mm_WP.go [12] 20 ⟨⟨by decide, by decide⟩, fun r hr => ?_⟩
  have hr : r = 38 := hr
  subst hr
  refine mm_WP.go [15] 20 ⟨⟨by decide, by decide⟩, _, k_model 19, ?_⟩
  rintro r m ⟨rfl, f, e, h7, h8, rfl⟩
  refine mm_WP.go [18] 20 ?_
  refine lw_loop hL 0 (Nat.zero_le _) E0 (uR (uR (uR (uR (uR (uR (fun _ _ => 0) 16 a) 17 b) 28 a2) 29 b2) 45 f) 46 e) (uI (uI (uI (uI (uI (uI (fun _ _ => 0) 9 6 90) 9 7 10) 21 6 90) 21 7 10) 38 8 90) 38 9 10) (uG (uG (fun _ _ => none) 13 g) 25 g2) [] 0 50 4380 E0_ok ?_ ?_ rfl (by decide) (by decide)
  · exact ⟨⟨rfl, fun s hs => absurd hs (Nat.not_lt_zero s), fun m hm => rfl, fun w hw => rfl, h5, rfl, rfl, h6, rfl, fun i hi => absurd hi (Nat.not_lt_zero i)⟩, fun s hs => ⟨22, h4 s hs, Or.inr (Or.inl rfl)⟩, fun s hs => ⟨10, h1 s hs, Or.inl rfl⟩, rfl, (fun Y hY => by cases hY), rfl, fun i hi => absurd hi (Nat.not_lt_zero i), fun k hk => rfl⟩
  · exact ⟨⟨rfl, fun s hs => absurd hs (Nat.not_lt_zero s), fun s w hs => absurd hs (Nat.not_lt_zero s), fun s m hs => absurd hs (Nat.not_lt_zero s), h7, rfl, rfl, h8, rfl, fun i hi => absurd hi (Nat.not_lt_zero i)⟩, rfl, (fun Y hY => by cases hY), rfl, fun i hi => absurd hi (Nat.not_lt_zero i), fun k hk => rfl⟩
