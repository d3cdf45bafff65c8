/-! the law: its rows, its loop -/
abbrev lwp (pc : Nat) (x : Int32) (mem : mm_M) (k n : Nat) : Prop := mm_WP (mm_Sp mm_Pt mm_Al mm_Df 20) mm_Al mm_Df (600000, 7302250) cd_law (fun r _ => r = some (.int 1)) pc [some (.ref 0), some (.ref 6), some (.ref 38), some (.int x)] [] mem k n
theorem lg_self (v : Int64) : lg_cmp v v = 0 := Int32.le_antisymm ((lg_cmp_le v v).mpr (Int64.le_refl v)) ((lg_cmp_ge v v).mpr (Int64.le_refl v))
section LW
variable {L : Nat} {xs : Nat → Int32} {A I : Nat → Nat → Int32} {F : Nat → Nat → Option Nat} {P : mm_M} {E E2 : St} {x : Int32} {k n : Nat}
theorem lc1 {j j2 : Nat} {as : List Value} {v : Value} (hb : bo 20 j j2 as E v E2) (hC : CI E A I F P) (hR : RI E A I) {T : Option Value → mm_M → Prop} (h : ∀ A2 I2 F2 P2, CI E2 A2 I2 F2 P2 → RI E A2 I2 → T (some v) (gm L xs A2 I2 F2 P2)) : ∃ Q1, mm_Sp mm_Pt mm_Al mm_Df 20 j (.ref 6 :: as) (gm L xs A I F P) Q1 ∧ ∀ r m, Q1 r m → T r m := by
  refine ⟨_, hb.2.1 L xs A I F P hC, ?_⟩
  rintro r m ⟨rfl, A2, I2, F2, P2, rfl, h1, h2, h3⟩
  exact h _ _ _ _ h1 (RI_of h2 h3 hR)
theorem lc2 {j j2 : Nat} {as : List Value} {v : Value} (hb : bo 20 j j2 as E v E2) (hC : CI E2 A I F P) (hR : RI E A I) {T : Option Value → mm_M → Prop} (h : ∀ A2 I2, CI E2 A2 I2 F P → RI E2 A2 I2 → T (some v) (gm L xs A2 I2 F P)) : ∃ Q1, mm_Sp mm_Pt mm_Al mm_Df 20 j2 (.ref 38 :: as) (gm L xs A I F P) Q1 ∧ ∀ r m, Q1 r m → T r m := by
  refine ⟨_, hb.2.2 L xs A I F P hR, ?_⟩
  rintro r m ⟨rfl, A2, I2, rfl, h1, h2, h3⟩
  exact h _ _ (CI_of h2 h3 hC) h1
set_option maxRecDepth 20000 in
theorem lw_feed (hE : okE E) (hC : CI E A I F P) (hR : RI E A I) (v1 : vp_in (x + 1) L) (v2 : vp_in (x + 2) L) (v3 : vp_in (x + 3) L) (next : ∀ E2 A2 I2 F2 P2, okE E2 → CI E2 A2 I2 F2 P2 → RI E2 A2 I2 → lwp 1130 x (gm L xs A2 I2 F2 P2) k n) : lwp 176 x (gm L xs A I F P) k n := by
  obtain ⟨v, E2, hb⟩ := bo_feed 18 hE (xs ((x + 1).toNatClampNeg)) (((xs ((x + 2).toNatClampNeg)).toInt64 <<< ((32 : Int32).toInt64 &&& 63)) ||| ((xs ((x + 3).toNatClampNeg)).toInt64 &&& 4294967295))
  exact mm_WP.go [1130] 80 ⟨v1, v2, v3, lc1 hb hC hR (fun A2 I2 F2 P2 hC2 hR2 => ⟨v1, v2, v3, lc2 hb hC2 hR2 (fun A3 I3 hC3 hR3 => ⟨fun _ => next _ _ _ _ _ hb.1 hC3 hR3, fun c => absurd rfl c⟩)⟩)⟩
set_option maxRecDepth 20000 in
theorem lw_scene (hk : k + 3 ≤ 600000 ∧ n + 11 ≤ 7302250) (hE : okE E) (hC : CI E A I F P) (hR : RI E A I) (v1 : vp_in (x + 1) L) (v2 : vp_in (x + 2) L) (v3 : vp_in (x + 3) L) (next : ∀ E2 A2 I2 F2 P2, okE E2 → CI E2 A2 I2 F2 P2 → RI E2 A2 I2 → lwp 1130 x (gm L xs A2 I2 F2 P2) (k + 3) (n + 11)) : lwp 239 x (gm L xs A I F P) k n := by
  obtain ⟨v, E2, hb⟩ := bo_scene 13 hE
  exact mm_WP.go [1130] 80 (⟨hk, lc1 hb hC hR (fun A2 I2 F2 P2 hC2 hR2 => lc2 hb hC2 hR2 (fun A3 I3 hC3 hR3 => ⟨fun _ => next _ _ _ _ _ hb.1 hC3 hR3, fun c => absurd rfl c⟩))⟩)
set_option maxRecDepth 20000 in
theorem lw_takeBack (hE : okE E) (hC : CI E A I F P) (hR : RI E A I) (v1 : vp_in (x + 1) L) (v2 : vp_in (x + 2) L) (v3 : vp_in (x + 3) L) (next : ∀ E2 A2 I2 F2 P2, okE E2 → CI E2 A2 I2 F2 P2 → RI E2 A2 I2 → lwp 1130 x (gm L xs A2 I2 F2 P2) k n) : lwp 252 x (gm L xs A I F P) k n := by
  obtain ⟨v, E2, hb⟩ := bo_takeBack 17 hE
  exact mm_WP.go [1130] 80 (lc1 hb hC hR (fun A2 I2 F2 P2 hC2 hR2 => lc2 hb hC2 hR2 (fun A3 I3 hC3 hR3 => ⟨fun _ => next _ _ _ _ _ hb.1 hC3 hR3, fun c => absurd rfl c⟩)))
set_option maxRecDepth 20000 in
theorem lw_thing (hE : okE E) (hC : CI E A I F P) (hR : RI E A I) (v1 : vp_in (x + 1) L) (v2 : vp_in (x + 2) L) (v3 : vp_in (x + 3) L) (next : ∀ E2 A2 I2 F2 P2, okE E2 → CI E2 A2 I2 F2 P2 → RI E2 A2 I2 → lwp 1130 x (gm L xs A2 I2 F2 P2) k n) : lwp 265 x (gm L xs A I F P) k n := by
  obtain ⟨v, E2, hb⟩ := bo_thing 17 hE (xs ((x + 1).toNatClampNeg)) (xs ((x + 2).toNatClampNeg))
  exact mm_WP.go [1130] 80 (⟨v1, v2, lc1 hb hC hR (fun A2 I2 F2 P2 hC2 hR2 => ⟨v1, v2, lc2 hb hC2 hR2 (fun A3 I3 hC3 hR3 => ⟨fun _ => next _ _ _ _ _ hb.1 hC3 hR3, fun c => absurd rfl c⟩)⟩)⟩)
set_option maxRecDepth 20000 in
theorem lw_doing (hE : okE E) (hC : CI E A I F P) (hR : RI E A I) (v1 : vp_in (x + 1) L) (v2 : vp_in (x + 2) L) (v3 : vp_in (x + 3) L) (next : ∀ E2 A2 I2 F2 P2, okE E2 → CI E2 A2 I2 F2 P2 → RI E2 A2 I2 → lwp 1130 x (gm L xs A2 I2 F2 P2) k n) : lwp 298 x (gm L xs A I F P) k n := by
  obtain ⟨v, E2, hb⟩ := bo_doing 17 hE (xs ((x + 1).toNatClampNeg)) (xs ((x + 2).toNatClampNeg))
  exact mm_WP.go [1130] 80 (⟨v1, v2, lc1 hb hC hR (fun A2 I2 F2 P2 hC2 hR2 => ⟨v1, v2, lc2 hb hC2 hR2 (fun A3 I3 hC3 hR3 => ⟨fun _ => next _ _ _ _ _ hb.1 hC3 hR3, fun c => absurd rfl c⟩)⟩)⟩)
set_option maxRecDepth 20000 in
theorem lw_say (hE : okE E) (hC : CI E A I F P) (hR : RI E A I) (v1 : vp_in (x + 1) L) (v2 : vp_in (x + 2) L) (v3 : vp_in (x + 3) L) (next : ∀ E2 A2 I2 F2 P2, okE E2 → CI E2 A2 I2 F2 P2 → RI E2 A2 I2 → lwp 1130 x (gm L xs A2 I2 F2 P2) k n) : lwp 331 x (gm L xs A I F P) k n := by
  by_cases c0 : xs ((x + 3).toNatClampNeg) = 0
  · obtain ⟨v, E2, hb⟩ := bo_say 17 hE (xs ((x + 1).toNatClampNeg)) (xs ((x + 2).toNatClampNeg)) false
    exact mm_WP.go [1130] 80 ⟨v1, v2, v3, ⟨fun _ => lc1 hb hC hR (fun A2 I2 F2 P2 hC2 hR2 => ⟨v1, v2, v3, ⟨fun _ => lc2 hb hC2 hR2 (fun A3 I3 hC3 hR3 => ⟨fun _ => next _ _ _ _ _ hb.1 hC3 hR3, fun c => absurd rfl c⟩), fun c => absurd c0 c⟩⟩), fun c => absurd c0 c⟩⟩
  · obtain ⟨v, E2, hb⟩ := bo_say 17 hE (xs ((x + 1).toNatClampNeg)) (xs ((x + 2).toNatClampNeg)) true
    exact mm_WP.go [1130] 80 ⟨v1, v2, v3, ⟨fun c => absurd c c0, fun _ => lc1 hb hC hR (fun A2 I2 F2 P2 hC2 hR2 => ⟨v1, v2, v3, ⟨fun c => absurd c c0, fun _ => lc2 hb hC2 hR2 (fun A3 I3 hC3 hR3 => ⟨fun _ => next _ _ _ _ _ hb.1 hC3 hR3, fun c => absurd rfl c⟩)⟩⟩)⟩⟩
set_option maxRecDepth 20000 in
theorem lw_said (hE : okE E) (hC : CI E A I F P) (hR : RI E A I) (v1 : vp_in (x + 1) L) (v2 : vp_in (x + 2) L) (v3 : vp_in (x + 3) L) (next : ∀ E2 A2 I2 F2 P2, okE E2 → CI E2 A2 I2 F2 P2 → RI E2 A2 I2 → lwp 1130 x (gm L xs A2 I2 F2 P2) k n) : lwp 390 x (gm L xs A I F P) k n := by
  obtain ⟨v, E2, hb⟩ := bo_said hE (xs ((x + 1).toNatClampNeg))
  exact mm_WP.go [1130] 80 (⟨v1, lc1 hb hC hR (fun A2 I2 F2 P2 hC2 hR2 => ⟨v1, lc2 hb hC2 hR2 (fun A3 I3 hC3 hR3 => ⟨fun _ => next _ _ _ _ _ hb.1 hC3 hR3, fun c => absurd rfl c⟩)⟩)⟩)
set_option maxRecDepth 20000 in
theorem lw_kind (hE : okE E) (hC : CI E A I F P) (hR : RI E A I) (v1 : vp_in (x + 1) L) (v2 : vp_in (x + 2) L) (v3 : vp_in (x + 3) L) (next : ∀ E2 A2 I2 F2 P2, okE E2 → CI E2 A2 I2 F2 P2 → RI E2 A2 I2 → lwp 1130 x (gm L xs A2 I2 F2 P2) k n) : lwp 413 x (gm L xs A I F P) k n := by
  obtain ⟨v, E2, hb⟩ := bo_kind hE (xs ((x + 1).toNatClampNeg))
  exact mm_WP.go [1130] 80 (⟨v1, lc1 hb hC hR (fun A2 I2 F2 P2 hC2 hR2 => ⟨v1, lc2 hb hC2 hR2 (fun A3 I3 hC3 hR3 => ⟨fun _ => next _ _ _ _ _ hb.1 hC3 hR3, fun c => absurd rfl c⟩)⟩)⟩)
set_option maxRecDepth 20000 in
theorem lw_weight (hE : okE E) (hC : CI E A I F P) (hR : RI E A I) (v1 : vp_in (x + 1) L) (v2 : vp_in (x + 2) L) (v3 : vp_in (x + 3) L) (next : ∀ E2 A2 I2 F2 P2, okE E2 → CI E2 A2 I2 F2 P2 → RI E2 A2 I2 → lwp 1130 x (gm L xs A2 I2 F2 P2) k n) : lwp 436 x (gm L xs A I F P) k n := by
  obtain ⟨v, E2, hb⟩ := bo_weight 18 hE (xs ((x + 1).toNatClampNeg)) (xs ((x + 2).toNatClampNeg))
  exact mm_WP.go [1130] 80 (⟨v1, v2, lc1 hb hC hR (fun A2 I2 F2 P2 hC2 hR2 => ⟨v1, v2, lc2 hb hC2 hR2 (fun A3 I3 hC3 hR3 => ⟨fun _ => next _ _ _ _ _ hb.1 hC3 hR3, fun c => absurd rfl c⟩)⟩)⟩)
set_option maxRecDepth 20000 in
theorem lw_has (hE : okE E) (hC : CI E A I F P) (hR : RI E A I) (v1 : vp_in (x + 1) L) (v2 : vp_in (x + 2) L) (v3 : vp_in (x + 3) L) (next : ∀ E2 A2 I2 F2 P2, okE E2 → CI E2 A2 I2 F2 P2 → RI E2 A2 I2 → lwp 1130 x (gm L xs A2 I2 F2 P2) k n) : lwp 469 x (gm L xs A I F P) k n := by
  obtain ⟨v, E2, hb⟩ := bo_has hE (xs ((x + 1).toNatClampNeg)) (xs ((x + 2).toNatClampNeg))
  exact mm_WP.go [1130] 80 (⟨v1, v2, lc1 hb hC hR (fun A2 I2 F2 P2 hC2 hR2 => ⟨v1, v2, lc2 hb hC2 hR2 (fun A3 I3 hC3 hR3 => ⟨fun _ => next _ _ _ _ _ hb.1 hC3 hR3, fun c => absurd rfl c⟩)⟩)⟩)
set_option maxRecDepth 20000 in
theorem lw_left (hE : okE E) (hC : CI E A I F P) (hR : RI E A I) (v1 : vp_in (x + 1) L) (v2 : vp_in (x + 2) L) (v3 : vp_in (x + 3) L) (next : ∀ E2 A2 I2 F2 P2, okE E2 → CI E2 A2 I2 F2 P2 → RI E2 A2 I2 → lwp 1130 x (gm L xs A2 I2 F2 P2) k n) : lwp 502 x (gm L xs A I F P) k n := by
  obtain ⟨v, E2, hb⟩ := bo_left hE (xs ((x + 1).toNatClampNeg)) (xs ((x + 2).toNatClampNeg)) (xs ((x + 3).toNatClampNeg))
  exact mm_WP.go [1130] 80 (⟨v1, v2, v3, lc1 hb hC hR (fun A2 I2 F2 P2 hC2 hR2 => ⟨v1, v2, v3, lc2 hb hC2 hR2 (fun A3 I3 hC3 hR3 => ⟨fun _ => next _ _ _ _ _ hb.1 hC3 hR3, fun c => absurd rfl c⟩)⟩)⟩)
set_option maxRecDepth 20000 in
theorem lw_plainest (hE : okE E) (hC : CI E A I F P) (hR : RI E A I) (v1 : vp_in (x + 1) L) (v2 : vp_in (x + 2) L) (v3 : vp_in (x + 3) L) (next : ∀ E2 A2 I2 F2 P2, okE E2 → CI E2 A2 I2 F2 P2 → RI E2 A2 I2 → lwp 1130 x (gm L xs A2 I2 F2 P2) k n) : lwp 545 x (gm L xs A I F P) k n := by
  obtain ⟨v, E2, hb⟩ := bo_plainest hE (xs ((x + 1).toNatClampNeg)) (xs ((x + 2).toNatClampNeg))
  exact mm_WP.go [1130] 80 (⟨v1, v2, lc1 hb hC hR (fun A2 I2 F2 P2 hC2 hR2 => ⟨v1, v2, lc2 hb hC2 hR2 (fun A3 I3 hC3 hR3 => ⟨fun _ => next _ _ _ _ _ hb.1 hC3 hR3, fun c => absurd rfl c⟩)⟩)⟩)
set_option maxRecDepth 20000 in
theorem lw_judge (hE : okE E) (hC : CI E A I F P) (hR : RI E A I) (v1 : vp_in (x + 1) L) (v2 : vp_in (x + 2) L) (v3 : vp_in (x + 3) L) (next : ∀ E2 A2 I2 F2 P2, okE E2 → CI E2 A2 I2 F2 P2 → RI E2 A2 I2 → lwp 1130 x (gm L xs A2 I2 F2 P2) k n) : lwp 578 x (gm L xs A I F P) k n := by
  obtain ⟨v, E2, hb⟩ := bo_judge hE (xs ((x + 1).toNatClampNeg)) (xs ((x + 2).toNatClampNeg))
  exact mm_WP.go [1130] 80 (⟨v1, v2, lc1 hb hC hR (fun A2 I2 F2 P2 hC2 hR2 => ⟨v1, v2, lc2 hb hC2 hR2 (fun A3 I3 hC3 hR3 => ⟨fun _ => next _ _ _ _ _ hb.1 hC3 hR3, fun c => absurd rfl c⟩)⟩)⟩)
set_option maxRecDepth 20000 in
theorem lw_set (hE : okE E) (hC : CI E A I F P) (hR : RI E A I) (v1 : vp_in (x + 1) L) (v2 : vp_in (x + 2) L) (v3 : vp_in (x + 3) L) (next : ∀ E2 A2 I2 F2 P2, okE E2 → CI E2 A2 I2 F2 P2 → RI E2 A2 I2 → lwp 1130 x (gm L xs A2 I2 F2 P2) k n) : lwp 611 x (gm L xs A I F P) k n := by
  obtain ⟨v, E2, hb⟩ := bo_set 18 hE (xs ((x + 1).toNatClampNeg)) (xs ((x + 2).toNatClampNeg))
  exact mm_WP.go [1130] 80 (⟨v1, v2, lc1 hb hC hR (fun A2 I2 F2 P2 hC2 hR2 => ⟨v1, v2, lc2 hb hC2 hR2 (fun A3 I3 hC3 hR3 => ⟨fun _ => next _ _ _ _ _ hb.1 hC3 hR3, fun c => absurd rfl c⟩)⟩)⟩)
set_option maxRecDepth 20000 in
theorem lw_likelihood (hE : okE E) (hC : CI E A I F P) (hR : RI E A I) (v1 : vp_in (x + 1) L) (v2 : vp_in (x + 2) L) (v3 : vp_in (x + 3) L) (next : ∀ E2 A2 I2 F2 P2, okE E2 → CI E2 A2 I2 F2 P2 → RI E2 A2 I2 → lwp 1130 x (gm L xs A2 I2 F2 P2) k n) : lwp 644 x (gm L xs A I F P) k n := by
  obtain ⟨v, E2, hb⟩ := bo_likelihood hE (xs ((x + 1).toNatClampNeg)) (xs ((x + 2).toNatClampNeg))
  exact mm_WP.go [1130] 80 (⟨v1, v2, lc1 hb hC hR (fun A2 I2 F2 P2 hC2 hR2 => ⟨v1, v2, lc2 hb hC2 hR2 (fun A3 I3 hC3 hR3 => ⟨fun _ => next _ _ _ _ _ hb.1 hC3 hR3, fun c => absurd (lg_self v) c⟩)⟩)⟩)
set_option maxRecDepth 20000 in
theorem lw_chance (hE : okE E) (hC : CI E A I F P) (hR : RI E A I) (v1 : vp_in (x + 1) L) (v2 : vp_in (x + 2) L) (v3 : vp_in (x + 3) L) (next : ∀ E2 A2 I2 F2 P2, okE E2 → CI E2 A2 I2 F2 P2 → RI E2 A2 I2 → lwp 1130 x (gm L xs A2 I2 F2 P2) k n) : lwp 678 x (gm L xs A I F P) k n := by
  obtain ⟨v, E2, hb⟩ := bo_chance hE (xs ((x + 1).toNatClampNeg)) (xs ((x + 2).toNatClampNeg)) (xs ((x + 3).toNatClampNeg))
  exact mm_WP.go [1130] 80 (⟨v1, v2, v3, lc1 hb hC hR (fun A2 I2 F2 P2 hC2 hR2 => ⟨v1, v2, v3, lc2 hb hC2 hR2 (fun A3 I3 hC3 hR3 => ⟨fun _ => next _ _ _ _ _ hb.1 hC3 hR3, fun c => absurd (lg_self v) c⟩)⟩)⟩)
set_option maxRecDepth 20000 in
theorem lw_likeliest (hE : okE E) (hC : CI E A I F P) (hR : RI E A I) (v1 : vp_in (x + 1) L) (v2 : vp_in (x + 2) L) (v3 : vp_in (x + 3) L) (next : ∀ E2 A2 I2 F2 P2, okE E2 → CI E2 A2 I2 F2 P2 → RI E2 A2 I2 → lwp 1130 x (gm L xs A2 I2 F2 P2) k n) : lwp 722 x (gm L xs A I F P) k n := by
  obtain ⟨v, E2, hb⟩ := bo_likeliest hE (xs ((x + 1).toNatClampNeg))
  exact mm_WP.go [1130] 80 (⟨v1, lc1 hb hC hR (fun A2 I2 F2 P2 hC2 hR2 => ⟨v1, lc2 hb hC2 hR2 (fun A3 I3 hC3 hR3 => ⟨fun _ => next _ _ _ _ _ hb.1 hC3 hR3, fun c => absurd rfl c⟩)⟩)⟩)
set_option maxRecDepth 20000 in
theorem lw_givings (hE : okE E) (hC : CI E A I F P) (hR : RI E A I) (v1 : vp_in (x + 1) L) (v2 : vp_in (x + 2) L) (v3 : vp_in (x + 3) L) (next : ∀ E2 A2 I2 F2 P2, okE E2 → CI E2 A2 I2 F2 P2 → RI E2 A2 I2 → lwp 1130 x (gm L xs A2 I2 F2 P2) k n) : lwp 745 x (gm L xs A I F P) k n := by
  obtain ⟨v, E2, hb⟩ := bo_givings hE (xs ((x + 1).toNatClampNeg))
  exact mm_WP.go [1130] 80 (⟨v1, lc1 hb hC hR (fun A2 I2 F2 P2 hC2 hR2 => ⟨v1, lc2 hb hC2 hR2 (fun A3 I3 hC3 hR3 => ⟨fun _ => next _ _ _ _ _ hb.1 hC3 hR3, fun c => absurd rfl c⟩)⟩)⟩)
set_option maxRecDepth 20000 in
theorem lw_giving (hE : okE E) (hC : CI E A I F P) (hR : RI E A I) (v1 : vp_in (x + 1) L) (v2 : vp_in (x + 2) L) (v3 : vp_in (x + 3) L) (next : ∀ E2 A2 I2 F2 P2, okE E2 → CI E2 A2 I2 F2 P2 → RI E2 A2 I2 → lwp 1130 x (gm L xs A2 I2 F2 P2) k n) : lwp 768 x (gm L xs A I F P) k n := by
  obtain ⟨v, E2, hb⟩ := bo_giving hE (xs ((x + 1).toNatClampNeg)) (xs ((x + 2).toNatClampNeg))
  exact mm_WP.go [1130] 80 (⟨v1, v2, lc1 hb hC hR (fun A2 I2 F2 P2 hC2 hR2 => ⟨v1, v2, lc2 hb hC2 hR2 (fun A3 I3 hC3 hR3 => ⟨fun _ => next _ _ _ _ _ hb.1 hC3 hR3, fun c => absurd rfl c⟩)⟩)⟩)
set_option maxRecDepth 20000 in
theorem lw_two (hE : okE E) (hC : CI E A I F P) (hR : RI E A I) (v1 : vp_in (x + 1) L) (v2 : vp_in (x + 2) L) (v3 : vp_in (x + 3) L) (next : ∀ E2 A2 I2 F2 P2, okE E2 → CI E2 A2 I2 F2 P2 → RI E2 A2 I2 → lwp 1130 x (gm L xs A2 I2 F2 P2) k n) : lwp 801 x (gm L xs A I F P) k n := by
  obtain ⟨v, E2, hb⟩ := bo_two hE (xs ((x + 1).toNatClampNeg)) (xs ((x + 2).toNatClampNeg))
  exact mm_WP.go [1130] 80 (⟨v1, v2, lc1 hb hC hR (fun A2 I2 F2 P2 hC2 hR2 => ⟨v1, v2, lc2 hb hC2 hR2 (fun A3 I3 hC3 hR3 => ⟨fun _ => next _ _ _ _ _ hb.1 hC3 hR3, fun c => absurd rfl c⟩)⟩)⟩)
set_option maxRecDepth 20000 in
theorem lw_give (hE : okE E) (hC : CI E A I F P) (hR : RI E A I) (v1 : vp_in (x + 1) L) (v2 : vp_in (x + 2) L) (v3 : vp_in (x + 3) L) (next : ∀ E2 A2 I2 F2 P2, okE E2 → CI E2 A2 I2 F2 P2 → RI E2 A2 I2 → lwp 1130 x (gm L xs A2 I2 F2 P2) k n) : lwp 834 x (gm L xs A I F P) k n := by
  obtain ⟨v, E2, hb⟩ := bo_give 17 hE (xs ((x + 1).toNatClampNeg)) (xs ((x + 2).toNatClampNeg))
  exact mm_WP.go [1130] 80 (⟨v1, v2, lc1 hb hC hR (fun A2 I2 F2 P2 hC2 hR2 => ⟨v1, v2, lc2 hb hC2 hR2 (fun A3 I3 hC3 hR3 => ⟨fun _ => next _ _ _ _ _ hb.1 hC3 hR3, fun c => absurd rfl c⟩)⟩)⟩)
set_option maxRecDepth 20000 in
theorem lw_saying (hE : okE E) (hC : CI E A I F P) (hR : RI E A I) (v1 : vp_in (x + 1) L) (v2 : vp_in (x + 2) L) (v3 : vp_in (x + 3) L) (next : ∀ E2 A2 I2 F2 P2, okE E2 → CI E2 A2 I2 F2 P2 → RI E2 A2 I2 → lwp 1130 x (gm L xs A2 I2 F2 P2) k n) : lwp 867 x (gm L xs A I F P) k n := by
  obtain ⟨v, E2, hb⟩ := bo_saying 17 hE (xs ((x + 1).toNatClampNeg)) (xs ((x + 2).toNatClampNeg))
  exact mm_WP.go [1130] 80 (⟨v1, v2, lc1 hb hC hR (fun A2 I2 F2 P2 hC2 hR2 => ⟨v1, v2, lc2 hb hC2 hR2 (fun A3 I3 hC3 hR3 => ⟨fun _ => next _ _ _ _ _ hb.1 hC3 hR3, fun c => absurd rfl c⟩)⟩)⟩)
set_option maxRecDepth 20000 in
theorem lw_orders (hE : okE E) (hC : CI E A I F P) (hR : RI E A I) (v1 : vp_in (x + 1) L) (v2 : vp_in (x + 2) L) (v3 : vp_in (x + 3) L) (next : ∀ E2 A2 I2 F2 P2, okE E2 → CI E2 A2 I2 F2 P2 → RI E2 A2 I2 → lwp 1130 x (gm L xs A2 I2 F2 P2) k n) : lwp 900 x (gm L xs A I F P) k n := by
  obtain ⟨v, E2, hb⟩ := bo_orders 15 hE
  exact mm_WP.go [1130] 80 (lc1 hb hC hR (fun A2 I2 F2 P2 hC2 hR2 => lc2 hb hC2 hR2 (fun A3 I3 hC3 hR3 => ⟨fun _ => next _ _ _ _ _ hb.1 hC3 hR3, fun c => absurd rfl c⟩)))
set_option maxRecDepth 20000 in
theorem lw_next (hE : okE E) (hC : CI E A I F P) (hR : RI E A I) (v1 : vp_in (x + 1) L) (v2 : vp_in (x + 2) L) (v3 : vp_in (x + 3) L) (next : ∀ E2 A2 I2 F2 P2, okE E2 → CI E2 A2 I2 F2 P2 → RI E2 A2 I2 → lwp 1130 x (gm L xs A2 I2 F2 P2) k n) : lwp 913 x (gm L xs A I F P) k n := by
  obtain ⟨v, E2, hb⟩ := bo_next hE (xs ((x + 1).toNatClampNeg))
  exact mm_WP.go [1130] 80 (⟨v1, lc1 hb hC hR (fun A2 I2 F2 P2 hC2 hR2 => ⟨v1, lc2 hb hC2 hR2 (fun A3 I3 hC3 hR3 => ⟨fun _ => next _ _ _ _ _ hb.1 hC3 hR3, fun c => absurd rfl c⟩)⟩)⟩)
set_option maxRecDepth 20000 in
theorem lw_enough (hE : okE E) (hC : CI E A I F P) (hR : RI E A I) (v1 : vp_in (x + 1) L) (v2 : vp_in (x + 2) L) (v3 : vp_in (x + 3) L) (next : ∀ E2 A2 I2 F2 P2, okE E2 → CI E2 A2 I2 F2 P2 → RI E2 A2 I2 → lwp 1130 x (gm L xs A2 I2 F2 P2) k n) : lwp 936 x (gm L xs A I F P) k n := by
  obtain ⟨v, E2, hb⟩ := bo_enough hE (xs ((x + 1).toNatClampNeg))
  exact mm_WP.go [1130] 80 (⟨v1, lc1 hb hC hR (fun A2 I2 F2 P2 hC2 hR2 => ⟨v1, lc2 hb hC2 hR2 (fun A3 I3 hC3 hR3 => ⟨fun _ => next _ _ _ _ _ hb.1 hC3 hR3, fun c => absurd rfl c⟩)⟩)⟩)
set_option maxRecDepth 20000 in
theorem lw_help (hE : okE E) (hC : CI E A I F P) (hR : RI E A I) (v1 : vp_in (x + 1) L) (v2 : vp_in (x + 2) L) (v3 : vp_in (x + 3) L) (next : ∀ E2 A2 I2 F2 P2, okE E2 → CI E2 A2 I2 F2 P2 → RI E2 A2 I2 → lwp 1130 x (gm L xs A2 I2 F2 P2) k n) : lwp 959 x (gm L xs A I F P) k n := by
  obtain ⟨v, E2, hb⟩ := bo_help hE (xs ((x + 1).toNatClampNeg)) (xs ((x + 2).toNatClampNeg)) (xs ((x + 3).toNatClampNeg))
  exact mm_WP.go [1130] 80 (⟨v1, v2, v3, lc1 hb hC hR (fun A2 I2 F2 P2 hC2 hR2 => ⟨v1, v2, v3, lc2 hb hC2 hR2 (fun A3 I3 hC3 hR3 => ⟨fun _ => next _ _ _ _ _ hb.1 hC3 hR3, fun c => absurd rfl c⟩)⟩)⟩)
set_option maxRecDepth 20000 in
theorem lw_never (hE : okE E) (hC : CI E A I F P) (hR : RI E A I) (v1 : vp_in (x + 1) L) (v2 : vp_in (x + 2) L) (v3 : vp_in (x + 3) L) (next : ∀ E2 A2 I2 F2 P2, okE E2 → CI E2 A2 I2 F2 P2 → RI E2 A2 I2 → lwp 1130 x (gm L xs A2 I2 F2 P2) k n) : lwp 1002 x (gm L xs A I F P) k n := by
  obtain ⟨v, E2, hb⟩ := bo_never hE
  exact mm_WP.go [1130] 80 (lc1 hb hC hR (fun A2 I2 F2 P2 hC2 hR2 => lc2 hb hC2 hR2 (fun A3 I3 hC3 hR3 => ⟨fun _ => next _ _ _ _ _ hb.1 hC3 hR3, fun c => absurd rfl c⟩)))
set_option maxRecDepth 20000 in
theorem lw_same (hE : okE E) (hC : CI E A I F P) (hR : RI E A I) (v1 : vp_in (x + 1) L) (v2 : vp_in (x + 2) L) (v3 : vp_in (x + 3) L) (next : ∀ E2 A2 I2 F2 P2, okE E2 → CI E2 A2 I2 F2 P2 → RI E2 A2 I2 → lwp 1130 x (gm L xs A2 I2 F2 P2) k n) : lwp 1015 x (gm L xs A I F P) k n := by
  obtain ⟨v, E2, hb⟩ := bo_same hE (xs ((x + 1).toNatClampNeg)) (xs ((x + 2).toNatClampNeg))
  exact mm_WP.go [1130] 80 (⟨v1, v2, lc1 hb hC hR (fun A2 I2 F2 P2 hC2 hR2 => ⟨v1, v2, lc2 hb hC2 hR2 (fun A3 I3 hC3 hR3 => ⟨fun _ => next _ _ _ _ _ hb.1 hC3 hR3, fun c => absurd rfl c⟩)⟩)⟩)
set_option maxRecDepth 20000 in
theorem lw_part (hE : okE E) (hC : CI E A I F P) (hR : RI E A I) (v1 : vp_in (x + 1) L) (v2 : vp_in (x + 2) L) (v3 : vp_in (x + 3) L) (next : ∀ E2 A2 I2 F2 P2, okE E2 → CI E2 A2 I2 F2 P2 → RI E2 A2 I2 → lwp 1130 x (gm L xs A2 I2 F2 P2) k n) : lwp 1048 x (gm L xs A I F P) k n := by
  obtain ⟨v, E2, hb⟩ := bo_part hE (xs ((x + 1).toNatClampNeg)) (xs ((x + 2).toNatClampNeg))
  exact mm_WP.go [1130] 80 (⟨v1, v2, lc1 hb hC hR (fun A2 I2 F2 P2 hC2 hR2 => ⟨v1, v2, lc2 hb hC2 hR2 (fun A3 I3 hC3 hR3 => ⟨fun _ => next _ _ _ _ _ hb.1 hC3 hR3, fun c => absurd rfl c⟩)⟩)⟩)
set_option maxRecDepth 20000 in
theorem lw_image (hE : okE E) (hC : CI E A I F P) (hR : RI E A I) (v1 : vp_in (x + 1) L) (v2 : vp_in (x + 2) L) (v3 : vp_in (x + 3) L) (next : ∀ E2 A2 I2 F2 P2, okE E2 → CI E2 A2 I2 F2 P2 → RI E2 A2 I2 → lwp 1130 x (gm L xs A2 I2 F2 P2) k n) : lwp 1081 x (gm L xs A I F P) k n := by
  obtain ⟨v, E2, hb⟩ := bo_image 17 hE
  exact mm_WP.go [1130] 80 (lc1 hb hC hR (fun A2 I2 F2 P2 hC2 hR2 => lc2 hb hC2 hR2 (fun A3 I3 hC3 hR3 => ⟨fun _ => next _ _ _ _ _ hb.1 hC3 hR3, fun c => absurd rfl c⟩)))
set_option maxRecDepth 20000 in
theorem lw_restore (hE : okE E) (hC : CI E A I F P) (hR : RI E A I) (v1 : vp_in (x + 1) L) (v2 : vp_in (x + 2) L) (v3 : vp_in (x + 3) L) (next : ∀ E2 A2 I2 F2 P2, okE E2 → CI E2 A2 I2 F2 P2 → RI E2 A2 I2 → lwp 1130 x (gm L xs A2 I2 F2 P2) k n) : lwp 1094 x (gm L xs A I F P) k n := by
  obtain ⟨v, E2, hb⟩ := bo_restore 16 hE
  exact mm_WP.go [1130] 80 (lc1 hb hC hR (fun A2 I2 F2 P2 hC2 hR2 => lc2 hb hC2 hR2 (fun A3 I3 hC3 hR3 => ⟨fun _ => next _ _ _ _ _ hb.1 hC3 hR3, fun c => absurd rfl c⟩)))
set_option maxRecDepth 20000 in
theorem lw_count (hE : okE E) (hC : CI E A I F P) (hR : RI E A I) (v1 : vp_in (x + 1) L) (v2 : vp_in (x + 2) L) (v3 : vp_in (x + 3) L) (next : ∀ E2 A2 I2 F2 P2, okE E2 → CI E2 A2 I2 F2 P2 → RI E2 A2 I2 → lwp 1130 x (gm L xs A2 I2 F2 P2) k n) : lwp 1107 x (gm L xs A I F P) k n := by
  obtain ⟨v, E2, hb⟩ := bo_count 17 hE (xs ((x + 1).toNatClampNeg))
  exact mm_WP.go [1130] 80 (⟨v1, lc1 hb hC hR (fun A2 I2 F2 P2 hC2 hR2 => ⟨v1, lc2 hb hC2 hR2 (fun A3 I3 hC3 hR3 => ⟨fun _ => next _ _ _ _ _ hb.1 hC3 hR3, fun c => absurd rfl c⟩)⟩)⟩)
end LW
set_option maxRecDepth 20000 in
theorem lw_loop {L : Nat} {xs : Nat → Int32} (hL : L ≤ 256) : ∀ q, q ≤ L / 4 → ∀ (E : St) (A I : Nat → Nat → Int32) (F : Nat → Nat → Option Nat) (P : mm_M) (x : Int32) (k n : Nat), okE E → CI E A I F P → RI E A I → x = nI (4 * q) → k ≤ 50 + 3 * q → n ≤ 4380 + 11 * q → lwp 18 x (gm L xs A I F P) k n := by
  have cmp : ∀ q : Nat, q ≤ 64 → ((nI L - 4 : Int32) < nI (4 * q) ↔ L < 4 * q + 4) := by
    intro q hq
    rw [fa_lt, show (4 : Int32) = nI 4 from rfl, pk_sub_toInt (by omega) (by omega), nI_toInt (by omega)]
    omega
  refine rep (L / 4) ?_ ?_
  · intro E A I F P x k n hE hC hR hx hk hn
    subst hx
    exact mm_WP.go [18] 40 ⟨fun _ => ⟨rfl, rfl⟩, fun c => absurd ((cmp _ (by omega)).mpr (by omega)) c⟩
  · intro q hq ih E A I F P x k n hE hC hR hx hk hn
    subst hx
    have ix : ∀ j, j < 4 → vp_in (nI (4 * q) + nI j) L := fun j hj => by
      rw [nI_add]
      exact vp_in_nI (by omega) (by omega)
    have i0 : vp_in (nI (4 * q)) L := vp_in_nI (by omega) (by omega)
    have v1 := ix 1 (by decide)
    have v2 := ix 2 (by decide)
    have v3 := ix 3 (by decide)
    have nx : ∀ (k2 n2 : Nat), k2 ≤ k + 3 → n2 ≤ n + 11 → ∀ E2 A2 I2 F2 P2, okE E2 → CI E2 A2 I2 F2 P2 → RI E2 A2 I2 → lwp 1130 (nI (4 * q)) (gm L xs A2 I2 F2 P2) k2 n2 := by
      intro k2 n2 h1 h2 E2 A2 I2 F2 P2 hE2 hC2 hR2
      refine mm_WP.go [18] 40 (ih E2 A2 I2 F2 P2 _ _ _ hE2 hC2 hR2 ?_ (by omega) (by omega))
      rw [show (4 : Int32) = nI 4 from rfl, nI_add]
      rfl
    have nx0 := nx k n (by omega) (by omega)
    have nx3 := nx (k + 3) (n + 11) (by omega) (by omega)
    refine mm_WP.go [176, 239, 252, 265, 298, 331, 390, 413, 436, 469, 502, 545, 578, 611, 644, 678, 722, 745, 768, 801, 834, 867, 900, 913, 936, 959, 1002, 1015, 1048, 1081, 1094, 1107, 1130, 1136] 40 ⟨fun c => absurd ((cmp _ (by omega)).mp c) (by omega), fun _ => ⟨i0, ?_⟩⟩
    exact ⟨fun _ => lw_feed hE hC hR v1 v2 v3 nx0, fun _ => ⟨fun _ => lw_scene ⟨by omega, by omega⟩ hE hC hR v1 v2 v3 nx3, fun _ => ⟨fun _ => lw_takeBack hE hC hR v1 v2 v3 nx0, fun _ => ⟨fun _ => lw_thing hE hC hR v1 v2 v3 nx0, fun _ => ⟨fun _ => lw_doing hE hC hR v1 v2 v3 nx0, fun _ => ⟨fun _ => lw_say hE hC hR v1 v2 v3 nx0, fun _ => ⟨fun _ => lw_said hE hC hR v1 v2 v3 nx0, fun _ => ⟨fun _ => lw_kind hE hC hR v1 v2 v3 nx0, fun _ => ⟨fun _ => lw_weight hE hC hR v1 v2 v3 nx0, fun _ => ⟨fun _ => lw_has hE hC hR v1 v2 v3 nx0, fun _ => ⟨fun _ => lw_left hE hC hR v1 v2 v3 nx0, fun _ => ⟨fun _ => lw_plainest hE hC hR v1 v2 v3 nx0, fun _ => ⟨fun _ => lw_judge hE hC hR v1 v2 v3 nx0, fun _ => ⟨fun _ => lw_set hE hC hR v1 v2 v3 nx0, fun _ => ⟨fun _ => lw_likelihood hE hC hR v1 v2 v3 nx0, fun _ => ⟨fun _ => lw_chance hE hC hR v1 v2 v3 nx0, fun _ => ⟨fun _ => lw_likeliest hE hC hR v1 v2 v3 nx0, fun _ => ⟨fun _ => lw_givings hE hC hR v1 v2 v3 nx0, fun _ => ⟨fun _ => lw_giving hE hC hR v1 v2 v3 nx0, fun _ => ⟨fun _ => lw_two hE hC hR v1 v2 v3 nx0, fun _ => ⟨fun _ => lw_give hE hC hR v1 v2 v3 nx0, fun _ => ⟨fun _ => lw_saying hE hC hR v1 v2 v3 nx0, fun _ => ⟨fun _ => lw_orders hE hC hR v1 v2 v3 nx0, fun _ => ⟨fun _ => lw_next hE hC hR v1 v2 v3 nx0, fun _ => ⟨fun _ => lw_enough hE hC hR v1 v2 v3 nx0, fun _ => ⟨fun _ => lw_help hE hC hR v1 v2 v3 nx0, fun _ => ⟨fun _ => lw_never hE hC hR v1 v2 v3 nx0, fun _ => ⟨fun _ => lw_same hE hC hR v1 v2 v3 nx0, fun _ => ⟨fun _ => lw_part hE hC hR v1 v2 v3 nx0, fun _ => ⟨fun _ => lw_image hE hC hR v1 v2 v3 nx0, fun _ => ⟨fun _ => lw_restore hE hC hR v1 v2 v3 nx0, fun _ => ⟨fun _ => lw_count hE hC hR v1 v2 v3 nx0, fun _ => nx0 E A I F P hE hC hR⟩⟩⟩⟩⟩⟩⟩⟩⟩⟩⟩⟩⟩⟩⟩⟩⟩⟩⟩⟩⟩⟩⟩⟩⟩⟩⟩⟩⟩⟩⟩⟩
