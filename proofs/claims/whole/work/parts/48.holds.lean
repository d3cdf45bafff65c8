/-! the class: has a scene a meaning -/
def ft (k : Nat) : Nat := [0, 6, 21, 39, 42, 60, 78, 84].getD k 0
theorem ft_sub : ∀ m, m < 90 → nI m - mm_t1.getD (kd m) 0 = nI (m - ft (kd m)) := by decide +kernel
theorem sh64 : ∀ n, n < 6 → ((1 : Int32) <<< (nI n &&& 31)) ||| 64 = nI (2 ^ n + 64) := by decide +kernel
theorem p64 : ∀ n, n < 6 → 2 ^ n < 64 := by decide
theorem t2_j : ∀ j, j < 15 → mm_t2.getD j 0 = nI (2 ^ jm j + 2 ^ jn j) ∧ 2 ^ jm j + 2 ^ jn j < 128 := by decide +kernel
theorem hs_fin {p q : Nat → Bool} {k : Nat} (h : ∀ i, i < k → p i = q i) {Q : mm_Q} {mem : mm_M} (hk : k ≤ 4) (hq : Q (some (.int (bI (orb q k)))) mem) : (nI (fb_ct p k) ≤ 0 → fits .boolean (.int 0) = true ∧ Q (some (.int 0)) mem) ∧ (¬ nI (fb_ct p k) ≤ 0 → fits .boolean (.int 1) = true ∧ Q (some (.int 1)) mem) := by
  have hc := fb_ct_le p k
  rw [← orb_cong h, orb_ct] at hq
  rw [show (0 : Int32) = nI 0 from rfl, nI_leI (by omega) (by omega)]
  refine ⟨fun c => ⟨rfl, ?_⟩, fun c => ⟨rfl, ?_⟩⟩
  · rw [decide_eq_false (by omega)] at hq
    exact hq
  · rw [decide_eq_true (by omega)] at hq
    exact hq
section M25
variable {L : Nat} {xs : Nat → Int32} {A I : Nat → Nat → Int32} {F : Nat → Nat → Option Nat} {P : mm_M} {r : Nat} {D : Sc}
theorem s_holdsJoined (d : Nat) (hs : SO (gm L xs A I F P) r D) (ho : okS D) {j : Nat} (hj : j < 15) : sp (d + 3) 33 [.ref r, .int (nI j)] (gm L xs A I F P) (ans (gm L xs A I F P) (bI (orb (fun i => mkb D i (jm j) && mkb D i (jn j)) (tcO D)))) := by
  have hs0 := hs
  obtain ⟨a1, b1, f, g, h1, h2, h3, h4, h5⟩ := hs
  have ix := ix_n (w := j) (N := 15) (by decide) hj
  obtain ⟨t1, t2⟩ := t2_j j hj
  have hc := s_countThings (a := 2 ^ jm j + 2 ^ jn j) (b := 2 ^ jm j + 2 ^ jn j) d hs0 ho t2
  rw [← t1, ← ix.2] at hc
  refine ⟨⟨_, h1⟩, rfl, mm_WP.go [] 40 ⟨fun c => absurd c (nI_pos (by omega)), fun _ => ⟨fun _ => ⟨ix.1, ix.1, ?_⟩, fun c => absurd (nI_lt (b := 15) hj (by decide)) c⟩⟩⟩
  refine ca hc (hs_fin (fun i hi => ?_) ho.1 ⟨rfl, rfl⟩)
  rw [ix.2]
  exact bw_2 _ (ho.2.2.1 i hi) j hj
theorem s_holds (d : Nat) (hs : SO (gm L xs A I F P) r D) (ho : okS D) {m : Nat} (hm : m < 90) : sp (d + 4) 30 [.ref r, .int (nI m)] (gm L xs A I F P) (ans (gm L xs A I F P) (bI (HS D m))) := by
  have hs0 := hs
  obtain ⟨a1, b1, f, g, h1, h2, h3, h4, h5⟩ := hs
  have hk := kd_lt m
  have ix := ix_n (w := kd m) (N := 8) (by decide) hk
  refine ⟨⟨_, h1⟩, rfl, mm_WP.go [13] 40 (ca (c_kindOf (d + 2) hm) ⟨ix.1, ?_⟩)⟩
  show wp (d + 3) (mm_Al 30) cd_Scene_holds (ans (gm L xs A I F P) (bI (HS D m))) 13 [some (.ref r), some (.int (nI m)), some (.int (nI (kd m))), some (.int (nI m - mm_t1.getD ((nI (kd m)).toNatClampNeg) 0))] [] (gm L xs A I F P)
  rw [ix.2, ft_sub m hm]
  have fin : ∀ c : Bool, c = HS D m → ∀ v, v = bI c → fits .boolean (.int v) = true ∧ ans (gm L xs A I F P) (bI (HS D m)) (some (.int v)) (gm L xs A I F P) := by
    rintro c rfl v rfl
    exact ⟨bI_fit _, rfl, rfl⟩
  have e6 : ∀ z : Nat, z < 2 ^ 31 → nI z / 6 = nI (z / 6) := fun z hz => pk_div (d := 6) hz (by decide) (by decide)
  have r6 : ∀ z : Nat, z < 2 ^ 31 → nI z - nI z / 6 * 6 = nI (z % 6) := fun z hz => pk_rem (d := 6) hz (by decide) (by decide)
  have e3 : ∀ z : Nat, z < 2 ^ 31 → nI z / 3 = nI (z / 3) := fun z hz => pk_div (d := 3) hz (by decide) (by decide)
  have r3 : ∀ z : Nat, z < 2 ^ 31 → nI z - nI z / 3 * 3 = nI (z % 3) := fun z hz => pk_rem (d := 3) hz (by decide) (by decide)
  rcases (show m < 6 ∨ (6 ≤ m ∧ m < 21) ∨ (21 ≤ m ∧ m < 39) ∨ (39 ≤ m ∧ m < 42) ∨ (42 ≤ m ∧ m < 60) ∨ (60 ≤ m ∧ m < 78) ∨ (78 ≤ m ∧ m < 84) ∨ 84 ≤ m by omega) with h | h | h | h | h | h | h | h
  · have hkd : kd m = 0 := by unfold kd; rw [if_pos h]
    have hH : HS D m = orb (fun i => mkb D i m) (tcO D) := by unfold HS; rw [if_pos h]
    rw [hkd, hH]
    have hp := p64 m h
    have hc := s_countThings (a := 2 ^ m) (b := 2 ^ m) (d + 1) hs0 ho (by omega)
    rw [← sh_one m (by omega)] at hc
    refine mm_WP.go [] 40 ⟨fun _ => ca hc (hs_fin (fun i hi => bw_1 _ (ho.2.2.1 i hi) m h) ho.1 ⟨rfl, rfl⟩), fun c => absurd rfl c⟩
  · have hkd : kd m = 1 := by unfold kd; rw [if_neg (by omega), if_pos h.2]
    have hH : HS D m = orb (fun i => mkb D i (jm (m - 6)) && mkb D i (jn (m - 6))) (tcO D) := by unfold HS; rw [if_neg (by omega), if_pos h.2]
    rw [hkd, show ft 1 = 6 from rfl, hH]
    refine mm_WP.go [] 40 ⟨fun c => absurd c (by decide), fun _ => ⟨fun _ => ca (s_holdsJoined d hs0 ho (j := m - 6) (by omega)) ⟨bI_fit _, rfl, rfl⟩, fun c => absurd rfl c⟩⟩
  · have hkd : kd m = 2 := by unfold kd; rw [if_neg (by omega), if_neg (by omega), if_pos h.2]
    have hH : HS D m = decide (fb_ct (fun i => mkb D i ((m - 21) / 3)) (tcO D) = (m - 21) % 3 + 2) := by unfold HS; rw [if_neg (by omega), if_neg (by omega), if_pos h.2]
    rw [hkd, show ft 2 = 21 from rfl, hH]
    have hn : (m - 21) / 3 < 6 := by omega
    have hp := p64 _ hn
    have hc := s_countThings (a := 2 ^ ((m - 21) / 3)) (b := 2 ^ ((m - 21) / 3)) (d + 1) hs0 ho (by omega)
    rw [← sh_one ((m - 21) / 3) (by omega), ← e3 _ (by omega)] at hc
    have hct : fb_ct (fun i => decide (thO D i &&& 2 ^ ((m - 21) / 3) = 2 ^ ((m - 21) / 3))) (tcO D) = fb_ct (fun i => mkb D i ((m - 21) / 3)) (tcO D) := fb_ct_cong (fun i hi => bw_1 _ (ho.2.2.1 i hi) _ hn)
    rw [hct] at hc
    have hle := fb_ct_le (fun i => mkb D i ((m - 21) / 3)) (tcO D)
    have h4 := ho.1
    have e : nI (m - 21) - nI (m - 21) / 3 * 3 + 2 = nI ((m - 21) % 3 + 2) := by
      rw [r3 _ (by omega), show (2 : Int32) = nI 2 from rfl, nI_add]
    have key : nI (fb_ct (fun i => mkb D i ((m - 21) / 3)) (tcO D)) = nI (m - 21) - nI (m - 21) / 3 * 3 + 2 ↔ fb_ct (fun i => mkb D i ((m - 21) / 3)) (tcO D) = (m - 21) % 3 + 2 := by
      rw [e, nI_eq (by omega) (by omega)]
    refine mm_WP.go [] 60 ⟨fun c => absurd c (by decide), fun _ => ⟨fun c => absurd c (by decide), fun _ => ⟨fun _ => ⟨by decide, by decide, ca hc ⟨by decide, fun c => ?_, fun c => ?_⟩⟩, fun c => absurd rfl c⟩⟩⟩
    · rw [decide_eq_false (fun z => c (key.mpr z))]
      exact ⟨rfl, rfl, rfl⟩
    · rw [decide_eq_true (key.mp c)]
      exact ⟨rfl, rfl, rfl⟩
  · have hkd : kd m = 3 := by unfold kd; rw [if_neg (by omega), if_neg (by omega), if_neg (by omega), if_pos h.2]
    have hH : HS D m = orb (dnb D (m - 39) 0 0) (dcO D) := by
      unfold HS
      rw [if_neg (by omega), if_neg (by omega), if_neg (by omega), if_pos h.2]
      refine orb_cong (fun i hi => ?_)
      unfold dnb
      rw [Nat.and_zero, Nat.and_zero]
      simp
    rw [hkd, show ft 3 = 39 from rfl, hH]
    refine mm_WP.go [] 60 ⟨fun c => absurd c (by decide), fun _ => ⟨fun c => absurd c (by decide), fun _ => ⟨fun c => absurd c (by decide), fun _ => ⟨fun _ => ca (s_isDone (v := m - 39) (a := 0) (b := 0) (d + 1) hs0 ho (by omega) (by decide) (by decide)) ⟨bI_fit _, rfl, rfl⟩, fun c => absurd rfl c⟩⟩⟩⟩
  · have hkd : kd m = 4 := by unfold kd; rw [if_neg (by omega), if_neg (by omega), if_neg (by omega), if_neg (by omega), if_pos h.2]
    have hn : (m - 42) % 6 < 6 := by omega
    have hp := p64 _ hn
    have hH : HS D m = orb (dnb D ((m - 42) / 6) (2 ^ ((m - 42) % 6)) 0) (dcO D) := by
      unfold HS
      rw [if_neg (by omega), if_neg (by omega), if_neg (by omega), if_neg (by omega), if_pos h.2]
      refine orb_cong (fun i hi => ?_)
      unfold dnb mkb
      rw [Nat.and_zero, bw_1 _ (ho.2.2.1 _ (ho.2.2.2 i hi).1) _ hn]
      simp
    rw [hkd, show ft 4 = 42 from rfl, hH]
    have hc := s_isDone (v := (m - 42) / 6) (a := 2 ^ ((m - 42) % 6)) (b := 0) (d + 1) hs0 ho (by omega) (by omega) (by decide)
    rw [← sh_one ((m - 42) % 6) (by omega), ← e6 _ (by omega), ← r6 _ (by omega)] at hc
    refine mm_WP.go [] 60 ⟨fun c => absurd c (by decide), fun _ => ⟨fun c => absurd c (by decide), fun _ => ⟨fun c => absurd c (by decide), fun _ => ⟨fun c => absurd c (by decide), fun _ => ⟨fun _ => ⟨by decide, by decide, ca hc ⟨bI_fit _, rfl, rfl⟩⟩, fun c => absurd rfl c⟩⟩⟩⟩⟩
  · have hkd : kd m = 5 := by unfold kd; rw [if_neg (by omega), if_neg (by omega), if_neg (by omega), if_neg (by omega), if_neg (by omega), if_pos h.2]
    have hn : (m - 60) % 6 < 6 := by omega
    have hp := p64 _ hn
    have hH : HS D m = orb (dnb D ((m - 60) / 6) 0 (2 ^ ((m - 60) % 6))) (dcO D) := by
      unfold HS
      rw [if_neg (by omega), if_neg (by omega), if_neg (by omega), if_neg (by omega), if_neg (by omega), if_pos h.2]
      refine orb_cong (fun i hi => ?_)
      unfold dnb mkb
      rw [Nat.and_zero, bw_1 _ (ho.2.2.1 _ (ho.2.2.2 i hi).2.2) _ hn]
      simp
    rw [hkd, show ft 5 = 60 from rfl, hH]
    have hc := s_isDone (v := (m - 60) / 6) (a := 0) (b := 2 ^ ((m - 60) % 6)) (d + 1) hs0 ho (by omega) (by decide) (by omega)
    rw [← sh_one ((m - 60) % 6) (by omega), ← e6 _ (by omega), ← r6 _ (by omega)] at hc
    refine mm_WP.go [] 60 ⟨fun c => absurd c (by decide), fun _ => ⟨fun c => absurd c (by decide), fun _ => ⟨fun c => absurd c (by decide), fun _ => ⟨fun c => absurd c (by decide), fun _ => ⟨fun c => absurd c (by decide), fun _ => ⟨fun _ => ⟨by decide, by decide, ca hc ⟨bI_fit _, rfl, rfl⟩⟩, fun c => absurd rfl c⟩⟩⟩⟩⟩⟩
  · have hkd : kd m = 6 := by unfold kd; rw [if_neg (by omega), if_neg (by omega), if_neg (by omega), if_neg (by omega), if_neg (by omega), if_neg (by omega), if_pos h.2]
    have hH : HS D m = orb (fun i => decide (64 ≤ thO D i) && mkb D i (m - 78)) (tcO D) := by
      unfold HS
      rw [if_neg (by omega), if_neg (by omega), if_neg (by omega), if_neg (by omega), if_neg (by omega), if_neg (by omega), if_pos h.2]
    rw [hkd, show ft 6 = 78 from rfl, hH]
    have hn : m - 78 < 6 := by omega
    have hp := p64 _ hn
    have hc := s_countThings (a := 2 ^ (m - 78) + 64) (b := 2 ^ (m - 78) + 64) (d + 1) hs0 ho (by omega)
    rw [← sh64 _ hn] at hc
    refine mm_WP.go [] 60 ⟨fun c => absurd c (by decide), fun _ => ⟨fun c => absurd c (by decide), fun _ => ⟨fun c => absurd c (by decide), fun _ => ⟨fun c => absurd c (by decide), fun _ => ⟨fun c => absurd c (by decide), fun _ => ⟨fun c => absurd c (by decide), fun _ => ⟨fun _ => ca hc (hs_fin (fun i hi => bw_3 _ (ho.2.2.1 i hi) _ hn) ho.1 ⟨rfl, rfl⟩), fun c => absurd rfl c⟩⟩⟩⟩⟩⟩⟩
  · have hkd : kd m = 7 := by unfold kd; rw [if_neg (by omega), if_neg (by omega), if_neg (by omega), if_neg (by omega), if_neg (by omega), if_neg (by omega), if_neg (by omega)]
    have hH : HS D m = orb (fun i => decide (thO D i < 64) && mkb D i (m - 84)) (tcO D) := by
      unfold HS
      rw [if_neg (by omega), if_neg (by omega), if_neg (by omega), if_neg (by omega), if_neg (by omega), if_neg (by omega), if_neg (by omega)]
    rw [hkd, show ft 7 = 84 from rfl, hH]
    have hn : m - 84 < 6 := by omega
    have hp := p64 _ hn
    have hc := s_countThings (a := 2 ^ (m - 84) + 64) (b := 2 ^ (m - 84)) (d + 1) hs0 ho (by omega)
    rw [← sh64 _ hn, ← sh_one (m - 84) (by omega)] at hc
    refine mm_WP.go [] 60 ⟨fun c => absurd c (by decide), fun _ => ⟨fun c => absurd c (by decide), fun _ => ⟨fun c => absurd c (by decide), fun _ => ⟨fun c => absurd c (by decide), fun _ => ⟨fun c => absurd c (by decide), fun _ => ⟨fun c => absurd c (by decide), fun _ => ⟨fun c => absurd c (by decide), fun _ => ca hc (hs_fin (fun i hi => bw_4 _ (ho.2.2.1 i hi) _ hn) ho.1 ⟨rfl, rfl⟩)⟩⟩⟩⟩⟩⟩⟩
end M25
