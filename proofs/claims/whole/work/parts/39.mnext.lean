/-! the reference: next -/
section M17
variable {L : Nat} {xs : Nat → Int32} {A I : Nat → Nat → Int32} {F : Nat → Nat → Option Nat} {P : mm_M} {n : Nat} {H S : Nat → Nat → Bool}
theorem m_nx_in {d : Nat} {B : Nat × Nat} {Q : mm_Q} (hR : RS n H S A I) {w s : Nat} (hw : w < 6) (hs : s < n) {y z : Int32}
    (hq : ∀ x u, wp (d + 1) B cd_Model_next Q 139 [some (.ref 38), some (.int (nI w)), some (.int y), some (.int z), some (.int (nI s)), some (.int (nI (fb_ct (fun m => L0 n H S w m && H s m) 90))), some (.int (nI (fb_ct (fun m => L0 n H S w m && !H s m) 90))), some (.int x), u] [] (gm L xs A I F P)) :
    ∀ (j k : Nat) (x a b : Int32) (u : Option Value), j + k = 90 → x = nI k → a = nI (fb_ct (fun m => L0 n H S w m && H s m) k) → b = nI (fb_ct (fun m => L0 n H S w m && !H s m) k) →
      wp (d + 1) B cd_Model_next Q 54 [some (.ref 38), some (.int (nI w)), some (.int y), some (.int z), some (.int (nI s)), some (.int a), some (.int b), some (.int x), u] [] (gm L xs A I F P) := by
  have hR0 := hR
  obtain ⟨hn, hI, hS, hH⟩ := hR
  intro j
  induction j with
  | zero =>
    intro k x a b u hk hx ha hb
    refine mm_WP.go [54, 139] 100 (lp_ge (N := 90) hx rfl (by omega) (by omega) (fun h => ?_) (fun h => absurd h (by omega)))
    subst h
    rw [ha, hb]
    exact hq _ _
  | succ j ih =>
    intro k x a b u hk hx ha hb
    refine mm_WP.go [54, 139] 100 (lp_ge (N := 90) hx rfl (by omega) (by omega) (fun h => absurd h (by omega)) (fun _ => ?_))
    subst hx
    have i2 := ix_ma (c := 90) (s := s) (w := k) (N := 2160) (by decide) (by omega)
    have v2 : A 44 ((90 * nI s + nI k).toNatClampNeg) = bI (H s k) := by
      rw [show (90 * nI s + nI k).toNatClampNeg = 90 * s + k from i2.2]
      exact hH s k hs (by omega)
    refine cy (m_isLeft d hR0 hw (by omega) 0) (fun h => e1 ?_) (fun h => e0 (e0 ?_))
    · have h1 : L0 n H S w k = true := Lp_iff.mpr h
      refine ⟨i2.1, fun c => ?_, fun c => ?_⟩
      · have h2 : H s k = false := bI_0 (v2 ▸ c)
        refine e1 ⟨i2.1, fun c2 => absurd c c2, fun c2 => ?_⟩
        refine ih (k + 1) _ _ _ _ (by omega) (nI_1 k) ?_ ?_
        · rw [ha, fb_ct_succ, h1, h2]
          exact Int32.add_zero _
        · rw [hb, fb_ct_succ, h1, h2]
          exact nI_1 _
      · have h2 : H s k = true := bI_1 (v2 ▸ c)
        refine e1 ⟨i2.1, fun c2 => ?_, fun c2 => absurd c2 c⟩
        refine ih (k + 1) _ _ _ _ (by omega) (nI_1 k) ?_ ?_
        · rw [ha, fb_ct_succ, h1, h2]
          exact nI_1 _
        · rw [hb, fb_ct_succ, h1, h2]
          exact Int32.add_zero _
    · refine ih (k + 1) _ _ _ _ (by omega) (nI_1 k) ?_ ?_
      · rw [ha, fb_ct_succ, L0_ff h]
        exact Int32.add_zero _
      · rw [hb, fb_ct_succ, L0_ff h]
        exact Int32.add_zero _
def ol (f : Nat → Nat) : Option Nat → Nat
  | none => 0
  | some c => f c
theorem m_nx_loop {d : Nat} {B : Nat × Nat} {Q : mm_Q} (hR : RS n H S A I) {w : Nat} (hw : w < 6) :
    ∀ (j k : Nat) (x y z : Int32) (b : Option Nat) (u1 u2 u3 u4 : Option Value), j + k = n → x = nI k → y = oN b → z = nI (ol (gr n H S w) b) → (∀ c, b = some c → c < 24) → Q (some (.int (oN (ns (fun s => !S s w) (gr n H S w) j k b)))) (gm L xs A I F P) →
      wp (d + 1) B cd_Model_next Q 21 [some (.ref 38), some (.int (nI w)), some (.int y), some (.int z), some (.int x), u1, u2, u3, u4] [] (gm L xs A I F P) := by
  have hR0 := hR
  obtain ⟨hn, hI, hS, hH⟩ := hR
  intro j
  induction j with
  | zero =>
    intro k x y z b u1 u2 u3 u4 hk hx hy hz hb hq
    refine mm_WP.go [21] 100 (lp_ge hx hI (by omega) (by omega) (fun h => ?_) (fun h => absurd h (by omega)))
    rw [hy]
    exact hq
  | succ j ih =>
    intro k x y z b u1 u2 u3 u4 hk hx hy hz hb hq
    refine mm_WP.go [21, 54] 100 (lp_ge hx hI (by omega) (by omega) (fun h => absurd h (by omega)) (fun _ => ?_))
    subst hx
    have i1 := ix_ma (c := 6) (s := k) (w := w) (N := 144) (by decide) (by omega)
    have v1 : A 43 ((6 * nI k + nI w).toNatClampNeg) = bI (S k w) := by
      rw [show (6 * nI k + nI w).toNatClampNeg = 6 * k + w from i1.2]
      exact hS k w (by omega) hw
    refine ⟨i1.1, fun c => ?_, fun c => ?_⟩
    · have h1 : S k w = true := bI_1 (v1 ▸ c)
      rw [ns_no (show (!S k w) = false by rw [h1]; rfl)] at hq
      exact ih (k + 1) _ _ _ b _ _ _ _ (by omega) (nI_1 k) hy hz hb hq
    · have h1 : S k w = false := bI_0 (v1 ▸ c)
      refine m_nx_in hR0 hw (by omega) (fun x u => ?_) 90 0 _ _ _ _ rfl rfl rfl rfl
      have l1 : fb_ct (fun m => L0 n H S w m && H k m) 90 ≤ 90 := fb_ct_le _ _
      have l2 : fb_ct (fun m => L0 n H S w m && !H k m) 90 ≤ 90 := fb_ct_le _ _
      have lg := gr_le (n := n) (H := H) (S := S) (w := w) (s := k)
      have key : wp (d + 1) B cd_Model_next Q 155 [some (.ref 38), some (.int (nI w)), some (.int y), some (.int z), some (.int (nI k)), some (.int (nI (fb_ct (fun m => L0 n H S w m && H k m) 90))), some (.int (nI (fb_ct (fun m => L0 n H S w m && !H k m) 90))), some (.int (nI (gr n H S w k))), u] [] (gm L xs A I F P) := by
        cases b with
        | none =>
          rw [ns, if_pos (show (!S k w) = true by rw [h1]; rfl)] at hq
          subst hy
          refine mm_WP.go [21] 100 ⟨fun _ => ?_, fun c => absurd (show (-9 : Int32) < 0 by decide) c⟩
          exact ih (k + 1) _ _ _ (some k) _ _ _ _ (by omega) (nI_1 k) rfl rfl (fun c hc => by cases hc; omega) hq
        | some c0 =>
          have hc0 := hb c0 rfl
          subst hy
          rw [ns] at hq
          have lc := gr_le (n := n) (H := H) (S := S) (w := w) (s := c0)
          have hz2 : z = nI (gr n H S w c0) := hz
          refine mm_WP.go [21] 100 ⟨fun c => absurd c (nI_pos (by omega)), fun _ => ⟨fun c => ?_, fun c => ?_⟩⟩
          · rw [hz2, nI_leI (by omega) (by omega)] at c
            rw [if_neg (fun z => by omega)] at hq
            exact ih (k + 1) _ _ _ (some c0) _ _ _ _ (by omega) (nI_1 k) rfl hz hb hq
          · rw [hz2, nI_leI (by omega) (by omega)] at c
            rw [if_pos ⟨by rw [h1]; rfl, by omega⟩] at hq
            exact ih (k + 1) _ _ _ (some k) _ _ _ _ (by omega) (nI_1 k) rfl rfl (fun c hc => by cases hc; omega) hq
      refine mm_WP.go [155] 100 ⟨fun c => ?_, fun c => ?_⟩
      · rw [nI_leI (by omega) (by omega)] at c
        rw [show gr n H S w k = fb_ct (fun m => L0 n H S w m && !H k m) 90 by unfold gr; rw [if_pos c]] at key
        exact key
      · rw [nI_leI (by omega) (by omega)] at c
        rw [show gr n H S w k = fb_ct (fun m => L0 n H S w m && H k m) 90 by unfold gr; rw [if_neg c]] at key
        exact key
theorem m_next (d : Nat) (hR : RS n H S A I) {w : Nat} (hw : w < 6) : sp (d + 5) 165 [.ref 38, .int (nI w)] (gm L xs A I F P) (ans (gm L xs A I F P) (oN (ns (fun s => !S s w) (gr n H S w) n 0 none))) := by
  refine ⟨⟨_, rfl⟩, rfl, mm_WP.go [21] 100 (cy (m_isWord (d + 2) _ _) (fun _ => n1 ?_) (fun h => absurd (ix_n (N := 6) (by decide) hw).1 h))⟩
  exact m_nx_loop (d := d + 3) hR hw n 0 _ _ _ none _ _ _ _ rfl rfl rfl rfl (fun c hc => by cases hc) ⟨rfl, rfl⟩
theorem m_next_r (d : Nat) {w : Int32} (hw : ¬ vp_in w 6) : sp (d + 5) 165 [.ref 38, .int w] (gm L xs A I F P) (rM L xs A I F P 1 (-1)) := by
  refine ⟨⟨_, rfl⟩, rfl, mm_WP.go [] 100 (cy (m_isWord (d + 2) _ _) (fun h => absurd h hw) (fun h => n0 ?_))⟩
  exact ca (m_rf1 (d + 3)) ⟨rfl, rfl⟩
end M17
