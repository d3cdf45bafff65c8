/-! the reference: shown, unlike -/
/-- the k-th of them -/
def shn (q : Nat → Bool) : Nat → Nat → Nat
  | 0, _ => 0
  | N + 1, k => if q N = true ∧ fb_ct q N = k then N else shn q N k
theorem shn_of {q : Nat → Bool} {s : Nat} : ∀ (N : Nat), s < N → q s = true → shn q N (fb_ct q s) = s
  | 0, h, _ => absurd h (Nat.not_lt_zero s)
  | N + 1, h, hq => by
    rw [shn]
    by_cases c : q N = true ∧ fb_ct q N = fb_ct q s
    · rw [if_pos c]
      exact fb_ct_kth_one c.1 hq c.2
    · rw [if_neg c]
      have : s ≠ N := by
        rintro rfl
        exact c ⟨hq, rfl⟩
      exact shn_of N (by omega) hq
theorem shn_k {q : Nat → Bool} {N k : Nat} (hk : k < fb_ct q N) : shn q N k < N ∧ q (shn q N k) = true ∧ fb_ct q (shn q N k) = k := by
  obtain ⟨i, hi, hp, he⟩ := fb_ct_kth hk
  have h := shn_of N hi hp
  rw [he] at h
  rw [h]
  exact ⟨hi, hp, he⟩
def SHN (n K : Nat) (sh : Nat → Nat) (A I : Nat → Nat → Int32) : Prop := K ≤ 12 ∧ n ≤ 24 ∧ I 38 24 = nI K ∧ ∀ k, k < K → A 53 k = nI (sh k) ∧ sh k < n
theorem am_end {n : Nat} {S : Nat → Nat → Bool} {w k : Nat} (hk : k ≤ 24) (h : ∀ s, k ≤ s → s < 24 → am n S w s = false) : fb_ct (am n S w) 24 = fb_ct (am n S w) k := by
  rw [show (24 : Nat) = k + (24 - k) by omega, fb_ct_split, fb_ct_zero.mpr (fun i hi => h (k + i) (by omega) (by omega)), Nat.add_zero]
theorem am_yes {n : Nat} {S : Nat → Nat → Bool} {w k : Nat} (hk : k < n) (h : fb_ct (am n S w) k < 12) : am n S w k = !S k w := by
  have h2 : fb_ct (q0 n S w) k < 12 := by
    rw [am_ct] at h
    split at h
    · assumption
    · omega
  unfold am q0
  rw [decide_eq_true hk, decide_eq_true (show fb_ct (fun s => decide (s < n) && !S s w) k < 12 from h2)]
  simp
/-- set bits, one by one -/
theorem sr_b {T k : Nat} (hT : T < 2 ^ 31) (hk : k < 31) : (nI T >>> (nI k &&& 31)) &&& 1 = bI (T.testBit k) := by
  have h1 : ∀ k, k < 31 → ((nI k &&& 31 : Int32).toBitVec.smod 32).toNat = k := by decide +kernel
  rw [pk_shrN hT _ k (h1 k hk), show (1 : Int32) = nI (2 ^ 1 - 1) from rfl, fa_mask, Nat.testBit_eq_decide_div_mod_eq]
  have h2 : T / 2 ^ k % 2 = 0 ∨ T / 2 ^ k % 2 = 1 := by omega
  rcases h2 with h | h
  · rw [show T / 2 ^ k % 2 ^ 1 = 0 from h]
    rfl
  · rw [show T / 2 ^ k % 2 ^ 1 = 1 from h]
    rfl
theorem sh_0 : ∀ s, s < 31 → ((0 : Int32) <<< (nI s &&& 31)) = 0 := by decide +kernel
theorem sh_b {s : Nat} (hs : s < 31) (b : Bool) : bI b <<< (nI s &&& 31) = nI (if b then 2 ^ s else 0) := by
  cases b
  · exact sh_0 s hs
  · exact sh_one s hs
theorem sc_step {q : Nat → Bool} {T k : Nat} (hk : k < fb_ct q 24) : sc 24 q (T % 2 ^ k) ||| (if T.testBit k then 2 ^ shn q 24 k else 0) = sc 24 q (T % 2 ^ (k + 1)) := by
  obtain ⟨h1, h2, h3⟩ := shn_k hk
  apply Nat.eq_of_testBit_eq
  intro i
  rw [Nat.testBit_or]
  unfold sc
  rw [sb_tb, sb_tb, Nat.testBit_mod_two_pow, Nat.testBit_mod_two_pow]
  have e : (if T.testBit k then 2 ^ shn q 24 k else 0).testBit i = (T.testBit k && decide (shn q 24 k = i)) := by
    cases T.testBit k
    · simp
    · rw [if_pos rfl, Nat.testBit_two_pow, Bool.true_and]
  rw [e, Bool.eq_iff_iff]
  simp only [Bool.or_eq_true, Bool.and_eq_true, decide_eq_true_eq]
  constructor
  · rintro (⟨a, b, c, e⟩ | ⟨a, rfl⟩)
    · exact ⟨a, b, by omega, e⟩
    · exact ⟨h1, h2, by omega, by rw [h3]; exact a⟩
  · rintro ⟨a, b, c, e⟩
    rcases Nat.lt_or_ge (fb_ct q i) k with h | h
    · exact Or.inl ⟨a, b, h, e⟩
    · have he : fb_ct q i = k := by omega
      exact Or.inr ⟨he ▸ e, fb_ct_kth_one h2 b (by rw [h3, he])⟩
section M21
variable {L : Nat} {xs : Nat → Int32} {A I : Nat → Nat → Int32} {F : Nat → Nat → Option Nat} {P : mm_M} {n : Nat} {H S : Nat → Nat → Bool}
theorem m_fs_loop {d : Nat} {B : Nat × Nat} {Q : mm_Q} (hR : RS n H S A I) {w : Nat} (hw : w < 6) (hq : ∀ f, (∀ s, s < 24 → am n S w s = true → f (fb_ct (am n S w) s) = nI s) → Q none (gm L xs (uR A 53 f) (uI I 38 24 (nI (fb_ct (am n S w) 24))) F P)) :
    ∀ (j k : Nat) (x : Int32) (f : Nat → Int32), j + k = n → x = nI k → (∀ s, s < k → am n S w s = true → f (fb_ct (am n S w) s) = nI s) → wp d B cd_Model_findShown Q 7 [some (.ref 38), some (.int (nI w)), some (.int x)] [] (gm L xs (uR A 53 f) (uI I 38 24 (nI (fb_ct (am n S w) k))) F P) := by
  obtain ⟨hn, hI, hS, hH⟩ := hR
  intro j
  induction j with
  | zero =>
    intro k x f hk hx hf
    have : k = n := by omega
    subst this
    refine mm_WP.go [7] 100 (lp_ge hx hI (by omega) (by omega) (fun _ => ?_) (fun h => absurd h (by omega)))
    have e := am_end (n := k) (S := S) (w := w) (k := k) hn (fun s h1 h2 => by
      cases h : am k S w s
      · rfl
      · exact absurd (am_n h) (by omega))
    rw [← e]
    exact hq f (fun s _ h2 => hf s (am_n h2) h2)
  | succ j ih =>
    intro k x f hk hx hf
    refine mm_WP.go [7] 100 (lp_ge hx hI (by omega) (by omega) (fun h => absurd h (by omega)) (fun _ => ?_))
    subst hx
    refine lp_ge (k := fb_ct (am n S w) k) (N := 12) rfl rfl (by decide) am_12 (fun h => ?_) (fun h => ?_)
    · have h0 : ∀ s, k ≤ s → s < 24 → am n S w s = false := fun s h1 h2 => by
        cases h3 : am n S w s
        · rfl
        · have h4 := am_12 (n := n) (S := S) (w := w) (s := s + 1)
          have h5 := fb_ct_mono (am n S w) h1
          rw [fb_ct_succ, h3] at h4
          simp at h4
          omega
      rw [← am_end (by omega) h0]
      refine hq f (fun s h1 h2 => hf s ?_ h2)
      rcases Nat.lt_or_ge s k with h3 | h3
      · exact h3
      · rw [h0 s h3 h1] at h2
        exact absurd h2 (by decide)
    · have i1 := ix_ma (c := 6) (s := k) (w := w) (N := 144) (by decide) (by omega)
      have v1 : A 43 ((6 * nI k + nI w).toNatClampNeg) = bI (S k w) := by
        rw [show (6 * nI k + nI w).toNatClampNeg = 6 * k + w from i1.2]
        exact hS k w (by omega) hw
      have ha := am_yes (n := n) (S := S) (w := w) (k := k) (by omega) h
      refine ⟨i1.1, fun c => ?_, fun c => ?_⟩
      · have h1 : S k w = true := bI_1 (v1 ▸ c)
        rw [h1] at ha
        have e : fb_ct (am n S w) (k + 1) = fb_ct (am n S w) k := by rw [fb_ct_succ, ha]; rfl
        have h2 := ih (k + 1) _ f (by omega) (nI_1 k) (fun s h3 h4 => by
          rcases Nat.lt_or_ge s k with h5 | h5
          · exact hf s h5 h4
          · have : s = k := by omega
            subst this
            rw [ha] at h4
            exact absurd h4 (by decide))
        rw [e] at h2
        exact h2
      · have h1 : S k w = false := bI_0 (v1 ▸ c)
        rw [h1] at ha
        have e : fb_ct (am n S w) (k + 1) = fb_ct (am n S w) k + 1 := by rw [fb_ct_succ, ha]; rfl
        have hi := ix_n (w := fb_ct (am n S w) k) (N := 12) (by decide) h
        refine ⟨hi.1, trivial, ?_⟩
        have h2 := ih (k + 1) _ (upd f (fb_ct (am n S w) k) (nI k)) (by omega) (nI_1 k) (fun s h3 h4 => by
          rcases Nat.lt_or_ge s k with h5 | h5
          · have h6 := fb_ct_mono (am n S w) (show s + 1 ≤ k by omega)
            rw [fb_ct_succ, h4] at h6
            simp at h6
            rw [upd_at, if_neg (by omega)]
            exact hf s h5 h4
          · have : s = k := by omega
            subst this
            rw [upd_at, if_pos rfl])
        rw [e, ← nI_1] at h2
        rw [show (uI I 38 24 (nI (fb_ct (am n S w) k)) 38 24).toNatClampNeg = fb_ct (am n S w) k from hi.2]
        exact h2
theorem m_findShown (d : Nat) (hR : RS n H S A I) {w : Nat} (hw : w < 6) : sp (d + 1) 167 [.ref 38, .int (nI w)] (gm L xs A I F P) (fun r m => r = none ∧ ∃ f, SHN n (fb_ct (am n S w) 24) (shn (am n S w) 24) (uR A 53 f) (uI I 38 24 (nI (fb_ct (am n S w) 24))) ∧ m = gm L xs (uR A 53 f) (uI I 38 24 (nI (fb_ct (am n S w) 24))) F P) := by
  refine ⟨⟨_, rfl⟩, rfl, mm_WP.go [7] 100 ⟨trivial, ?_⟩⟩
  have h := m_fs_loop (L := L) (xs := xs) (F := F) (P := P) (d := d) (B := mm_Al 167) (Q := fun r m => r = none ∧ ∃ f, SHN n (fb_ct (am n S w) 24) (shn (am n S w) 24) (uR A 53 f) (uI I 38 24 (nI (fb_ct (am n S w) 24))) ∧ m = gm L xs (uR A 53 f) (uI I 38 24 (nI (fb_ct (am n S w) 24))) F P) hR hw (fun f hf => ⟨rfl, f, ⟨am_12, hR.1, rfl, fun k hk => ?_⟩, rfl⟩) n 0 _ (A 53) rfl rfl (fun s hs => absurd hs (Nat.not_lt_zero s))
  · rw [uR_self] at h
    exact h
  · obtain ⟨h1, h2, h3⟩ := shn_k hk
    have h4 := hf _ h1 h2
    rw [h3] at h4
    exact ⟨h4, am_n h2⟩
/-! unlike -/
abbrev g54 (L : Nat) (xs : Nat → Int32) (A I : Nat → Nat → Int32) (F : Nat → Nat → Option Nat) (P : mm_M) (f : Nat → Int32) (c : Nat) : mm_M := gm L xs (uR A 54 f) (uI I 38 26 (nI c)) F P
/-- the shown that have it, by their places -/
def tm (K : Nat) (sh : Nat → Nat) (H : Nat → Nat → Bool) (m : Nat) : Nat := sb K (fun k => H (sh k) m)
theorem tm_lt {K : Nat} {sh : Nat → Nat} {m : Nat} (hK : K ≤ 12) : tm K sh H m < 2 ^ 12 := Nat.lt_of_lt_of_le (sb_lt _ _) (Nat.pow_le_pow_right (by decide) hK)
variable {K : Nat} {sh : Nat → Nat}
theorem m_fu_b {d : Nat} {B : Nat × Nat} {Q : mm_Q} (hR : RS n H S A I) (hs : SHN n K sh A I) {w m : Nat} (hm : m < 90) {f : Nat → Int32} {c : Nat} {u5 : Option Value} (hq : ∀ u, wp d B cd_Model_findUnlike Q 74 [some (.ref 38), some (.int (nI w)), some (.int (nI m)), some (.int (nI (tm K sh H m))), some (.int u), u5] [] (g54 L xs A I F P f c)) :
    ∀ (j k : Nat) (x y : Int32), j + k = K → x = nI k → y = nI (sb k (fun k => H (sh k) m)) → wp d B cd_Model_findUnlike Q 28 [some (.ref 38), some (.int (nI w)), some (.int (nI m)), some (.int y), some (.int x), u5] [] (g54 L xs A I F P f c) := by
  obtain ⟨hn, hI, hS, hH⟩ := hR
  obtain ⟨hK, _, hI2, hA⟩ := hs
  intro j
  induction j with
  | zero =>
    intro k x y hk hx hy
    refine mm_WP.go [28, 74] 100 (lp_ge hx hI2 (by omega) (by omega) (fun h => ?_) (fun h => absurd h (by omega)))
    subst h
    rw [hy]
    exact hq _
  | succ j ih =>
    intro k x y hk hx hy
    refine mm_WP.go [28, 74] 100 (lp_ge hx hI2 (by omega) (by omega) (fun h => absurd h (by omega)) (fun hkK => ?_))
    subst hx
    obtain ⟨a1, a2⟩ := hA k hkK
    have hi := ix_n (w := k) (N := 12) (by decide) (by omega)
    refine ⟨hi.1, ?_⟩
    rw [show uR A 54 f 53 ((nI k).toNatClampNeg) = nI (sh k) by rw [hi.2]; exact a1]
    have i2 := ix_ma (c := 90) (s := sh k) (w := m) (N := 2160) (by decide) (by omega)
    have v2 : A 44 ((90 * nI (sh k) + nI m).toNatClampNeg) = bI (H (sh k) m) := by
      rw [show (90 * nI (sh k) + nI m).toNatClampNeg = 90 * sh k + m from i2.2]
      exact hH (sh k) m a2 hm
    refine ⟨i2.1, fun c => ?_, fun c => ?_⟩
    · have h1 : H (sh k) m = false := bI_0 (v2 ▸ c)
      refine ih (k + 1) _ _ (by omega) (nI_1 k) ?_
      rw [hy, sb, h1, if_neg (by decide), Nat.mul_zero, Nat.zero_add]
      exact Int32.or_zero
    · have h1 : H (sh k) m = true := bI_1 (v2 ▸ c)
      refine ih (k + 1) _ _ (by omega) (nI_1 k) ?_
      rw [hy, sb, h1, if_pos rfl, sh_one k (by omega), Int32.or_comm, ← fa_or_sum 1 (sb_lt _ k), Nat.mul_one]
theorem m_fu_n {d : Nat} {B : Nat × Nat} {Q : mm_Q} {w m : Int32} {X : Nat} {l : List Nat} {f : Nat → Int32} (hX : X < 2 ^ 24) (hl : ∀ y, y ∈ l → y < 2 ^ 24) (hf : lrw f l) (h90 : l.length < 90)
    (hq : ∀ v u, (v = 1 ∧ (∀ i, i < l.length → ¬ l.getD i 0 = X)) ∨ (v = 0 ∧ ¬ ∀ i, i < l.length → ¬ l.getD i 0 = X) → wp d B cd_Model_findUnlike Q 118 [some (.ref 38), some (.int w), some (.int m), some (.int (nI X)), some (.int v), some (.int u)] [] (g54 L xs A I F P f l.length)) :
    ∀ (j k : Nat) (v x : Int32), j + k = l.length → x = nI k → (v = 1 ∧ (∀ i, i < k → ¬ l.getD i 0 = X)) ∨ (v = 0 ∧ ¬ ∀ i, i < k → ¬ l.getD i 0 = X) → wp d B cd_Model_findUnlike Q 80 [some (.ref 38), some (.int w), some (.int m), some (.int (nI X)), some (.int v), some (.int x)] [] (g54 L xs A I F P f l.length) := by
  intro j
  induction j with
  | zero =>
    intro k v x hk hx hv
    refine mm_WP.go [80, 118] 100 (lp_ge (N := l.length) hx rfl (by omega) (by omega) (fun h => ?_) (fun h => absurd h (by omega)))
    subst h
    exact hq _ _ hv
  | succ j ih =>
    intro k v x hk hx hv
    refine mm_WP.go [80, 118] 100 (lp_ge (N := l.length) hx rfl (by omega) (by omega) (fun h => absurd h (by omega)) (fun hkl => ?_))
    subst hx
    have hi := ix_n (w := k) (N := 90) (by decide) (by omega)
    have hy := hl _ (getD_mem hkl)
    rcases hv with ⟨rfl, hv⟩ | ⟨rfl, hv⟩
    · refine e1 ⟨hi.1, ?_⟩
      rw [show uR A 54 f 54 ((nI k).toNatClampNeg) = nI (l.getD k 0) by rw [hi.2]; exact hf k hkl]
      refine ⟨fun c => ?_, fun c => ?_⟩
      · have := (nI_eq (Nat.lt_of_lt_of_le hy (by decide)) (Nat.lt_of_lt_of_le hX (by decide))).mp c
        exact ih (k + 1) _ _ (by omega) (nI_1 k) (Or.inr ⟨rfl, fun z => z k (by omega) this⟩)
      · refine ih (k + 1) _ _ (by omega) (nI_1 k) (Or.inl ⟨rfl, fun i h2 => ?_⟩)
        rcases Nat.lt_or_ge i k with h3 | h3
        · exact hv i h3
        · have : i = k := by omega
          subst this
          exact fun e => c (by rw [e])
    · exact e0 (ih (k + 1) _ _ (by omega) (nI_1 k) (Or.inr ⟨rfl, fun z => hv (fun i h2 => z i (by omega))⟩))
theorem utm_lt (hK : K ≤ 12) {w k y : Nat} (hy : y ∈ ul (L0 n H S w) (tm K sh H) k) : y < 2 ^ 12 := by
  obtain ⟨m, _, _, he⟩ := (ul_mem k).mp hy
  rw [he]
  exact tm_lt hK
theorem m_fu_loop {d : Nat} {B : Nat × Nat} {Q : mm_Q} (hR : RS n H S A I) (hs : SHN n K sh A I) {w : Nat} (hw : w < 6) (hq : ∀ f2, lrw f2 (ul (L0 n H S w) (tm K sh H) 90) → Q none (g54 L xs A I F P f2 (ul (L0 n H S w) (tm K sh H) 90).length)) :
    ∀ (j k : Nat) (x : Int32) (f : Nat → Int32) (u3 u4 u5 : Option Value), j + k = 90 → x = nI k → lrw f (ul (L0 n H S w) (tm K sh H) k) → wp (d + 1) B cd_Model_findUnlike Q 7 [some (.ref 38), some (.int (nI w)), some (.int x), u3, u4, u5] [] (g54 L xs A I F P f (ul (L0 n H S w) (tm K sh H) k).length) := by
  intro j
  induction j with
  | zero =>
    intro k x f u3 u4 u5 hk hx hf
    refine mm_WP.go [7] 100 (lp_ge (N := 90) hx rfl (by omega) (by omega) (fun h => ?_) (fun h => absurd h (by omega)))
    subst h
    exact hq f hf
  | succ j ih =>
    intro k x f u3 u4 u5 hk hx hf
    refine mm_WP.go [7, 28] 100 (lp_ge (N := 90) hx rfl (by omega) (by omega) (fun h => absurd h (by omega)) (fun _ => ?_))
    subst hx
    refine cy (m_isLeft (A := uR A 54 f) (I := uI I 38 26 (nI (ul (L0 n H S w) (tm K sh H) k).length)) d hR hw (by omega) 0) (fun h => e1 ?_) (fun h => e0 ?_)
    · have hlen := ul_len (p := L0 n H S w) (u := tm K sh H) k
      have e : ul (L0 n H S w) (tm K sh H) (k + 1) = au (ul (L0 n H S w) (tm K sh H) k) (tm K sh H k) := by
        rw [ul, if_pos (show L0 n H S w k = true from Lp_iff.mpr h)]
      have hlt : ∀ y, y ∈ ul (L0 n H S w) (tm K sh H) k → y < 2 ^ 24 := fun y hy => Nat.lt_of_lt_of_le (utm_lt hs.1 hy) (by decide)
      refine m_fu_b hR hs (by omega) (fun u => mm_WP.go [80] 100 ?_) K 0 _ _ rfl rfl rfl
      refine m_fu_n (l := ul (L0 n H S w) (tm K sh H) k) (Nat.lt_of_lt_of_le (tm_lt hs.1) (by decide)) hlt hf (by omega) (fun v u hv => ?_) _ 0 _ _ rfl rfl (Or.inl ⟨rfl, fun i hi => absurd hi (Nat.not_lt_zero i)⟩)
      have hi := ix_n (w := (ul (L0 n H S w) (tm K sh H) k).length) (N := 90) (by decide) (by omega)
      have ht := hs.1
      generalize hl : ul (L0 n H S w) (tm K sh H) k = l at *
      generalize tm K sh H k = X at *
      rcases hv with ⟨rfl, hv⟩ | ⟨rfl, hv⟩
      · have hnm : ¬ X ∈ l := fun h => by
          obtain ⟨i, h1, h2⟩ := mem_getD h
          exact hv i (by omega) h2
        have e2 : au l X = l ++ [X] := by unfold au; rw [if_neg hnm]
        refine mm_WP.go [7] 100 ⟨hi.1, e1 ⟨trivial, ?_⟩⟩
        have h2 := ih (k + 1) _ (upd f l.length (nI X)) (some (.int (nI X))) (some (.int 1)) (some (.int u)) (by omega) (nI_1 k) (by rw [e, e2]; exact lrw_add hf X)
        rw [e, e2, List.length_append, List.length_singleton] at h2
        unfold g54 at h2
        rw [← nI_1 l.length] at h2
        rw [show (uI I 38 26 (nI l.length) 38 26).toNatClampNeg = l.length from hi.2]
        exact h2
      · have hm : X ∈ l := Classical.byContradiction fun h => hv (fun i h1 h2 => h (h2 ▸ getD_mem h1))
        have e2 : au l X = l := by unfold au; rw [if_pos hm]
        refine mm_WP.go [7] 100 ⟨hi.1, e0 ⟨trivial, ?_⟩⟩
        have h2 := ih (k + 1) _ (upd f l.length (nI X)) (some (.int (nI X))) (some (.int 0)) (some (.int u)) (by omega) (nI_1 k) (by
          rw [e, e2]
          intro i hi2
          rw [upd_at, if_neg (by omega)]
          exact hf i hi2)
        rw [e, e2] at h2
        unfold g54 at h2
        rw [show nI l.length = nI l.length + 0 from (Int32.add_zero _).symm] at h2
        rw [show (uI I 38 26 (nI l.length) 38 26).toNatClampNeg = l.length from hi.2]
        exact h2
    · have e : ul (L0 n H S w) (tm K sh H) (k + 1) = ul (L0 n H S w) (tm K sh H) k := by
        rw [ul, if_neg (by rw [L0_ff h]; decide)]
      have h2 := ih (k + 1) _ f u3 u4 u5 (by omega) (nI_1 k) (by rw [e]; exact hf)
      rw [e] at h2
      exact h2
theorem m_findUnlike (d : Nat) (hR : RS n H S A I) (hs : SHN n K sh A I) {w : Nat} (hw : w < 6) : sp (d + 2) 168 [.ref 38, .int (nI w)] (gm L xs A I F P) (fun r m => r = none ∧ ∃ f2, lrw f2 (ul (L0 n H S w) (tm K sh H) 90) ∧ m = g54 L xs A I F P f2 (ul (L0 n H S w) (tm K sh H) 90).length) := by
  refine ⟨⟨_, rfl⟩, rfl, mm_WP.go [7] 100 ⟨trivial, ?_⟩⟩
  have h := m_fu_loop (L := L) (xs := xs) (F := F) (P := P) (d := d) (B := mm_Al 168) (Q := fun r m => r = none ∧ ∃ f2, lrw f2 (ul (L0 n H S w) (tm K sh H) 90) ∧ m = g54 L xs A I F P f2 (ul (L0 n H S w) (tm K sh H) 90).length) hR hs hw (fun f2 hf2 => ⟨rfl, f2, hf2, rfl⟩) 90 0 _ (A 54) none none none rfl rfl (fun i hi => absurd hi (Nat.not_lt_zero i))
  unfold g54 at h
  rw [uR_self] at h
  exact h
end M21
