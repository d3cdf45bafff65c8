/-! next: the least of some, the first of such -/
def ns (p : Nat → Bool) (f : Nat → Nat) : Nat → Nat → Option Nat → Option Nat
  | 0, _, b => b
  | j + 1, k, none => ns p f j (k + 1) (if p k then some k else none)
  | j + 1, k, some c => ns p f j (k + 1) (if p k = true ∧ f k < f c then some k else some c)
theorem ns_no {p : Nat → Bool} {f : Nat → Nat} {k : Nat} (h : p k = false) (j : Nat) (b : Option Nat) : ns p f (j + 1) k b = ns p f j (k + 1) b := by
  cases b with
  | none => rw [ns, if_neg (by rw [h]; decide)]
  | some c => rw [ns, if_neg (fun z => by rw [h] at z; exact absurd z.1 (by decide))]
theorem ns_cut {p : Nat → Bool} {f : Nat → Nat} : ∀ (j k : Nat) (b : Option Nat), (∀ i, k ≤ i → i < k + j → p i = false) → ns p f j k b = b
  | 0, _, _, _ => rfl
  | j + 1, k, b, h => by rw [ns_no (h k (Nat.le_refl _) (by omega)), ns_cut j (k + 1) b (fun i h1 h2 => h i (by omega) (by omega))]
theorem ns_add {p : Nat → Bool} {f : Nat → Nat} : ∀ (a j k : Nat) (b : Option Nat), (∀ i, k + a ≤ i → i < k + a + j → p i = false) → ns p f (a + j) k b = ns p f a k b
  | 0, j, k, b, h => by rw [Nat.zero_add, ns_cut j k b (fun i h1 h2 => h i (by omega) (by omega))]; rfl
  | a + 1, j, k, b, h => by
    rw [show a + 1 + j = (a + j) + 1 by omega]
    cases b with
    | none => rw [ns, ns, ns_add a j (k + 1) _ (fun i h1 h2 => h i (by omega) (by omega))]
    | some c => rw [ns, ns, ns_add a j (k + 1) _ (fun i h1 h2 => h i (by omega) (by omega))]
theorem ns_cong {p q : Nat → Bool} {f g : Nat → Nat} : ∀ (j k : Nat) (b : Option Nat), (∀ c, b = some c → f c = g c) → (∀ i, k ≤ i → i < k + j → p i = q i ∧ f i = g i) → ns p f j k b = ns q g j k b
  | 0, _, _, _, _ => rfl
  | j + 1, k, b, hb, h => by
    obtain ⟨h1, h2⟩ := h k (Nat.le_refl _) (by omega)
    cases b with
    | none =>
      rw [ns, ns, h1, ns_cong (p := p) (q := q) (f := f) (g := g) j (k + 1) _ ?_ (fun i h3 h4 => h i (by omega) (by omega))]
      intro c hc
      split at hc
      · cases hc; exact h2
      · cases hc
    | some c =>
      rw [ns, ns, h1, h2, hb c rfl, ns_cong (p := p) (q := q) (f := f) (g := g) j (k + 1) _ ?_ (fun i h3 h4 => h i (by omega) (by omega))]
      intro e he
      split at he
      · cases he; exact h2
      · cases he; exact hb _ rfl
theorem sb_true (n : Nat) : sb n (fun _ => true) = 2 ^ n - 1 := by
  induction n with
  | zero => rfl
  | succ n ih =>
    rw [sb, ih, if_pos rfl, Nat.pow_succ]
    have := Nat.two_pow_pos n
    omega
theorem sh_full : ∀ n, n < 25 → ((1 : Int32) <<< (nI n &&& 31)) - 1 = nI (2 ^ n - 1) := by decide +kernel
theorem sh_one : ∀ n, n < 31 → ((1 : Int32) <<< (nI n &&& 31)) = nI (2 ^ n) := by decide +kernel
theorem sb_one {n k : Nat} (h : k < n) : sb n (fun i => decide (i = k)) = 2 ^ k := by
  apply Nat.eq_of_testBit_eq
  intro i
  rw [sb_tb, Nat.testBit_two_pow]
  by_cases hi : k = i
  · subst hi
    simp [h]
  · rw [decide_eq_false (show ¬ i = k from fun z => hi z.symm), decide_eq_false hi, Bool.and_false]
/-- it is had by all of these -/
def hqa (n : Nat) (H : Nat → Nat → Bool) (q : Nat → Bool) (m : Nat) : Bool := decide (sb n (fun s => q s && !H s m) = 0)
theorem sb_0 {n : Nat} {p : Nat → Bool} : sb n p = 0 ↔ ∀ i, i < n → p i = false := by
  rw [← sb_zero n, sb_inj]
theorem hqa_iff {n : Nat} {H : Nat → Nat → Bool} {q : Nat → Bool} {m : Nat} : hqa n H q m = true ↔ ∀ s, s < n → q s = true → H s m = true := by
  unfold hqa
  rw [decide_eq_true_iff, sb_0]
  constructor
  · intro h s hs hqs
    have := h s hs
    rw [hqs] at this
    simpa using this
  · intro h s hs
    cases hqs : q s
    · rfl
    · rw [h s hs hqs]
      rfl
section M16
variable {L : Nat} {xs : Nat → Int32} {A I : Nat → Nat → Int32} {F : Nat → Nat → Option Nat} {P : mm_M} {n : Nat} {H S : Nat → Nat → Bool}
theorem c_shownFor (d : Nat) (hC : CS n H S A I) {w : Nat} (hw : w < 6) : sp (d + 1) 2 [.ref 35, .int (nI w)] (gm L xs A I F P) (ans (gm L xs A I F P) (nI (sb n (fun s => !S s w)))) := by
  obtain ⟨hn, hI, hS, hH⟩ := hC
  have hi := ix_n (w := w) (N := 6) (by decide) hw
  refine ⟨⟨_, rfl⟩, rfl, mm_WP.go [] 100 ⟨hi.1, ?_, rfl⟩⟩
  rw [hi.2, hS w hw, hI, sh_full n (by omega), ← sb_true, sb_andn hn]
  rfl
theorem c_clh_loop {d : Nat} {B : Nat × Nat} {Q : mm_Q} (hC : CS n H S A I) {w : Nat} (hw : w < 6) (q : Nat → Bool) (hQ : Q (some (.int (nI (fb_ct (fun m => hqa n H q m && L0 n H S w m) 90)))) (gm L xs A I F P)) :
    ∀ (j k : Nat) (x y : Int32), j + k = 90 → x = nI k → y = nI (fb_ct (fun m => hqa n H q m && L0 n H S w m) k) → wp (d + 2) B cd_Chooser_countLeftHad Q 5 [some (.ref 35), some (.int (nI w)), some (.int (nI (sb n q))), some (.int y), some (.int x)] [] (gm L xs A I F P) := by
  have hC0 := hC
  obtain ⟨hn, hI, hS, hH⟩ := hC
  intro j
  induction j with
  | zero =>
    intro k x y hk hx hy
    refine mm_WP.go [5] 100 (lp_ge (N := 90) hx rfl (by omega) (by omega) (fun h => ?_) (fun h => absurd h (by omega)))
    subst h
    rw [hy]
    exact hQ
  | succ j ih =>
    intro k x y hk hx hy
    refine mm_WP.go [5] 100 (lp_ge (N := 90) hx rfl (by omega) (by omega) (fun h => absurd h (by omega)) (fun _ => ?_))
    subst hx
    have hi := ix_n (w := k) (N := 90) (by decide) (by omega)
    have e : nI (sb n q) &&& (A 26 ((nI k).toNatClampNeg) ^^^ (-1)) = nI (sb n (fun s => q s && !H s k)) := by rw [hi.2, hH k (by omega), sb_andn hn]
    have hb : hqa n H q k = decide (nI (sb n q) &&& (A 26 ((nI k).toNatClampNeg) ^^^ (-1)) = 0) := by
      unfold hqa
      rw [e, show (0 : Int32) = nI 0 from rfl]
      have := sb_24 hn (fun s => q s && !H s k)
      exact decide_eq_decide.mpr (nI_eq (by omega) (by omega)).symm
    refine ⟨hi.1, fun c => ?_, fun c => ?_⟩
    · refine ih (k + 1) _ _ (by omega) (nI_1 k) ?_
      rw [hy, fb_ct_succ, hb, decide_eq_false c]
      rfl
    · refine cy (c_isLeft d hC0 hw (by omega) 0) (fun h => e1 ?_) (fun h => e0 ?_)
      · refine ih (k + 1) _ _ (by omega) (nI_1 k) ?_
        rw [hy, fb_ct_succ, hb, decide_eq_true c, show L0 n H S w k = true from Lp_iff.mpr h]
        exact nI_1 _
      · refine ih (k + 1) _ _ (by omega) (nI_1 k) ?_
        rw [hy, fb_ct_succ, hb, decide_eq_true c, L0_ff h]
        rfl
theorem c_countLeftHad (d : Nat) (hC : CS n H S A I) {w : Nat} (hw : w < 6) (q : Nat → Bool) : sp (d + 3) 3 [.ref 35, .int (nI w), .int (nI (sb n q))] (gm L xs A I F P) (ans (gm L xs A I F P) (nI (fb_ct (fun m => hqa n H q m && L0 n H S w m) 90))) := by
  refine ⟨⟨_, rfl⟩, rfl, mm_WP.go [5] 100 ?_⟩
  exact c_clh_loop hC hw q ⟨rfl, rfl⟩ 90 0 _ _ rfl rfl rfl
/-- the greater of the two parts -/
def gr (n : Nat) (H S : Nat → Nat → Bool) (w s : Nat) : Nat := if fb_ct (fun m => L0 n H S w m && H s m) 90 ≤ fb_ct (fun m => L0 n H S w m && !H s m) 90 then fb_ct (fun m => L0 n H S w m && !H s m) 90 else fb_ct (fun m => L0 n H S w m && H s m) 90
theorem gr_le {w s : Nat} : gr n H S w s ≤ 90 := by
  unfold gr
  split
  · exact fb_ct_le _ _
  · exact fb_ct_le _ _
theorem gr_sum {w s : Nat} : fb_ct (fun m => L0 n H S w m && H s m) 90 + fb_ct (fun m => L0 n H S w m && !H s m) 90 = fb_ct (L0 n H S w) 90 := by
  rw [← fb_ct_or (fun k hk hh => by cases hh2 : H s k <;> simp [hh2] at hh)]
  exact fb_ct_cong (fun k hk => by cases L0 n H S w k <;> cases H s k <;> rfl)
/-- the greater part of the best so far -/
def og (f : Nat → Nat) : Option Nat → Nat
  | none => 91
  | some c => f c
theorem ns_step {p : Nat → Bool} {f : Nat → Nat} {j k : Nat} {b : Option Nat} (hp : p k = true) (hk : f k ≤ 90) : ns p f (j + 1) k b = ns p f j (k + 1) (if f k < og f b then some k else b) := by
  cases b with
  | none => rw [ns, if_pos hp, if_pos (show f k < og f none from Nat.lt_succ_of_le hk)]
  | some c =>
    rw [ns]
    by_cases h : f k < f c
    · rw [if_pos ⟨hp, h⟩, if_pos (show f k < og f (some c) from h)]
    · rw [if_neg (fun z => h z.2), if_neg (show ¬ f k < og f (some c) from h)]
theorem og_le {w : Nat} {b : Option Nat} : og (gr n H S w) b ≤ 91 := by
  cases b with
  | none => exact Nat.le_refl _
  | some c => exact Nat.le_trans gr_le (by decide)
theorem c_ev_loop {d : Nat} {B : Nat × Nat} {Q : mm_Q} (hC : CS n H S A I) {w : Nat} (hw : w < 6) :
    ∀ (j k : Nat) (x y z : Int32) (b : Option Nat) (u u2 : Option Value), j + k = 24 → x = nI k → y = oN b → z = nI (og (gr n H S w) b) → Q (some (.int (oN (ns (fun s => decide (s < n) && !S s w) (gr n H S w) j k b)))) (gm L xs A I F P) →
      wp (d + 3) B cd_Chooser_evenest Q 27 [some (.ref 35), some (.int (nI w)), some (.int (nI (sb n (fun s => !S s w)))), some (.int (nI (fb_ct (L0 n H S w) 90))), some (.int y), some (.int z), some (.int x), u, u2] [] (gm L xs A I F P) := by
  have hn := hC.1
  intro j
  induction j with
  | zero =>
    intro k x y z b u u2 hk hx hy hz hq
    refine mm_WP.go [27] 100 (lp_ge (N := 24) hx rfl (by omega) (by omega) (fun h => ?_) (fun h => absurd h (by omega)))
    rw [hy]
    exact hq
  | succ j ih =>
    intro k x y z b u u2 hk hx hy hz hq
    refine mm_WP.go [27, 49] 100 (lp_ge (N := 24) hx rfl (by omega) (by omega) (fun h => absurd h (by omega)) (fun _ => ?_))
    subst hx
    have h24 := sb_24 hn (fun s => !S s w)
    refine cy (c_isIn (d + 2) (by omega) (by omega) _) (fun h => e1 ?_) (fun h => e0 ?_)
    · rw [sb_tb] at h
      have hkn : k < n := by
        rcases Nat.lt_or_ge k n with h2 | h2
        · exact h2
        · rw [decide_eq_false (by omega)] at h
          exact absurd h (by simp)
      show wp (d + 3) B cd_Chooser_evenest Q 49 [some (.ref 35), some (.int (nI w)), some (.int (nI (sb n (fun s => !S s w)))), some (.int (nI (fb_ct (L0 n H S w) 90))), some (.int y), some (.int z), some (.int (nI k)), u, u2] [.int ((1 : Int32) <<< (nI k &&& 31)), .int (nI w), .ref 35] (gm L xs A I F P)
      rw [sh_one k (by omega), ← sb_one hkn]
      refine mm_WP.go [27] 100 (ca (c_countLeftHad d hC hw _) ?_)
      have e1' : fb_ct (fun m => hqa n H (fun i => decide (i = k)) m && L0 n H S w m) 90 = fb_ct (fun m => L0 n H S w m && H k m) 90 := fb_ct_cong (fun m hm => by
        have : hqa n H (fun i => decide (i = k)) m = H k m := by
          cases hh : H k m
          · cases h2 : hqa n H (fun i => decide (i = k)) m
            · rfl
            · exact absurd (hqa_iff.mp h2 k hkn (decide_eq_true rfl)) (by rw [hh]; decide)
          · exact hqa_iff.mpr (fun s _ hs => by rw [of_decide_eq_true hs]; exact hh)
        rw [this, Bool.and_comm])
      rw [e1']
      have e2 : nI (fb_ct (L0 n H S w) 90) - nI (fb_ct (fun m => L0 n H S w m && H k m) 90) = nI (fb_ct (fun m => L0 n H S w m && !H k m) 90) := I_sub1 (by rw [Nat.add_comm]; exact gr_sum)
      have l1 : fb_ct (fun m => L0 n H S w m && H k m) 90 ≤ 90 := fb_ct_le _ _
      have l2 : fb_ct (fun m => L0 n H S w m && !H k m) 90 ≤ 90 := fb_ct_le _ _
      have e3 : (if nI (fb_ct (fun m => L0 n H S w m && H k m) 90) < nI (fb_ct (L0 n H S w) 90) - nI (fb_ct (fun m => L0 n H S w m && H k m) 90) then nI (fb_ct (L0 n H S w) 90) - nI (fb_ct (fun m => L0 n H S w m && H k m) 90) else nI (fb_ct (fun m => L0 n H S w m && H k m) 90)) = nI (gr n H S w k) := by
        rw [e2]
        unfold gr
        by_cases h3 : fb_ct (fun m => L0 n H S w m && H k m) 90 < fb_ct (fun m => L0 n H S w m && !H k m) 90
        · rw [if_pos ((nI_ltI (by omega) (by omega)).mpr h3), if_pos (by omega)]
        · rw [if_neg (fun z => h3 ((nI_ltI (by omega) (by omega)).mp z))]
          by_cases h4 : fb_ct (fun m => L0 n H S w m && H k m) 90 ≤ fb_ct (fun m => L0 n H S w m && !H k m) 90
          · rw [if_pos h4, show fb_ct (fun m => L0 n H S w m && H k m) 90 = fb_ct (fun m => L0 n H S w m && !H k m) 90 by omega]
          · rw [if_neg h4]
      refine ⟨(show 0 ≤ 8 by decide), ?_⟩
      rw [e3]
      have lo := og_le (n := n) (H := H) (S := S) (w := w) (b := b)
      have lg := gr_le (n := n) (H := H) (S := S) (w := w) (s := k)
      rw [ns_step (show (decide (k < n) && !S k w) = true from h) lg] at hq
      refine ⟨fun c => ?_, fun c => ?_⟩
      · rw [hz, nI_leI (by omega) (by omega)] at c
        rw [if_neg (by omega)] at hq
        exact ih (k + 1) _ _ _ b _ _ (by omega) (nI_1 k) hy hz hq
      · rw [hz, nI_leI (by omega) (by omega)] at c
        rw [if_pos (by omega)] at hq
        exact ih (k + 1) _ _ _ (some k) _ _ (by omega) (nI_1 k) rfl rfl hq
    · rw [sb_tb] at h
      rw [ns_no (show (decide (k < n) && !S k w) = false by simpa using h)] at hq
      exact ih (k + 1) _ _ _ b _ _ (by omega) (nI_1 k) hy hz hq
theorem c_evenest (d : Nat) (hC : CS n H S A I) {w : Nat} (hw : w < 6) : sp (d + 4) 1 [.ref 35, .int (nI w)] (gm L xs A I F P) (ans (gm L xs A I F P) (oN (ns (fun s => !S s w) (gr n H S w) n 0 none))) := by
  refine ⟨⟨_, rfl⟩, rfl, mm_WP.go [27] 100 (ca (c_shownFor (d + 2) hC hw) (ca (c_countLeft d hC hw 0) ?_))⟩
  refine c_ev_loop hC hw 24 0 _ _ _ none none none rfl rfl rfl rfl ?_
  have hn := hC.1
  rw [show (24 : Nat) = n + (24 - n) by omega, ns_add n (24 - n) 0 _ (fun i h1 _ => by rw [decide_eq_false (show ¬ i < n by omega)]; rfl), ns_cong (p := fun s => decide (s < n) && !S s w) (f := gr n H S w) (q := fun s => !S s w) (g := gr n H S w) n 0 _ (fun c hc => rfl) (fun i _ h2 => ⟨by rw [decide_eq_true (show i < n by omega)]; rfl, rfl⟩)]
  exact ⟨rfl, rfl⟩
theorem c_next (d : Nat) (hC : CS n H S A I) {w : Nat} (hw : w < 6) : sp (d + 5) 104 [.ref 6, .int (nI w)] (gm L xs A I F P) (ans (gm L xs A I F P) (oN (ns (fun s => !S s w) (gr n H S w) n 0 none))) := by
  refine ⟨⟨_, rfl⟩, rfl, mm_WP.go [] 100 (cy (c_noWord (d + 3) _ _) (fun h => absurd (ix_n (N := 6) (by decide) hw).1 h) (fun _ => e0 ?_))⟩
  exact ca (c_evenest d hC hw) ⟨rfl, rfl⟩
theorem c_next_r (d : Nat) {w : Int32} (hw : ¬ vp_in w 6) : sp (d + 5) 104 [.ref 6, .int w] (gm L xs A I F P) (rC L xs A I F P 1 (-1)) := by
  refine ⟨⟨_, rfl⟩, rfl, mm_WP.go [] 100 (cy (c_noWord (d + 3) _ _) (fun h => e1 ?_) (fun h => absurd hw h))⟩
  exact ca (c_rf1 (d + 3)) ⟨rfl, rfl⟩
end M16
