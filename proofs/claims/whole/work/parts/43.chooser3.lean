/-! the class: enough, help; what no answer shows -/
def scr (a : Nat) : Bool := Nat.beq a 34 || Nat.beq a 36 || Nat.beq a 37 || Nat.beq a 51 || Nat.beq a 52 || Nat.beq a 53 || Nat.beq a 54
def ob (A : Nat → Nat → Int32) : Nat → Nat → Int32 := fun a => match scr a with
  | true => fun _ => 0
  | false => A a
def scri (a i : Nat) : Bool := (Nat.beq a 35 && (Nat.beq i 2 || Nat.beq i 4)) || (Nat.beq a 38 && (Nat.beq i 17 || Nat.beq i 18 || Nat.beq i 19 || Nat.beq i 21 || Nat.beq i 24 || Nat.beq i 26 || Nat.beq i 29 || Nat.beq i 30)) || (Nat.beq a 7 && Nat.beq i 2)
def oi (I : Nat → Nat → Int32) : Nat → Nat → Int32 := fun a i => match scri a i with
  | true => 0
  | false => I a i
theorem ob_R {A : Nat → Nat → Int32} {a : Nat} {f : Nat → Int32} (h : scr a = true) : ob (uR A a f) = ob A := by
  funext x
  by_cases hx : x = a
  · subst hx
    unfold ob
    rw [h]
  · unfold ob
    rw [uR_ne hx]
theorem oi_I {I : Nat → Nat → Int32} {a i : Nat} {v : Int32} (h : scri a i = true) : oi (uI I a i v) = oi I := by
  funext x j
  by_cases hx : x ≠ a ∨ j ≠ i
  · unfold oi
    rw [uI_ne hx]
  · have h1 : x = a := Decidable.byContradiction fun q => hx (Or.inl q)
    have h2 : j = i := Decidable.byContradiction fun q => hx (Or.inr q)
    subst h1
    subst h2
    unfold oi
    rw [h]
/-- an answer; only scratch has changed -/
def an (L : Nat) (xs : Nat → Int32) (A I : Nat → Nat → Int32) (F : Nat → Nat → Option Nat) (P : mm_M) (v : Int32) : mm_Q := fun r m => r = some (.int v) ∧ ∃ A2 I2, ob A2 = ob A ∧ oi I2 = oi I ∧ m = gm L xs A2 I2 F P
/-- a subset -/
def sub (V X : Nat) : Prop := ∀ i, X.testBit i = true → V.testBit i = true
/-- enough: which sets -/
noncomputable def pE (V : Nat) (U : List Nat) (X : Nat) : Bool := bp (sub V X ∧ fb_ct (tB X) 24 ≤ 3 ∧ pw U X)
noncomputable def pH (V z X : Nat) : Bool := bp (sub V X ∧ fb_ct (tB X) 24 = z)
def k24 (X : Nat) : Nat := fb_ct (tB X) 24
theorem mn_E {V : Nat} {U : List Nat} {z k : Nat} (hz : z ≤ 3) (h0 : ∀ y, y < z → ∀ X, X ∈ LZ (tB V) y 24 → ¬ pw U X) (hk : k < (LZ (tB V) z 24).length) (h1 : pw U ((LZ (tB V) z 24).getD k 0)) (h2 : ∀ i, i < k → ¬ pw U ((LZ (tB V) z 24).getD i 0)) : mn (pE V U) k24 (2 ^ 24) (some ((LZ (tB V) z 24).getD k 0)) := by
  obtain ⟨m1, m2, m3⟩ := (LZ_mem z 24 _).mp (getD_mem hk)
  refine ⟨m1, bp_iff.mpr ⟨m2, by omega, h1⟩, fun Y hY hp => ?_⟩
  obtain ⟨y1, y2, y3⟩ := bp_iff.mp hp
  unfold k24
  rw [m3]
  have hm : Y ∈ LZ (tB V) (fb_ct (tB Y) 24) 24 := (LZ_mem _ 24 Y).mpr ⟨hY, y1, rfl⟩
  rcases Nat.lt_trichotomy z (fb_ct (tB Y) 24) with h | h | h
  · exact Or.inl h
  · refine Or.inr ⟨h, ?_⟩
    rw [← h] at hm
    obtain ⟨i, hi, he⟩ := mem_getD hm
    rcases Nat.lt_trichotomy i k with h4 | h4 | h4
    · exact absurd (he ▸ y3) (h2 i h4)
    · rw [← he, h4]
      exact Nat.le_refl _
    · rw [← he]
      exact Nat.le_of_lt (asc_lt (LZ_asc z 24) h4 hi)
  · exact absurd y3 (h0 _ h Y hm)
theorem mn_E0 {V : Nat} {U : List Nat} (h0 : ∀ y, y < 4 → ∀ X, X ∈ LZ (tB V) y 24 → ¬ pw U X) : mn (pE V U) k24 (2 ^ 24) none := by
  intro X hX
  refine bp_false.mpr (fun ⟨h1, h2, h3⟩ => ?_)
  exact h0 _ (by omega) X ((LZ_mem _ 24 X).mpr ⟨hX, h1, rfl⟩) h3
section M20
variable {L : Nat} {xs : Nat → Int32} {A I : Nat → Nat → Int32} {F : Nat → Nat → Option Nat} {P : mm_M} {n : Nat} {H S : Nat → Nat → Bool}
theorem c_fp_in {d : Nat} {B : Nat × Nat} {Q : mm_Q} {U l : List Nat} {w V z : Int32} (hU : ∀ y, y ∈ U → y < 2 ^ 24) (hA : lrw (A 36) U) (hI : I 35 2 = nI U.length) (h90 : U.length ≤ 90) (hl : lrw (A 37) l) (hc : I 35 4 = nI l.length) (h220 : l.length ≤ 220) (hX : ∀ y, y ∈ l → y < 2 ^ 24)
    (hf : ∀ k, k < l.length → pw U (l.getD k 0) → (∀ i, i < k → ¬ pw U (l.getD i 0)) → Q (some (.int (nI (l.getD k 0)))) (gm L xs A I F P))
    (hq : ∀ x, (∀ i, i < l.length → ¬ pw U (l.getD i 0)) → wp (d + 1) B cd_Chooser_fewestParting Q 65 [some (.ref 35), some (.int w), some (.int V), some (.int z), some (.int x)] [] (gm L xs A I F P)) :
    ∀ (j k : Nat) (x : Int32), j + k = l.length → x = nI k → (∀ i, i < k → ¬ pw U (l.getD i 0)) → wp (d + 1) B cd_Chooser_fewestParting Q 28 [some (.ref 35), some (.int w), some (.int V), some (.int z), some (.int x)] [] (gm L xs A I F P) := by
  intro j
  induction j with
  | zero =>
    intro k x hk hx hno
    refine mm_WP.go [28, 65] 100 (lp_ge hx hc (by omega) (by omega) (fun h => ?_) (fun h => absurd h (by omega)))
    subst h
    exact hq _ hno
  | succ j ih =>
    intro k x hk hx hno
    refine mm_WP.go [28, 65] 100 (lp_ge hx hc (by omega) (by omega) (fun h => absurd h (by omega)) (fun hki => ?_))
    subst hx
    have hi := ix_n (w := k) (N := 220) (by decide) (by omega)
    refine ⟨hi.1, ?_⟩
    have e : A 37 ((nI k).toNatClampNeg) = nI (l.getD k 0) := by rw [hi.2]; exact hl k hki
    rw [e]
    refine cy (c_partsAll d hU (hX _ (getD_mem hki)) hA hI h90) (fun h => e1 ⟨hi.1, ?_⟩) (fun h => e0 ?_)
    · rw [e]
      exact hf k hki h hno
    · refine ih (k + 1) _ (by omega) (nI_1 k) (fun i h2 => ?_)
      rcases Nat.lt_or_ge i k with h3 | h3
      · exact hno i h3
      · have : i = k := by omega
        subst this
        exact h
theorem c_fp_loop {d : Nat} {B : Nat × Nat} {Q : mm_Q} {U : List Nat} {w : Int32} {V : Nat} (hV : V < 2 ^ 24) (h12 : fb_ct (tB V) 24 ≤ 12) (hU : ∀ y, y ∈ U → y < 2 ^ 24) (hA : lrw (A 36) U) (hI : I 35 2 = nI U.length) (h90 : U.length ≤ 90)
    (hq : ∀ b f c, mn (pE V U) k24 (2 ^ 24) b → Q (some (.int (oN b))) (gm L xs (uR A 37 f) (uI I 35 4 c) F P)) :
    ∀ (j z : Nat) (x : Int32) (f : Nat → Int32) (c : Int32) (u : Option Value), j + z = 4 → x = nI z → (∀ y, y < z → ∀ X, X ∈ LZ (tB V) y 24 → ¬ pw U X) → wp (d + 6) B cd_Chooser_fewestParting Q 14 [some (.ref 35), some (.int w), some (.int (nI V)), some (.int x), u] [] (gm L xs (uR A 37 f) (uI I 35 4 c) F P) := by
  intro j
  induction j with
  | zero =>
    intro z x f c u hz hx h0
    have : z = 4 := by omega
    subst this
    subst hx
    exact mm_WP.go [14] 100 ⟨fun _ => hq none f c (mn_E0 h0), fun c => absurd (by decide) c⟩
  | succ j ih =>
    intro z x f c u hz hx h0
    subst hx
    refine mm_WP.go [14, 28] 100 ⟨fun c => ?_, fun _ => ?_⟩
    · have := (nI_ltI (a := 3) (b := z) (by omega) (by omega)).mp c
      omega
    · have h := c_listSets (L := L) (xs := xs) (A := uR A 37 f) (I := uI I 35 4 c) (F := F) (P := P) (d + (3 - z)) hV h12 (show z ≤ 3 by omega)
      rw [show d + (3 - z) + z + 3 = d + 6 by omega] at h
      refine ⟨_, h, ?_⟩
      rintro r m ⟨rfl, f2, hf2, rfl⟩
      rw [uR_uR, uI_uI]
      have hlen : (LZ (tB V) z 24).length ≤ 220 := by
        rw [LZ_len]
        exact chs_220 _ (by omega) z (by omega)
      refine c_fp_in (A := uR A 37 f2) (I := uI I 35 4 (nI (LZ (tB V) z 24).length)) (l := LZ (tB V) z 24) (d := d + 5) hU hA hI h90 hf2 rfl hlen (fun y hy => ((LZ_mem z 24 y).mp hy).1) (fun k hk h1 h2 => ?_) (fun x hno => ?_) _ 0 _ rfl rfl (fun i hi => absurd hi (Nat.not_lt_zero i))
      · exact hq (some ((LZ (tB V) z 24).getD k 0)) _ _ (mn_E (by omega) h0 hk h1 h2)
      · refine mm_WP.go [14] 100 (ih (z + 1) _ f2 _ _ (by omega) (nI_1 z) (fun y hy X hX => ?_))
        rcases Nat.lt_or_ge y z with h3 | h3
        · exact h0 y h3 X hX
        · have : y = z := by omega
          subst this
          obtain ⟨i, hi, he⟩ := mem_getD hX
          exact he ▸ hno i hi
theorem am_V {w : Nat} : fb_ct (tB (sb 24 (am n S w))) 24 = fb_ct (am n S w) 24 := fb_ct_cong (fun k hk => by
  show (sb 24 (am n S w)).testBit k = _
  rw [sb_tb, decide_eq_true hk, Bool.true_and])
theorem uI_self (I : Nat → Nat → Int32) (a i : Nat) : uI I a i (I a i) = I := by
  funext x j
  by_cases h : x ≠ a ∨ j ≠ i
  · rw [uI_ne h]
  · have h1 : x = a := Decidable.byContradiction fun q => h (Or.inl q)
    have h2 : j = i := Decidable.byContradiction fun q => h (Or.inr q)
    rw [h1, h2, uI_eq]
theorem ns_mn0 (p : Nat → Bool) (f : Nat → Nat) (N : Nat) : mn p f N (ns p f N 0 none) := by
  have h := ns_mn (p := p) (f := f) N 0 none (fun k hk => absurd hk (Nat.not_lt_zero k))
  rw [Nat.zero_add] at h
  exact h
theorem c_fewest (d : Nat) (hC : CS n H S A I) {w : Nat} (hw : w < 6) : sp (d + 7) 4 [.ref 35, .int (nI w)] (gm L xs A I F P) (fun r m => ∃ b, mn (pE (sb 24 (am n S w)) (ul (L0 n H S w) (uX n H S w) 90)) k24 (2 ^ 24) b ∧ an L xs A I F P (oN b) r m) := by
  refine ⟨⟨_, rfl⟩, rfl, mm_WP.go [14] 100 (ca (c_firstShown (d + 4) hC hw) ⟨_, c_listUnlike (d + 3) hC hw, ?_⟩)⟩
  rintro r m ⟨rfl, f2, hf2, rfl⟩
  have h := c_fp_loop (L := L) (xs := xs) (A := uR A 36 f2) (I := uI I 35 2 (nI (ul (L0 n H S w) (uX n H S w) 90).length)) (F := F) (P := P) (d := d) (B := mm_Al 4) (Q := fun r m => ∃ b, mn (pE (sb 24 (am n S w)) (ul (L0 n H S w) (uX n H S w) 90)) k24 (2 ^ 24) b ∧ an L xs A I F P (oN b) r m) (w := nI w) (sb_lt _ _) (by rw [am_V]; exact am_12) (fun y hy => ulX_lt hy) hf2 rfl (ul_len 90) (fun b f c hb => ⟨b, hb, rfl, _, _, ?_, ?_, rfl⟩) 4 0 _ (A 37) (I 35 4) none rfl rfl (fun y hy => absurd hy (Nat.not_lt_zero y))
  · rw [show uR (uR A 36 f2) 37 (A 37) = uR A 36 f2 from uR_self (uR A 36 f2) 37, show uI (uI I 35 2 (nI (ul (L0 n H S w) (uX n H S w) 90).length)) 35 4 (I 35 4) = uI I 35 2 (nI (ul (L0 n H S w) (uX n H S w) 90).length) from uI_self (uI I 35 2 (nI (ul (L0 n H S w) (uX n H S w) 90).length)) 35 4] at h
    exact h
  · rw [ob_R rfl, ob_R rfl]
  · rw [oi_I rfl, oi_I rfl]
/-- how many are left by a set -/
def fX (n : Nat) (H S : Nat → Nat → Bool) (w X : Nat) : Nat := fb_ct (fun m => hqa n H (tB X) m && L0 n H S w m) 90
theorem fX_le {w X : Nat} : fX n H S w X ≤ 90 := fb_ct_le _ _
def oX (l : List Nat) : Option Nat → Int32
  | none => -9
  | some i => nI (l.getD i 0)
theorem c_mt_loop {d : Nat} {B : Nat × Nat} {Q : mm_Q} (hC : CS n H S A I) {w : Nat} (hw : w < 6) {l : List Nat} {m z : Int32} (hl : lrw (A 37) l) (hc : I 35 4 = nI l.length) (h220 : l.length ≤ 220) (hX : ∀ y, y ∈ l → y < 2 ^ n) :
    ∀ (j k : Nat) (x y v : Int32) (b : Option Nat) (u : Option Value), j + k = l.length → x = nI k → y = oX l b → v = nI (og (fun i => fX n H S w (l.getD i 0)) b) → Q (some (.int (oX l (ns (fun _ => true) (fun i => fX n H S w (l.getD i 0)) j k b)))) (gm L xs A I F P) →
      wp (d + 3) B cd_Chooser_mostTelling Q 31 [some (.ref 35), some (.int (nI w)), some (.int m), some (.int z), some (.int y), some (.int v), some (.int x), u] [] (gm L xs A I F P) := by
  intro j
  induction j with
  | zero =>
    intro k x y v b u hk hx hy hv hq
    refine mm_WP.go [31] 100 (lp_ge hx hc (by omega) (by omega) (fun h => ?_) (fun h => absurd h (by omega)))
    rw [hy]
    exact hq
  | succ j ih =>
    intro k x y v b u hk hx hy hv hq
    refine mm_WP.go [31, 49] 100 (lp_ge hx hc (by omega) (by omega) (fun h => absurd h (by omega)) (fun hki => ?_))
    subst hx
    have hi := ix_n (w := k) (N := 220) (by decide) (by omega)
    have e : A 37 ((nI k).toNatClampNeg) = nI (l.getD k 0) := by rw [hi.2]; exact hl k hki
    refine ⟨hi.1, ?_⟩
    show wp (d + 3) B cd_Chooser_mostTelling Q 49 [some (.ref 35), some (.int (nI w)), some (.int m), some (.int z), some (.int y), some (.int v), some (.int (nI k)), u] [.int (A 37 ((nI k).toNatClampNeg)), .int (nI w), .ref 35] (gm L xs A I F P)
    rw [e]
    have hc2 := c_countLeftHad (L := L) (xs := xs) (F := F) (P := P) d hC hw (tB (l.getD k 0))
    rw [sb_of (hX _ (getD_mem hki))] at hc2
    have lk := fX_le (n := n) (H := H) (S := S) (w := w) (X := l.getD k 0)
    have lo : og (fun i => fX n H S w (l.getD i 0)) b ≤ 91 := by
      cases b with
      | none => exact Nat.le_refl _
      | some c => exact Nat.le_trans fX_le (by decide)
    rw [ns_step (p := fun _ => true) (f := fun i => fX n H S w (l.getD i 0)) rfl lk] at hq
    refine mm_WP.go [31] 100 (ca hc2 ⟨fun c => ?_, fun c => ?_⟩)
    · rw [hv] at c
      have c2 : og (fun i => fX n H S w (l.getD i 0)) b ≤ fX n H S w (l.getD k 0) := (nI_leI (a := og (fun i => fX n H S w (l.getD i 0)) b) (b := fX n H S w (l.getD k 0)) (by omega) (by omega)).mp c
      rw [if_neg (by omega)] at hq
      exact ih (k + 1) _ _ _ b _ (by omega) (nI_1 k) hy hv hq
    · rw [hv] at c
      have c2 : ¬ og (fun i => fX n H S w (l.getD i 0)) b ≤ fX n H S w (l.getD k 0) := fun z => c ((nI_leI (a := og (fun i => fX n H S w (l.getD i 0)) b) (b := fX n H S w (l.getD k 0)) (by omega) (by omega)).mpr z)
      rw [if_pos (by omega)] at hq
      exact ⟨hi.1, ih (k + 1) _ _ _ (some k) _ (by omega) (nI_1 k) e rfl hq⟩
theorem mn_list {l : List Nat} {f : Nat → Nat} {p : Nat → Bool} {M : Nat} {b : Option Nat} (h : mn (fun _ => true) (fun i => f (l.getD i 0)) l.length b) (ha : l.Pairwise (· < ·)) (hp : ∀ X, X ∈ l ↔ X < M ∧ p X = true) : mn p f M (b.map (fun i => l.getD i 0)) := by
  refine mn_map h (fun k hk => ?_) (fun x hx hq => ?_) (fun i k hi hk hik => ?_)
  · have := (hp _).mp (getD_mem hk)
    exact ⟨this.1, this.2, rfl⟩
  · obtain ⟨i, hi, he⟩ := mem_getD ((hp x).mpr ⟨hx, hq⟩)
    exact ⟨i, hi, he.symm⟩
  · rcases Nat.eq_or_lt_of_le hik with h | h
    · rw [h]
      exact Nat.le_refl _
    · exact Nat.le_of_lt (asc_lt ha h hk)
theorem oX_oN (l : List Nat) (b : Option Nat) : oX l b = oN (b.map (fun i => l.getD i 0)) := by cases b <;> rfl
/-- the shown that have it, as a predicate -/
theorem uX_tb {w m s : Nat} (hs : s < 24) : (uX n H S w m).testBit s = (am n S w s && H s m) := by
  unfold uX
  rw [sb_tb, decide_eq_true hs, Bool.true_and]
theorem uX_12 {w m : Nat} : fb_ct (tB (uX n H S w m)) 24 ≤ 12 := by
  refine Nat.le_trans (fb_ct_sub (q := am n S w) (fun k hk h => ?_)) (am_12 (n := n) (S := S) (w := w) (s := 24))
  rw [show tB (uX n H S w m) k = (am n S w k && H k m) from uX_tb hk] at h
  simp only [Bool.and_eq_true] at h
  exact h.1
theorem sub_n {V X : Nat} (hV : V < 2 ^ n) (h : sub V X) : X < 2 ^ n := by
  rcases Nat.lt_or_ge X (2 ^ n) with h1 | h1
  · exact h1
  · obtain ⟨i, hi, hb⟩ := Nat.exists_ge_and_testBit_of_ge_two_pow h1
    have := h i hb
    rw [Nat.testBit_lt_two_pow (Nat.lt_of_lt_of_le hV (Nat.pow_le_pow_right (by decide) hi))] at this
    exact absurd this (by decide)
theorem uX_n (hn : n ≤ 24) {w m : Nat} : uX n H S w m < 2 ^ n := by
  have : uX n H S w m = sb n (fun s => am n S w s && H s m) := by
    rw [sb_cut hn]
    refine sb_cong (fun i _ => ?_)
    cases h : am n S w i
    · simp
    · simp [am_n h]
  rw [this]
  exact sb_lt _ _
theorem c_mostTelling (d : Nat) (hC : CS n H S A I) {w m z : Nat} (hw : w < 6) (hm : m < 90) (hz : z ≤ 3) : sp (d + 7) 11 [.ref 35, .int (nI w), .int (nI m), .int (nI z)] (gm L xs A I F P) (fun r m1 => ∃ b, mn (pH (uX n H S w m) z) (fX n H S w) (2 ^ 24) b ∧ an L xs A I F P (oN b) r m1) := by
  have hi := ix_n (w := m) (N := 90) (by decide) hm
  refine ⟨⟨_, rfl⟩, rfl, mm_WP.go [17, 31] 100 (ca (c_firstShown (d + 4) hC hw) ⟨hi.1, ?_⟩)⟩
  show wp (d + 6) _ cd_Chooser_mostTelling _ 17 [some (.ref 35), some (.int (nI w)), some (.int (nI m)), some (.int (nI z)), none, none, none, none] [.int (nI z), .int (nI (sb 24 (am n S w)) &&& A 26 ((nI m).toNatClampNeg)), .ref 35] (gm L xs A I F P)
  rw [hi.2, uX_as hC hm]
  have h := c_listSets (L := L) (xs := xs) (A := A) (I := I) (F := F) (P := P) (d + (3 - z)) uX_lt (uX_12 (n := n) (H := H) (S := S) (w := w) (m := m)) hz
  rw [show d + (3 - z) + z + 3 = d + 6 by omega] at h
  refine mm_WP.go [31] 100 ⟨_, h, ?_⟩
  rintro r m1 ⟨rfl, f2, hf2, rfl⟩
  have hlen : (LZ (tB (uX n H S w m)) z 24).length ≤ 220 := by
    rw [LZ_len]
    exact chs_220 _ (Nat.lt_succ_of_le uX_12) z (by omega)
  have hX : ∀ y, y ∈ LZ (tB (uX n H S w m)) z 24 → y < 2 ^ n := fun y hy => sub_n (uX_n hC.1) ((LZ_mem z 24 y).mp hy).2.1
  generalize hl : LZ (tB (uX n H S w m)) z 24 = l at *
  refine c_mt_loop (A := uR A 37 f2) (I := uI I 35 4 (nI l.length)) (d := d + 3) hC hw hf2 rfl hlen hX l.length 0 _ _ _ none none rfl rfl rfl rfl ?_
  have hmn := mn_list (f := fX n H S w) (p := pH (uX n H S w m) z) (M := 2 ^ 24) (l := l) (ns_mn0 (fun _ => true) (fun i => fX n H S w (l.getD i 0)) l.length) (hl ▸ LZ_asc z 24) (fun X => by
    rw [← hl, LZ_mem]
    exact ⟨fun h => ⟨h.1, bp_iff.mpr h.2⟩, fun h => ⟨h.1, bp_iff.mp h.2⟩⟩)
  refine ⟨_, hmn, ?_, _, _, ob_R rfl, oi_I rfl, rfl⟩
  rw [oX_oN]
theorem c_enough (d : Nat) (hC : CS n H S A I) {w : Nat} (hw : w < 6) : sp (d + 8) 105 [.ref 6, .int (nI w)] (gm L xs A I F P) (fun r m => ∃ b, mn (pE (sb 24 (am n S w)) (ul (L0 n H S w) (uX n H S w) 90)) k24 (2 ^ 24) b ∧ an L xs A I F P (oN b) r m) := by
  refine ⟨⟨_, rfl⟩, rfl, mm_WP.go [] 100 (cy (c_noWord (d + 6) _ _) (fun h => absurd (ix_n (N := 6) (by decide) hw).1 h) (fun _ => e0 ⟨_, c_fewest d hC hw, ?_⟩))⟩
  rintro r m ⟨b, hb, rfl, h⟩
  exact ⟨b, hb, rfl, h⟩
theorem c_enough_r (d : Nat) {w : Int32} (hw : ¬ vp_in w 6) : sp (d + 8) 105 [.ref 6, .int w] (gm L xs A I F P) (rC L xs A I F P 1 (-1)) := by
  refine ⟨⟨_, rfl⟩, rfl, mm_WP.go [] 100 (cy (c_noWord (d + 6) _ _) (fun h => e1 ?_) (fun h => absurd hw h))⟩
  exact ca (c_rf1 (d + 6)) ⟨rfl, rfl⟩
theorem c_help (d : Nat) (hC : CS n H S A I) {w m z : Nat} (hw : w < 6) (hm : m < 90) (hz1 : 1 ≤ z) (hz : z ≤ 3) (hl : L0 n H S w m = true) : sp (d + 8) 106 [.ref 6, .int (nI w), .int (nI m), .int (nI z)] (gm L xs A I F P) (fun r m1 => ∃ b, mn (pH (uX n H S w m) z) (fX n H S w) (2 ^ 24) b ∧ an L xs A I F P (oN b) r m1) := by
  refine ⟨⟨_, rfl⟩, rfl, mm_WP.go [] 100 (cy (c_noWord (d + 6) _ _) (fun h => absurd (ix_n (N := 6) (by decide) hw).1 h) (fun _ => n0 ?_))⟩
  refine cy (c_noMeaning (d + 6) _ _) (fun h => absurd (ix_n (N := 90) (by decide) hm).1 h) (fun _ => e0 ?_)
  refine ⟨fun _ => ⟨fun _ => ?_, fun c => absurd ((nI_leI (a := z) (b := 3) (by omega) (by omega)).mpr hz) c⟩, fun c => absurd ((nI_leI (a := 1) (b := z) (by omega) (by omega)).mpr hz1) c⟩
  refine cy (c_isLeft (d + 5) hC hw hm 0) (fun _ => n1 ⟨_, c_mostTelling d hC hw hm hz, ?_⟩) (fun h => absurd (Lp_iff.mp hl) h)
  rintro r m ⟨b, hb, rfl, h⟩
  exact ⟨b, hb, rfl, h⟩
theorem c_help_1 (d : Nat) {w m z : Int32} (hh : ¬ (vp_in w 6 ∧ vp_in m 90)) : sp (d + 8) 106 [.ref 6, .int w, .int m, .int z] (gm L xs A I F P) (rC L xs A I F P 1 (-1)) := by
  refine ⟨⟨_, rfl⟩, rfl, mm_WP.go [] 100 (cy (c_noWord (d + 6) _ _) (fun h => n1 (ca (c_rf1 (d + 6)) ⟨rfl, rfl⟩)) (fun h => n0 ?_))⟩
  refine cy (c_noMeaning (d + 6) _ _) (fun h2 => e1 (ca (c_rf1 (d + 6)) ⟨rfl, rfl⟩)) (fun h2 => ?_)
  exact absurd ⟨Classical.not_not.mp h, Classical.not_not.mp h2⟩ hh
theorem c_help_4 (d : Nat) {w m z : Int32} (hw : vp_in w 6) (hm : vp_in m 90) (hz : z < 1) : sp (d + 8) 106 [.ref 6, .int w, .int m, .int z] (gm L xs A I F P) (rC L xs A I F P 4 (-4)) := by
  refine ⟨⟨_, rfl⟩, rfl, mm_WP.go [] 100 (cy (c_noWord (d + 6) _ _) (fun h => absurd hw h) (fun h => n0 ?_))⟩
  refine cy (c_noMeaning (d + 6) _ _) (fun h => absurd hm h) (fun _ => e0 ⟨fun c => absurd hz (Int32.not_lt.mpr c), fun _ => ca (c_rf4 (d + 6)) ⟨rfl, rfl⟩⟩)
theorem c_help_6 (d : Nat) {w m z : Int32} (hw : vp_in w 6) (hm : vp_in m 90) (hz1 : ¬ z < 1) (hz : 3 < z) : sp (d + 8) 106 [.ref 6, .int w, .int m, .int z] (gm L xs A I F P) (rC L xs A I F P 6 (-6)) := by
  refine ⟨⟨_, rfl⟩, rfl, mm_WP.go [] 100 (cy (c_noWord (d + 6) _ _) (fun h => absurd hw h) (fun h => n0 ?_))⟩
  refine cy (c_noMeaning (d + 6) _ _) (fun h => absurd hm h) (fun _ => e0 ⟨fun _ => ⟨fun c => absurd hz (Int32.not_lt.mpr c), fun _ => ca (c_rf6 (d + 6)) ⟨rfl, rfl⟩⟩, fun c => absurd (Int32.not_lt.mp hz1) c⟩)
theorem c_help_3 (d : Nat) (hC : CS n H S A I) {w m : Nat} {z : Int32} (hw : w < 6) (hm : m < 90) (hz1 : ¬ z < 1) (hz : ¬ 3 < z) (hl : ¬ L0 n H S w m = true) : sp (d + 8) 106 [.ref 6, .int (nI w), .int (nI m), .int z] (gm L xs A I F P) (rC L xs A I F P 3 (-3)) := by
  refine ⟨⟨_, rfl⟩, rfl, mm_WP.go [] 100 (cy (c_noWord (d + 6) _ _) (fun h => absurd (ix_n (N := 6) (by decide) hw).1 h) (fun _ => n0 ?_))⟩
  refine cy (c_noMeaning (d + 6) _ _) (fun h => absurd (ix_n (N := 90) (by decide) hm).1 h) (fun _ => e0 ?_)
  refine ⟨fun _ => ⟨fun _ => ?_, fun c => absurd (Int32.not_lt.mp hz) c⟩, fun c => absurd (Int32.not_lt.mp hz1) c⟩
  refine cy (c_isLeft (d + 5) hC hw hm 0) (fun h => absurd (Lp_iff.mpr h) hl) (fun h => n0 (ca (c_rf3 (d + 6)) ⟨rfl, rfl⟩))
end M20
