/-! scenes: what one holds; the class's methods of one -/
/-- things: how many, marks; doings: how many, who, what, whom -/
abbrev Sc : Type := Nat × (Nat → Nat) × Nat × (Nat → Nat) × (Nat → Nat) × (Nat → Nat)
abbrev tcO (D : Sc) : Nat := D.1
abbrev thO (D : Sc) : Nat → Nat := D.2.1
abbrev dcO (D : Sc) : Nat := D.2.2.1
abbrev dwO (D : Sc) : Nat → Nat := D.2.2.2.1
abbrev dvO (D : Sc) : Nat → Nat := D.2.2.2.2.1
abbrev dmO (D : Sc) : Nat → Nat := D.2.2.2.2.2
def okS (D : Sc) : Prop := tcO D ≤ 4 ∧ dcO D ≤ 3 ∧ (∀ i, i < tcO D → thO D i < 128) ∧ ∀ i, i < dcO D → dwO D i < tcO D ∧ dvO D i < 3 ∧ dmO D i < tcO D
def orb (p : Nat → Bool) : Nat → Bool
  | 0 => false
  | k + 1 => orb p k || p k
theorem orb_iff {p : Nat → Bool} : ∀ k, orb p k = true ↔ ∃ i, i < k ∧ p i = true
  | 0 => ⟨fun h => absurd (show false = true from h) (by decide), fun ⟨i, hi, _⟩ => absurd hi (Nat.not_lt_zero i)⟩
  | k + 1 => by
    rw [orb, Bool.or_eq_true, orb_iff k]
    refine ⟨fun h => ?_, fun ⟨i, hi, hp⟩ => ?_⟩
    · rcases h with ⟨i, hi, hp⟩ | h
      · exact ⟨i, by omega, hp⟩
      · exact ⟨k, by omega, h⟩
    · rcases Nat.lt_or_ge i k with h | h
      · exact Or.inl ⟨i, h, hp⟩
      · have : i = k := by omega
        subst this
        exact Or.inr hp
theorem orb_cong {p q : Nat → Bool} : ∀ {k : Nat}, (∀ i, i < k → p i = q i) → orb p k = orb q k
  | 0, _ => rfl
  | k + 1, h => by rw [orb, orb, orb_cong (fun i hi => h i (by omega)), h k (by omega)]
theorem orb_ct {p : Nat → Bool} {k : Nat} : orb p k = decide (0 < fb_ct p k) := by
  rw [Bool.eq_iff_iff, orb_iff, decide_eq_true_eq, fb_ct_pos]
def jm (j : Nat) : Nat := [0, 0, 0, 0, 0, 1, 1, 1, 1, 2, 2, 2, 3, 3, 4].getD j 0
def jn (j : Nat) : Nat := [1, 2, 3, 4, 5, 2, 3, 4, 5, 3, 4, 5, 4, 5, 5].getD j 0
def mkb (D : Sc) (i m : Nat) : Bool := (thO D i).testBit m
/-- does it have a meaning -/
def HS (D : Sc) (x : Nat) : Bool :=
  if x < 6 then orb (fun i => mkb D i x) (tcO D)
  else if x < 21 then orb (fun i => mkb D i (jm (x - 6)) && mkb D i (jn (x - 6))) (tcO D)
  else if x < 39 then decide (fb_ct (fun i => mkb D i ((x - 21) / 3)) (tcO D) = (x - 21) % 3 + 2)
  else if x < 42 then orb (fun i => decide (dvO D i = x - 39)) (dcO D)
  else if x < 60 then orb (fun i => decide (dvO D i = (x - 42) / 6) && mkb D (dwO D i) ((x - 42) % 6)) (dcO D)
  else if x < 78 then orb (fun i => decide (dvO D i = (x - 60) / 6) && mkb D (dmO D i) ((x - 60) % 6)) (dcO D)
  else if x < 84 then orb (fun i => decide (64 ≤ thO D i) && mkb D i (x - 78)) (tcO D)
  else orb (fun i => decide (thO D i < 64) && mkb D i (x - 84)) (tcO D)
theorem bw_1 : ∀ t, t < 128 → ∀ m, m < 6 → decide (t &&& 2 ^ m = 2 ^ m) = t.testBit m := by decide +kernel
theorem bw_2 : ∀ t, t < 128 → ∀ j, j < 15 → decide (t &&& (2 ^ jm j + 2 ^ jn j) = 2 ^ jm j + 2 ^ jn j) = (t.testBit (jm j) && t.testBit (jn j)) := by decide +kernel
theorem bw_3 : ∀ t, t < 128 → ∀ m, m < 6 → decide (t &&& (2 ^ m + 64) = 2 ^ m + 64) = (decide (64 ≤ t) && t.testBit m) := by decide +kernel
theorem bw_4 : ∀ t, t < 128 → ∀ m, m < 6 → decide (t &&& (2 ^ m + 64) = 2 ^ m) = (decide (t < 64) && t.testBit m) := by decide +kernel
/-- a scene's object -/
def SO (mem : mm_M) (r : Nat) (D : Sc) : Prop := ∃ a b f g, mm_nth mem r = some (.inr (3, [.ref a, .ref b, .int (nI (tcO D)), .int (nI (dcO D))])) ∧ mm_nth mem a = some (.inl (0, 4, .inl f)) ∧ mm_nth mem b = some (.inl (0, 3, .inl g)) ∧ (∀ i, i < tcO D → f i = nI (thO D i)) ∧ ∀ i, i < dcO D → g i = nI (100 * dwO D i + 10 * dvO D i + dmO D i)
section W0
variable {d : Nat} {B : Nat × Nat} {cd : mm_C} {Q : mm_Q} {pc nx a b r : Nat} {ls : mm_L} {st : List Value} {mem : mm_M} {sw : List (Int32 × Nat)} {lc : Int64} {fs : List Value} {v : Value}
theorem w_gf {i : Nat} (hf : mm_find cd pc = some (.getfield i, nx, a, b, sw, lc)) (h : mm_nth mem r = some (.inr (a, fs))) (hv : mm_nth fs b = some v) (k : wp d B cd Q nx ls (v :: st) mem) : wp d B cd Q pc ls (.ref r :: st) mem := by
  refine mm_WP.step ?_
  unfold mm_step
  rw [hf]
  unfold mm_ins
  dsimp only
  rw [h]
  dsimp only
  rw [nb_eq]
  dsimp only
  rw [hv]
  exact k
theorem w_pf {i : Nat} {x u : Int32} {v0 : Value} (hf : mm_find cd pc = some (.putfield i, nx, a, b, [(u, 0)], lc)) (h : mm_nth mem r = some (.inr (a, fs))) (hv : mm_nth fs b = some v0) (k : wp d B cd Q nx ls st (mm_set mem r (.inr (a, mm_set fs b (.int x))))) : wp d B cd Q pc ls (.int x :: .ref r :: st) mem := by
  refine mm_WP.step ?_
  unfold mm_step
  rw [hf]
  unfold mm_ins
  dsimp only
  rw [h]
  dsimp only
  rw [nb_eq]
  dsimp only
  rw [hv]
  exact ⟨trivial, k⟩
theorem w_al {N : Nat} {z : (Nat → Int32) ⊕ _} (hf : mm_find cd pc = some (.arraylength, nx, a, b, sw, lc)) (h : mm_nth mem r = some (.inl (0, N, z))) (k : wp d B cd Q nx ls (.int (nI N) :: st) mem) : wp d B cd Q pc ls (.ref r :: st) mem := by
  refine mm_WP.step ?_
  unfold mm_step
  rw [hf]
  unfold mm_ins
  dsimp only
  rw [h]
  exact k
theorem w_ia {N : Nat} {f : Nat → Int32} {i : Int32} (hf : mm_find cd pc = some (.iaload, nx, a, b, sw, lc)) (h : mm_nth mem r = some (.inl (0, N, .inl f))) (hi : vp_in i N) (k : wp d B cd Q nx ls (.int (f i.toNatClampNeg) :: st) mem) : wp d B cd Q pc ls (.int i :: .ref r :: st) mem := by
  refine mm_WP.step ?_
  unfold mm_step
  rw [hf]
  unfold mm_ins
  dsimp only
  rw [h]
  exact ⟨hi, k⟩
theorem w_is {N : Nat} {f : Nat → Int32} {i x : Int32} (hf : mm_find cd pc = some (.iastore, nx, a, b, sw, lc)) (h6 : Nat.ble 6 r = true) (h : mm_nth mem r = some (.inl (0, N, .inl f))) (hi : vp_in i N) (k : wp d B cd Q nx ls st (mm_set mem r (.inl (0, N, .inl (upd f i.toNatClampNeg x))))) : wp d B cd Q pc ls (.int x :: .int i :: .ref r :: st) mem := by
  refine mm_WP.step ?_
  unfold mm_step
  rw [hf]
  unfold mm_ins
  dsimp only
  rw [h6]
  dsimp only
  rw [h]
  exact ⟨hi, k⟩
end W0
section M24
variable {mem : mm_M} {r : Nat} {D : Sc}
theorem s_thingAt (d : Nat) (hs : SO mem r D) (ho : okS D) {i : Nat} (hi : i < tcO D) : sp (d + 1) 32 [.ref r, .int (nI i)] mem (ans mem (nI (thO D i))) := by
  obtain ⟨a, b, f, g, h1, h2, h3, h4, h5⟩ := hs
  have ht := ho.1
  have ix := ix_n (w := i) (N := 4) (by decide) (by omega)
  refine ⟨⟨_, h1⟩, rfl, mm_WP.go [6] 20 ⟨fun c => absurd c (nI_pos (by omega)), fun _ => ?_⟩⟩
  refine w_gf rfl h1 rfl (mm_WP.go [14] 20 (lp_ge (k := i) (N := tcO D) rfl rfl (by omega) (by omega) (fun h => absurd h (by omega)) (fun _ => ?_)))
  refine w_gf rfl h1 rfl (w_al rfl h2 (mm_WP.go [22] 20 (lp_ge (k := i) (N := 4) rfl rfl (by omega) (by omega) (fun h => absurd h (by omega)) (fun _ => ?_))))
  refine w_gf rfl h1 rfl (mm_WP.go [26] 20 (w_ia rfl h2 ix.1 (mm_WP.go [] 20 ?_)))
  rw [ix.2, h4 i hi]
  exact ⟨rfl, rfl⟩
theorem s_thingAt_n (d : Nat) (hs : SO mem r D) (ho : okS D) {x : Int32} (hx : ¬ vp_in x (tcO D)) : sp (d + 1) 32 [.ref r, .int x] mem (ans mem (-9)) := by
  obtain ⟨a, b, f, g, h1, h2, h3, h4, h5⟩ := hs
  have ht := ho.1
  refine ⟨⟨_, h1⟩, rfl, mm_WP.go [6] 20 ⟨fun c => ⟨rfl, rfl⟩, fun c => ?_⟩⟩
  refine w_gf rfl h1 rfl (mm_WP.go [14] 20 ⟨fun _ => ⟨rfl, rfl⟩, fun c2 => ?_⟩)
  exact absurd ((vp_nlt (by omega)).mpr ⟨c, Int32.not_le.mp c2⟩) hx
theorem s_doingAt (d : Nat) (hs : SO mem r D) (ho : okS D) {i : Nat} (hi : i < dcO D) : sp (d + 1) 35 [.ref r, .int (nI i)] mem (ans mem (nI (100 * dwO D i + 10 * dvO D i + dmO D i))) := by
  obtain ⟨a, b, f, g, h1, h2, h3, h4, h5⟩ := hs
  have ht := ho.2.1
  have ix := ix_n (w := i) (N := 3) (by decide) (by omega)
  refine ⟨⟨_, h1⟩, rfl, mm_WP.go [6] 20 ⟨fun c => absurd c (nI_pos (by omega)), fun _ => ?_⟩⟩
  refine w_gf rfl h1 rfl (mm_WP.go [14] 20 (lp_ge (k := i) (N := dcO D) rfl rfl (by omega) (by omega) (fun h => absurd h (by omega)) (fun _ => ?_)))
  refine w_gf rfl h1 rfl (w_al rfl h3 (mm_WP.go [22] 20 (lp_ge (k := i) (N := 3) rfl rfl (by omega) (by omega) (fun h => absurd h (by omega)) (fun _ => ?_))))
  refine w_gf rfl h1 rfl (mm_WP.go [26] 20 (w_ia rfl h3 ix.1 (mm_WP.go [] 20 ?_)))
  rw [ix.2, h5 i hi]
  exact ⟨rfl, rfl⟩
theorem s_doingAt_n (d : Nat) (hs : SO mem r D) (ho : okS D) {x : Int32} (hx : ¬ vp_in x (dcO D)) : sp (d + 1) 35 [.ref r, .int x] mem (ans mem (-9)) := by
  obtain ⟨a, b, f, g, h1, h2, h3, h4, h5⟩ := hs
  have ht := ho.2.1
  refine ⟨⟨_, h1⟩, rfl, mm_WP.go [6] 20 ⟨fun c => ⟨rfl, rfl⟩, fun c => ?_⟩⟩
  refine w_gf rfl h1 rfl (mm_WP.go [14] 20 ⟨fun _ => ⟨rfl, rfl⟩, fun c2 => ?_⟩)
  exact absurd ((vp_nlt (by omega)).mpr ⟨c, Int32.not_le.mp c2⟩) hx
theorem s_ct_loop {d : Nat} {B : Nat × Nat} {Q : mm_Q} (hs : SO mem r D) (ho : okS D) {a b : Nat} (hb : b < 128) (hq : Q (some (.int (nI (fb_ct (fun i => decide (thO D i &&& a = b)) (tcO D))))) mem) :
    ∀ (j k : Nat) (x y : Int32), j + k = tcO D → x = nI k → y = nI (fb_ct (fun i => decide (thO D i &&& a = b)) k) → wp (d + 1) B cd_Scene_countThings Q 5 [some (.ref r), some (.int (nI a)), some (.int (nI b)), some (.int y), some (.int x)] [] mem := by
  have hs0 := hs
  obtain ⟨a1, b1, f, g, h1, h2, h3, h4, h5⟩ := hs
  have ht := ho.1
  intro j
  induction j with
  | zero =>
    intro k x y hk hx hy
    refine mm_WP.go [8] 20 (w_gf rfl h1 rfl (mm_WP.go [5] 20 (lp_ge hx rfl (by omega) (by omega) (fun h => ?_) (fun h => absurd h (by omega)))))
    subst h
    rw [hy]
    exact hq
  | succ j ih =>
    intro k x y hk hx hy
    refine mm_WP.go [8] 20 (w_gf rfl h1 rfl (mm_WP.go [5] 20 (lp_ge hx rfl (by omega) (by omega) (fun h => absurd h (by omega)) (fun hk2 => ?_))))
    subst hx
    refine ca (s_thingAt d hs0 ho hk2) ?_
    have l1 := ho.2.2.1 k hk2
    have l2 : thO D k &&& a < 2 ^ 31 := Nat.lt_of_le_of_lt Nat.and_le_left (Nat.lt_of_lt_of_le l1 (by decide))
    have e : nI (thO D k) &&& nI a = nI b ↔ thO D k &&& a = b := by rw [fa_and, nI_eq l2 (by omega)]
    refine ⟨fun c => ?_, fun c => ?_⟩
    · refine ih (k + 1) _ _ (by omega) (nI_1 k) ?_
      rw [hy, fb_ct_succ, decide_eq_false (fun z => c (e.mpr z))]
      rfl
    · refine ih (k + 1) _ _ (by omega) (nI_1 k) ?_
      rw [hy, fb_ct_succ, decide_eq_true (e.mp c)]
      exact nI_1 _
theorem s_countThings (d : Nat) (hs : SO mem r D) (ho : okS D) {a b : Nat} (hb : b < 128) : sp (d + 2) 31 [.ref r, .int (nI a), .int (nI b)] mem (ans mem (nI (fb_ct (fun i => decide (thO D i &&& a = b)) (tcO D)))) := by
  have hs0 := hs
  obtain ⟨a1, b1, f, g, h1, h2, h3, h4, h5⟩ := hs
  exact ⟨⟨_, h1⟩, rfl, mm_WP.go [5] 20 (s_ct_loop hs0 ho hb ⟨rfl, rfl⟩ (tcO D) 0 _ _ rfl rfl rfl)⟩
/-- done so, to such -/
def dnb (D : Sc) (v a b i : Nat) : Bool := decide (dvO D i = v) && (decide (thO D (dwO D i) &&& a = a) && decide (thO D (dmO D i) &&& b = b))
theorem s_dn_loop {d : Nat} {B : Nat × Nat} {Q : mm_Q} (hs : SO mem r D) (ho : okS D) {v a b : Nat} (hv : v < 3) (ha : a < 128) (hb : b < 128) (hq : ∀ c, c = orb (dnb D v a b) (dcO D) → Q (some (.int (bI c))) mem) :
    ∀ (j k : Nat) (x : Int32) (u : Option Value), j + k = dcO D → x = nI k → orb (dnb D v a b) k = false → wp (d + 1) B cd_Scene_isDone Q 3 [some (.ref r), some (.int (nI v)), some (.int (nI a)), some (.int (nI b)), some (.int x), u] [] mem := by
  have hs0 := hs
  obtain ⟨a1, b1, f, g, h1, h2, h3, h4, h5⟩ := hs
  have ht := ho.1
  have hd := ho.2.1
  intro j
  induction j with
  | zero =>
    intro k x u hk hx hno
    refine mm_WP.go [6] 20 (w_gf rfl h1 rfl (mm_WP.go [3] 20 (lp_ge hx rfl (by omega) (by omega) (fun h => ?_) (fun h => absurd h (by omega)))))
    subst h
    exact ⟨rfl, hq false hno.symm⟩
  | succ j ih =>
    intro k x u hk hx hno
    refine mm_WP.go [6] 20 (w_gf rfl h1 rfl (mm_WP.go [3, 28] 20 (lp_ge hx rfl (by omega) (by omega) (fun h => absurd h (by omega)) (fun hk2 => ?_))))
    subst hx
    obtain ⟨o1, o2, o3⟩ := ho.2.2.2 k hk2
    have l1 := ho.2.2.1 _ o1
    have l2 := ho.2.2.1 _ o3
    refine ca (s_doingAt d hs0 ho hk2) ⟨by decide, by decide, ?_⟩
    have e10 : ∀ z : Nat, z < 2 ^ 31 → nI z / 10 = nI (z / 10) := fun z hz => pk_div (d := 10) hz (by decide) (by decide)
    have q1 : nI (100 * dwO D k + 10 * dvO D k + dmO D k) / 10 - nI (100 * dwO D k + 10 * dvO D k + dmO D k) / 10 / 10 * 10 = nI (dvO D k) := by
      rw [e10 _ (by omega), show (10 : Int32) = nI 10 from rfl, pk_rem (by omega) (by decide) (by decide)]
      congr 1
      omega
    have q2 : nI (100 * dwO D k + 10 * dvO D k + dmO D k) / 100 = nI (dwO D k) := by
      rw [show (100 : Int32) = nI 100 from rfl, pk_div (by omega) (by decide) (by decide)]
      congr 1
      omega
    have q3 : nI (100 * dwO D k + 10 * dvO D k + dmO D k) - nI (100 * dwO D k + 10 * dvO D k + dmO D k) / 10 * 10 = nI (dmO D k) := by
      rw [show (10 : Int32) = nI 10 from rfl, pk_rem (by omega) (by decide) (by decide)]
      congr 1
      omega
    show wp (d + 1) B cd_Scene_isDone Q 28 [some (.ref r), some (.int (nI v)), some (.int (nI a)), some (.int (nI b)), some (.int (nI k)), some (.int (nI (100 * dwO D k + 10 * dvO D k + dmO D k)))] [.int (nI (100 * dwO D k + 10 * dvO D k + dmO D k) / 10 - nI (100 * dwO D k + 10 * dvO D k + dmO D k) / 10 / 10 * 10)] mem
    rw [q1]
    have no : dnb D v a b k = false → wp (d + 1) B cd_Scene_isDone Q 3 [some (.ref r), some (.int (nI v)), some (.int (nI a)), some (.int (nI b)), some (.int (nI k + 1)), some (.int (nI (100 * dwO D k + 10 * dvO D k + dmO D k)))] [] mem := fun h => ih (k + 1) _ _ (by omega) (nI_1 k) (by rw [orb, hno, h]; rfl)
    refine mm_WP.go [3, 38] 20 ⟨fun c => no ?_, fun c => ⟨by decide, ?_⟩⟩
    · unfold dnb
      rw [decide_eq_false (fun z => c (by rw [z]))]
      rfl
    have c1 : dvO D k = v := (nI_eq (by omega) (by omega)).mp c
    show wp (d + 1) B cd_Scene_isDone Q 38 [some (.ref r), some (.int (nI v)), some (.int (nI a)), some (.int (nI b)), some (.int (nI k)), some (.int (nI (100 * dwO D k + 10 * dvO D k + dmO D k)))] [.int (nI (100 * dwO D k + 10 * dvO D k + dmO D k) / 100), .ref r] mem
    rw [q2]
    have ea : nI (thO D (dwO D k)) &&& nI a = nI a ↔ thO D (dwO D k) &&& a = a := by
      rw [fa_and, nI_eq (Nat.lt_of_le_of_lt Nat.and_le_left (by omega)) (by omega)]
    have eb : nI (thO D (dmO D k)) &&& nI b = nI b ↔ thO D (dmO D k) &&& b = b := by
      rw [fa_and, nI_eq (Nat.lt_of_le_of_lt Nat.and_le_left (by omega)) (by omega)]
    refine mm_WP.go [3, 53] 20 (ca (s_thingAt d hs0 ho o1) ⟨fun c => no ?_, fun c2 => ⟨by decide, ?_⟩⟩)
    · unfold dnb
      rw [decide_eq_false (fun z => c (ea.mpr z)), Bool.false_and, Bool.and_false]
    show wp (d + 1) B cd_Scene_isDone Q 53 [some (.ref r), some (.int (nI v)), some (.int (nI a)), some (.int (nI b)), some (.int (nI k)), some (.int (nI (100 * dwO D k + 10 * dvO D k + dmO D k)))] [.int (nI (100 * dwO D k + 10 * dvO D k + dmO D k) - nI (100 * dwO D k + 10 * dvO D k + dmO D k) / 10 * 10), .ref r] mem
    rw [q3]
    refine mm_WP.go [3] 20 (ca (s_thingAt d hs0 ho o3) ⟨fun c => no ?_, fun c3 => ⟨rfl, hq true ?_⟩⟩)
    · unfold dnb
      rw [decide_eq_false (fun z => c (eb.mpr z)), Bool.and_false, Bool.and_false]
    · refine ((orb_iff _).mpr ⟨k, hk2, ?_⟩).symm
      unfold dnb
      rw [decide_eq_true c1, decide_eq_true (ea.mp c2), decide_eq_true (eb.mp c3)]
      rfl
theorem s_isDone (d : Nat) (hs : SO mem r D) (ho : okS D) {v a b : Nat} (hv : v < 3) (ha : a < 128) (hb : b < 128) : sp (d + 2) 34 [.ref r, .int (nI v), .int (nI a), .int (nI b)] mem (ans mem (bI (orb (dnb D v a b) (dcO D)))) := by
  have hs0 := hs
  obtain ⟨a1, b1, f, g, h1, h2, h3, h4, h5⟩ := hs
  exact ⟨⟨_, h1⟩, rfl, mm_WP.go [3] 20 (s_dn_loop hs0 ho hv ha hb (fun c hc => by subst hc; exact ⟨rfl, rfl⟩) (dcO D) 0 _ _ rfl rfl rfl)⟩
end M24
