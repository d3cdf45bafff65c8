/-! choosing: sets of scenes in order, numbers for them -/
abbrev tB (x : Nat) : Nat → Bool := fun i => x.testBit i
theorem sb_of {N X : Nat} (h : X < 2 ^ N) : sb N (tB X) = X := by
  apply Nat.eq_of_testBit_eq
  intro i
  rw [sb_tb]
  by_cases hi : i < N
  · rw [decide_eq_true hi, Bool.true_and]
  · rw [decide_eq_false hi, Bool.false_and]
    exact (Nat.testBit_lt_two_pow (Nat.lt_of_lt_of_le h (Nat.pow_le_pow_right (by omega) (by omega)))).symm
theorem sb_cut {n N : Nat} (h : n ≤ N) (p : Nat → Bool) : sb n p = sb N (fun i => decide (i < n) && p i) := by
  apply Nat.eq_of_testBit_eq
  intro i
  rw [sb_tb, sb_tb]
  by_cases hi : i < n
  · rw [decide_eq_true (show i < N by omega), Bool.true_and]
  · rw [decide_eq_false hi]
    simp
/-- the least by f of those with p, below N -/
def mn (p : Nat → Bool) (f : Nat → Nat) (N : Nat) : Option Nat → Prop
  | none => ∀ k, k < N → p k = false
  | some c => c < N ∧ p c = true ∧ ∀ k, k < N → p k = true → f c < f k ∨ (f c = f k ∧ c ≤ k)
theorem ns_mn {p : Nat → Bool} {f : Nat → Nat} : ∀ (j k : Nat) (b : Option Nat), mn p f k b → mn p f (k + j) (ns p f j k b)
  | 0, k, b, h => h
  | j + 1, k, b, h => by
    rw [show k + (j + 1) = (k + 1) + j by omega]
    cases b with
    | none =>
      rw [ns]
      refine ns_mn j (k + 1) _ ?_
      by_cases hp : p k = true
      · rw [if_pos hp]
        refine ⟨by omega, hp, fun i hi hpi => ?_⟩
        rcases Nat.lt_or_ge i k with h1 | h1
        · rw [h i h1] at hpi
          exact absurd hpi (by decide)
        · have : i = k := by omega
          subst this
          exact Or.inr ⟨rfl, Nat.le_refl _⟩
      · rw [if_neg hp]
        intro i hi
        rcases Nat.lt_or_ge i k with h1 | h1
        · exact h i h1
        · have : i = k := by omega
          subst this
          simpa using hp
    | some c =>
      rw [ns]
      refine ns_mn j (k + 1) _ ?_
      obtain ⟨h1, h2, h3⟩ := h
      by_cases hp : p k = true ∧ f k < f c
      · rw [if_pos hp]
        refine ⟨by omega, hp.1, fun i hi hpi => ?_⟩
        rcases Nat.lt_or_ge i k with h4 | h4
        · have := h3 i h4 hpi
          omega
        · have : i = k := by omega
          subst this
          exact Or.inr ⟨rfl, Nat.le_refl _⟩
      · rw [if_neg hp]
        refine ⟨by omega, h2, fun i hi hpi => ?_⟩
        rcases Nat.lt_or_ge i k with h4 | h4
        · exact h3 i h4 hpi
        · have : i = k := by omega
          subst this
          have : ¬ f i < f c := fun z => hp ⟨hpi, z⟩
          omega
theorem mn_one {p : Nat → Bool} {f : Nat → Nat} {N : Nat} {a b : Option Nat} (ha : mn p f N a) (hb : mn p f N b) : a = b := by
  cases a with
  | none =>
    cases b with
    | none => rfl
    | some c =>
      have := ha c hb.1
      rw [hb.2.1] at this
      exact absurd this (by decide)
  | some c =>
    cases b with
    | none =>
      have := hb c ha.1
      rw [ha.2.1] at this
      exact absurd this (by decide)
    | some e =>
      have h1 := ha.2.2 e hb.1 hb.2.1
      have h2 := hb.2.2 c ha.1 ha.2.1
      rw [show c = e by omega]
/-- by another numbering, in the same order -/
theorem mn_map {p q : Nat → Bool} {f g : Nat → Nat} {N M : Nat} {t : Nat → Nat} {b : Option Nat} (h : mn p f N b) (h1 : ∀ k, k < N → t k < M ∧ q (t k) = p k ∧ g (t k) = f k) (h2 : ∀ x, x < M → q x = true → ∃ k, k < N ∧ x = t k) (h3 : ∀ i k, i < N → k < N → i ≤ k → t i ≤ t k) : mn q g M (b.map t) := by
  cases b with
  | none =>
    intro x hx
    cases hq : q x
    · rfl
    · obtain ⟨k, hk, rfl⟩ := h2 x hx hq
      have := (h1 k hk).2.1
      rw [hq, h k hk] at this
      exact absurd this (by decide)
  | some c =>
    obtain ⟨k1, k2, k3⟩ := h
    obtain ⟨c1, c2, c3⟩ := h1 c k1
    refine ⟨c1, c2.trans k2, fun x hx hq => ?_⟩
    obtain ⟨k, hk, rfl⟩ := h2 x hx hq
    obtain ⟨e1, e2, e3⟩ := h1 k hk
    rw [c3, e3]
    rcases k3 k hk (e2.symm.trans hq) with h4 | ⟨h4, h5⟩
    · exact Or.inl h4
    · exact Or.inr ⟨h4, h3 c k k1 hk h5⟩
/-- the set of those whose numbers are in T -/
def sc (N : Nat) (q : Nat → Bool) (T : Nat) : Nat := sb N (fun s => q s && T.testBit (fb_ct q s))
theorem sc_lt (N : Nat) (q : Nat → Bool) (T : Nat) : sc N q T < 2 ^ N := sb_lt _ _
theorem sc_tb {N : Nat} {q : Nat → Bool} {T s : Nat} (hs : s < N) : (sc N q T).testBit s = (q s && T.testBit (fb_ct q s)) := by
  unfold sc
  rw [sb_tb, decide_eq_true hs, Bool.true_and]
theorem sc_s (N : Nat) (q : Nat → Bool) (T : Nat) : sc (N + 1) q T = 2 ^ N * (if q N && T.testBit (fb_ct q N) then 1 else 0) + sc N q T := rfl
theorem sc_mod {q : Nat → Bool} {T : Nat} : ∀ {N : Nat} (k : Nat), fb_ct q N ≤ k → sc N q (T % 2 ^ k) = sc N q T := by
  intro N k h
  unfold sc
  refine sb_cong (fun s hs => ?_)
  cases hq : q s
  · rfl
  · have h1 : fb_ct q (s + 1) ≤ fb_ct q N := fb_ct_mono q hs
    rw [fb_ct_succ, if_pos hq] at h1
    rw [Nat.testBit_mod_two_pow, decide_eq_true (by omega), Bool.true_and]
theorem tb_hi {T k : Nat} (h : T < 2 ^ (k + 1)) : T = 2 ^ k * (if T.testBit k then 1 else 0) + T % 2 ^ k := by
  have h1 := Nat.div_add_mod T (2 ^ k)
  have h2 : T / 2 ^ k = if T.testBit k then 1 else 0 := by
    have h3 : T / 2 ^ k < 2 := by
      rw [Nat.div_lt_iff_lt_mul (Nat.two_pow_pos k)]
      rw [Nat.pow_succ] at h
      omega
    rw [Nat.testBit_eq_decide_div_mod_eq]
    by_cases h4 : T / 2 ^ k % 2 = 1
    · rw [decide_eq_true h4, if_pos rfl]
      clear h1 h
      revert h3 h4
      generalize T / 2 ^ k = y
      intro h3 h4
      omega
    · rw [decide_eq_false h4, if_neg (by decide)]
      clear h1 h
      revert h3 h4
      generalize T / 2 ^ k = y
      intro h3 h4
      omega
  rw [← h2]
  exact h1.symm
theorem sc_mono {q : Nat → Bool} : ∀ (N T U : Nat), T < 2 ^ fb_ct q N → U < 2 ^ fb_ct q N → T < U → sc N q T < sc N q U
  | 0, T, U, h1, h2, h3 => by
    rw [show fb_ct q 0 = 0 from rfl] at h1 h2
    omega
  | N + 1, T, U, h1, h2, h3 => by
    rw [sc_s, sc_s]
    rw [fb_ct_succ] at h1 h2
    by_cases hq : q N = true
    · rw [hq, if_pos rfl] at h1 h2
      rw [hq, Bool.true_and, Bool.true_and]
      have e1 := tb_hi h1
      have e2 := tb_hi h2
      have l1 := sc_lt N q T
      have l2 := sc_lt N q U
      have m1 := Nat.mod_lt T (Nat.two_pow_pos (fb_ct q N))
      have m2 := Nat.mod_lt U (Nat.two_pow_pos (fb_ct q N))
      cases ht : T.testBit (fb_ct q N) <;> cases hu : U.testBit (fb_ct q N) <;> rw [ht] at e1 <;> rw [hu] at e2 <;> simp only [reduceIte, Bool.false_eq_true, Nat.mul_zero, Nat.mul_one, Nat.zero_add] at e1 e2 ⊢
      · have := sc_mono (q := q) N T U (by omega) (by omega) h3
        omega
      · omega
      · omega
      · have := sc_mono (q := q) N (T % 2 ^ fb_ct q N) (U % 2 ^ fb_ct q N) m1 m2 (by omega)
        rw [sc_mod _ (Nat.le_refl _), sc_mod _ (Nat.le_refl _)] at this
        omega
    · rw [if_neg hq] at h1 h2
      have hq2 : q N = false := by simpa using hq
      rw [hq2]
      simp only [Bool.false_and, Bool.false_eq_true, reduceIte, Nat.mul_zero, Nat.zero_add]
      exact sc_mono N T U h1 h2 h3
theorem sc_le {q : Nat → Bool} {N T U : Nat} (h1 : T < 2 ^ fb_ct q N) (h2 : U < 2 ^ fb_ct q N) (h : T ≤ U) : sc N q T ≤ sc N q U := by
  rcases Nat.eq_or_lt_of_le h with h3 | h3
  · rw [h3]
    exact Nat.le_refl _
  · exact Nat.le_of_lt (sc_mono N T U h1 h2 h3)
theorem sc_inj {q : Nat → Bool} {N T U : Nat} (h1 : T < 2 ^ fb_ct q N) (h2 : U < 2 ^ fb_ct q N) (h : sc N q T = sc N q U) : T = U := by
  rcases Nat.lt_trichotomy T U with h3 | h3 | h3
  · have := sc_mono N T U h1 h2 h3
    omega
  · exact h3
  · have := sc_mono N U T h2 h1 h3
    omega
/-- where the k-th of them stands -/
theorem sc_all {q : Nat → Bool} : ∀ (N X : Nat), X < 2 ^ N → (∀ i, X.testBit i = true → q i = true) → ∃ T, T < 2 ^ fb_ct q N ∧ X = sc N q T
  | 0, X, h1, _ => ⟨0, Nat.two_pow_pos _, by rw [show X = 0 by omega]; rfl⟩
  | N + 1, X, h1, h2 => by
    have hm := Nat.mod_lt X (Nat.two_pow_pos N)
    obtain ⟨T, t1, t2⟩ := sc_all (q := q) N (X % 2 ^ N) hm (fun i hi => by
      rw [Nat.testBit_mod_two_pow, Bool.and_eq_true] at hi
      exact h2 i hi.2)
    have e := tb_hi h1
    cases hx : X.testBit N
    · rw [hx] at e
      simp only [Bool.false_eq_true, reduceIte, Nat.mul_zero, Nat.zero_add] at e
      refine ⟨T, ?_, ?_⟩
      · rw [fb_ct_succ]
        exact Nat.lt_of_lt_of_le t1 (Nat.pow_le_pow_right (by omega) (by omega))
      · rw [sc_s, ← t2, ← e]
        have : T.testBit (fb_ct q N) = false := Nat.testBit_lt_two_pow t1
        rw [this, Bool.and_false]
        simp
    · have hq := h2 N hx
      rw [hx, if_pos rfl, Nat.mul_one] at e
      refine ⟨2 ^ fb_ct q N + T, ?_, ?_⟩
      · rw [fb_ct_succ, if_pos hq, Nat.pow_succ]
        omega
      · rw [sc_s, hq, Bool.true_and]
        have h3 : (2 ^ fb_ct q N + T).testBit (fb_ct q N) = true := by
          rw [Nat.testBit_two_pow_add_eq, Nat.testBit_lt_two_pow t1]
          rfl
        rw [h3, if_pos rfl, Nat.mul_one, ← sc_mod (N := N) (fb_ct q N) (Nat.le_refl _), Nat.add_mod_left, Nat.mod_eq_of_lt t1, ← t2]
        exact e
theorem sc_sub {N : Nat} {q : Nat → Bool} {T i : Nat} (h : (sc N q T).testBit i = true) : q i = true ∧ i < N := by
  unfold sc at h
  rw [sb_tb] at h
  simp only [Bool.and_eq_true, decide_eq_true_eq] at h
  exact ⟨h.2.1, h.1⟩
theorem sc_ct {q : Nat → Bool} {T : Nat} : ∀ N, fb_ct (fun s => q s && T.testBit (fb_ct q s)) N = fb_ct (tB T) (fb_ct q N)
  | 0 => rfl
  | N + 1 => by
    rw [fb_ct_succ, sc_ct N, fb_ct_succ q N]
    by_cases hq : q N = true
    · rw [if_pos hq, fb_ct_succ, hq, Bool.true_and]
    · rw [if_neg hq, if_neg (fun z => hq (by simp only [Bool.and_eq_true] at z; exact z.1))]
      rfl
theorem sc_ones {q : Nat → Bool} {N T : Nat} : fb_ct (tB (sc N q T)) N = fb_ct (tB T) (fb_ct q N) := by
  rw [← sc_ct]
  exact fb_ct_cong (fun k hk => sc_tb hk)
theorem sc_and {N : Nat} {q : Nat → Bool} {T U : Nat} : sc N q T &&& sc N q U = sc N q (T &&& U) := by
  apply Nat.eq_of_testBit_eq
  intro i
  unfold sc
  rw [Nat.testBit_and, sb_tb, sb_tb, sb_tb, Nat.testBit_and]
  cases decide (i < N) <;> cases q i <;> simp
/-- lists of sets -/
def ct_l (f : Nat → List Nat) : Nat → List Nat
  | 0 => []
  | k + 1 => ct_l f k ++ f k
def LZ (q : Nat → Bool) : Nat → Nat → List Nat
  | 0, _ => [0]
  | z + 1, b => ct_l (fun s => if q s then (LZ q z s).map (fun y => 2 ^ s + y) else []) b
theorem LZ_s (q : Nat → Bool) (z b : Nat) : LZ q (z + 1) (b + 1) = LZ q (z + 1) b ++ (if q b then (LZ q z b).map (fun y => 2 ^ b + y) else []) := rfl
theorem ct_add {b Y : Nat} (hY : Y < 2 ^ b) : fb_ct (tB (2 ^ b + Y)) b = fb_ct (tB Y) b := fb_ct_cong (fun k hk => Nat.testBit_two_pow_add_gt hk Y)
theorem LZ_mem {q : Nat → Bool} : ∀ (z b X : Nat), X ∈ LZ q z b ↔ X < 2 ^ b ∧ (∀ i, X.testBit i = true → q i = true) ∧ fb_ct (tB X) b = z
  | 0, b, X => by
    show X ∈ [0] ↔ _
    rw [List.mem_singleton]
    constructor
    · rintro rfl
      refine ⟨Nat.two_pow_pos b, fun i hi => absurd hi (by rw [Nat.zero_testBit]; decide), fb_ct_zero.mpr (fun k _ => Nat.zero_testBit k)⟩
    · rintro ⟨h1, h2, h3⟩
      have h4 := fb_ct_zero.mp h3
      apply Nat.eq_of_testBit_eq
      intro i
      rw [Nat.zero_testBit]
      rcases Nat.lt_or_ge i b with h5 | h5
      · exact h4 i h5
      · exact Nat.testBit_lt_two_pow (Nat.lt_of_lt_of_le h1 (Nat.pow_le_pow_right (by omega) h5))
  | z + 1, 0, X => by
    refine ⟨fun h => absurd h List.not_mem_nil, fun h => ?_⟩
    exact absurd h.2.2 (by rw [show fb_ct (tB X) 0 = 0 from rfl]; omega)
  | z + 1, b + 1, X => by
    rw [LZ_s, List.mem_append, LZ_mem (z + 1) b X]
    have hp := Nat.two_pow_pos b
    rcases Nat.lt_or_ge X (2 ^ b) with hX | hX
    · have hb : X.testBit b = false := Nat.testBit_lt_two_pow hX
      have e : fb_ct (tB X) (b + 1) = fb_ct (tB X) b := by
        rw [fb_ct_succ, if_neg (by rw [show tB X b = false from hb]; decide)]
        rfl
      rw [e]
      constructor
      · rintro (h | h)
        · exact ⟨by rw [Nat.pow_succ]; omega, h.2⟩
        · split at h
          · obtain ⟨Y, _, rfl⟩ := List.mem_map.mp h
            omega
          · exact absurd h List.not_mem_nil
      · exact fun h => Or.inl ⟨hX, h.2⟩
    · constructor
      · rintro (h | h)
        · omega
        · split at h
          · rename_i hq
            obtain ⟨Y, hY, rfl⟩ := List.mem_map.mp h
            obtain ⟨y1, y2, y3⟩ := (LZ_mem z b Y).mp hY
            refine ⟨by rw [Nat.pow_succ]; omega, fun i hi => ?_, ?_⟩
            · rcases Nat.lt_trichotomy i b with h5 | h5 | h5
              · rw [Nat.testBit_two_pow_add_gt h5] at hi
                exact y2 i hi
              · rw [h5]
                exact hq
              · rw [Nat.testBit_lt_two_pow (Nat.lt_of_lt_of_le (show 2 ^ b + Y < 2 ^ (b + 1) by rw [Nat.pow_succ]; omega) (Nat.pow_le_pow_right (by omega) h5))] at hi
                exact absurd hi (by decide)
            · rw [fb_ct_succ, ct_add y1, y3, if_pos (show tB (2 ^ b + Y) b = true by
                show (2 ^ b + Y).testBit b = true
                rw [Nat.testBit_two_pow_add_eq, Nat.testBit_lt_two_pow y1]; rfl)]
          · exact absurd h List.not_mem_nil
      · rintro ⟨h1, h2, h3⟩
        refine Or.inr ?_
        rw [Nat.pow_succ] at h1
        have hY : X - 2 ^ b < 2 ^ b := by omega
        have eX : X = 2 ^ b + (X - 2 ^ b) := by omega
        have hb : X.testBit b = true := by
          rw [eX, Nat.testBit_two_pow_add_eq, Nat.testBit_lt_two_pow hY]
          rfl
        rw [if_pos (h2 b hb)]
        refine List.mem_map.mpr ⟨X - 2 ^ b, (LZ_mem z b _).mpr ⟨hY, fun i hi => ?_, ?_⟩, eX.symm⟩
        · refine h2 i ?_
          have h6 : i < b := by
            rcases Nat.lt_or_ge i b with h5 | h5
            · exact h5
            · rw [Nat.testBit_lt_two_pow (Nat.lt_of_lt_of_le hY (Nat.pow_le_pow_right (by omega) h5))] at hi
              exact absurd hi (by decide)
          rw [eX, Nat.testBit_two_pow_add_gt h6]
          exact hi
        · rw [eX, fb_ct_succ, ct_add hY, if_pos (by rw [← eX]; exact hb)] at h3
          omega
theorem LZ_asc {q : Nat → Bool} : ∀ (z b : Nat), (LZ q z b).Pairwise (· < ·)
  | 0, b => List.pairwise_singleton _ _
  | z + 1, 0 => List.Pairwise.nil
  | z + 1, b + 1 => by
    rw [LZ_s, List.pairwise_append]
    refine ⟨LZ_asc (z + 1) b, ?_, ?_⟩
    · split
      · rw [List.pairwise_map]
        exact (LZ_asc z b).imp (fun h => by omega)
      · exact List.Pairwise.nil
    · intro x hx y hy
      have h1 := ((LZ_mem (z + 1) b x).mp hx).1
      split at hy
      · obtain ⟨Y, _, rfl⟩ := List.mem_map.mp hy
        omega
      · exact absurd hy List.not_mem_nil
def chs : Nat → Nat → Nat
  | _, 0 => 1
  | 0, _ + 1 => 0
  | c + 1, s + 1 => chs c (s + 1) + chs c s
theorem LZ_len {q : Nat → Bool} : ∀ (z b : Nat), (LZ q z b).length = chs (fb_ct q b) z
  | 0, b => by
    show 1 = _
    cases fb_ct q b <;> rfl
  | z + 1, 0 => rfl
  | z + 1, b + 1 => by
    rw [LZ_s, List.length_append, LZ_len (z + 1) b, fb_ct_succ]
    by_cases hq : q b = true
    · rw [if_pos hq, if_pos hq, List.length_map, LZ_len z b, chs]
    · rw [if_neg hq, if_neg hq]
      rfl
theorem chs_220 : ∀ c, c < 13 → ∀ z, z < 4 → chs c z ≤ 220 := by decide +kernel
