/-! sets as numbers; branches; the two states -/
def sb : Nat → (Nat → Bool) → Nat
  | 0, _ => 0
  | n + 1, p => 2 ^ n * (if p n then 1 else 0) + sb n p
theorem sb_lt (p : Nat → Bool) : ∀ n, sb n p < 2 ^ n
  | 0 => by rw [sb]; decide
  | n + 1 => by
    have h := sb_lt p n
    rw [sb, Nat.pow_succ]
    split <;> omega
theorem sb_tb (p : Nat → Bool) : ∀ n i, (sb n p).testBit i = (decide (i < n) && p i)
  | 0, i => by rw [sb, Nat.zero_testBit]; simp
  | n + 1, i => by
    have ih := sb_tb p n i
    rw [sb]
    have hlt := sb_lt p n
    by_cases hp : p n = true
    · rw [if_pos hp, Nat.mul_one]
      rcases Nat.lt_trichotomy i n with h | h | h
      · rw [Nat.testBit_two_pow_add_gt h, ih]
        simp [h, Nat.lt_succ_of_lt h]
      · subst h
        rw [Nat.testBit_two_pow_add_eq, ih]
        simp [hp]
      · rw [Nat.testBit_lt_two_pow (Nat.lt_of_lt_of_le (show 2 ^ n + sb n p < 2 ^ (n + 1) by rw [Nat.pow_succ]; omega) (Nat.pow_le_pow_right (by omega) h))]
        simp [show ¬ i < n + 1 by omega]
    · rw [if_neg hp, Nat.mul_zero, Nat.zero_add, ih]
      by_cases h : i = n
      · subst h
        simp at hp
        simp [hp]
      · have : (i < n + 1) ↔ i < n := by omega
        simp [this]
theorem sb_cong {p q : Nat → Bool} {n : Nat} (h : ∀ i, i < n → p i = q i) : sb n p = sb n q := by
  apply Nat.eq_of_testBit_eq
  intro i
  rw [sb_tb, sb_tb]
  by_cases hi : i < n
  · rw [h i hi]
  · simp [hi]
theorem sb_inj {p q : Nat → Bool} {n : Nat} : sb n p = sb n q ↔ ∀ i, i < n → p i = q i := by
  refine ⟨fun h i hi => ?_, sb_cong⟩
  have h1 := congrArg (fun x => x.testBit i) h
  simp only [sb_tb, hi, decide_true, Bool.true_and] at h1
  exact h1
theorem sb_24 {n : Nat} (hn : n ≤ 24) (p : Nat → Bool) : sb n p < 16777216 := Nat.lt_of_lt_of_le (sb_lt p n) (show 2 ^ n ≤ 2 ^ 24 from Nat.pow_le_pow_right (by omega) hn)
theorem bt_nat {v : Nat} (h : v < 2147483648) (i : Nat) : bt (nI v) i = v.testBit i := by
  show (BitVec.ofNat 32 v).getLsbD i = _
  rw [BitVec.getLsbD_ofNat]
  by_cases hi : i < 32
  · simp [hi]
  · simp [hi]
    exact Nat.testBit_lt_two_pow (Nat.lt_of_lt_of_le h (show (2 : Nat) ^ 31 ≤ 2 ^ i from Nat.pow_le_pow_right (by omega) (by omega)))
theorem bt_sb {n : Nat} (hn : n ≤ 24) (p : Nat → Bool) (i : Nat) : bt (nI (sb n p)) i = (decide (i < n) && p i) := by
  have h := sb_24 hn p
  rw [bt_nat (by omega), sb_tb]
theorem sb_and {n : Nat} (hn : n ≤ 24) (p q : Nat → Bool) : nI (sb n p) &&& nI (sb n q) = nI (sb n (fun i => p i && q i)) := by
  apply b_ext
  intro i _
  rw [b_and, bt_sb hn, bt_sb hn, bt_sb hn]
  cases decide (i < n) <;> simp
theorem sb_or {n : Nat} (hn : n ≤ 24) (p q : Nat → Bool) : nI (sb n p) ||| nI (sb n q) = nI (sb n (fun i => p i || q i)) := by
  apply b_ext
  intro i _
  rw [b_or, bt_sb hn, bt_sb hn, bt_sb hn]
  cases decide (i < n) <;> simp
theorem sb_xor {n : Nat} (hn : n ≤ 24) (p q : Nat → Bool) : nI (sb n p) ^^^ nI (sb n q) = nI (sb n (fun i => p i ^^ q i)) := by
  apply b_ext
  intro i _
  rw [b_xor, bt_sb hn, bt_sb hn, bt_sb hn]
  cases decide (i < n) <;> simp
theorem sb_andn {n : Nat} (hn : n ≤ 24) (p q : Nat → Bool) : nI (sb n p) &&& (nI (sb n q) ^^^ (-1)) = nI (sb n (fun i => p i && !q i)) := by
  apply b_ext
  intro i hi
  rw [b_and, b_xor, b_m1 i hi, bt_sb hn, bt_sb hn, bt_sb hn]
  cases decide (i < n) <;> simp
theorem sb_nI {n : Nat} (hn : n ≤ 24) {p q : Nat → Bool} : nI (sb n p) = nI (sb n q) ↔ ∀ i, i < n → p i = q i := by
  have h1 := sb_24 hn p
  have h2 := sb_24 hn q
  rw [nI_eq (by omega) (by omega), sb_inj]
theorem sb_zero (n : Nat) : sb n (fun _ => false) = 0 := by
  apply Nat.eq_of_testBit_eq
  intro i
  rw [sb_tb]
  simp
theorem sb_nI0 {n : Nat} (hn : n ≤ 24) {p : Nat → Bool} : nI (sb n p) = 0 ↔ ∀ i, i < n → p i = false := by
  rw [show (0 : Int32) = nI (sb n (fun _ => false)) by rw [sb_zero]; rfl, sb_nI hn]
theorem od_ct : ∀ f x, od f x = fb_ct (fun i => x.testBit i) f
  | 0, _ => rfl
  | f + 1, x => by
    rw [od, od_ct f (x / 2), Nat.add_comm f 1, fb_ct_split, fb_ct_succ, fb_ct]
    have h1 : (x % 2) = (if x.testBit 0 then 1 else 0) := by
      rw [Nat.testBit_zero]
      by_cases h : x % 2 = 1
      · simp [h]
      · simp [h]; omega
    rw [h1, Nat.zero_add]
    congr 1
    apply fb_ct_cong
    intro k _
    rw [Nat.add_comm 1 k, Nat.testBit_succ]
theorem od_sb {n : Nat} (hn : n ≤ 24) (p : Nat → Bool) : od 24 (sb n p) = fb_ct p n := by
  rw [od_ct, show (24 : Nat) = n + (24 - n) by omega, fb_ct_split]
  have h1 : fb_ct (fun i => (sb n p).testBit i) n = fb_ct p n := fb_ct_cong (fun k hk => by rw [sb_tb]; simp [hk])
  have h2 : fb_ct (fun k => (sb n p).testBit (n + k)) (24 - n) = 0 := fb_ct_zero.mpr (fun k _ => by rw [sb_tb, decide_eq_false (show ¬ n + k < n by omega)]; rfl)
  rw [h1, h2, Nat.add_zero]
def bI (b : Bool) : Int32 := if b then 1 else 0
theorem bI_0 {b : Bool} (h : bI b = 0) : b = false := by
  cases b
  · rfl
  · exact absurd h (by decide)
theorem bI_1 {b : Bool} (h : ¬ bI b = 0) : b = true := by
  cases b
  · exact absurd rfl h
  · rfl
theorem bI_fit (b : Bool) : fits .boolean (.int (bI b)) = true := by cases b <;> rfl
theorem e1 {t f : Prop} (h : f) : ((1 : Int32) = 0 → t) ∧ (¬ (1 : Int32) = 0 → f) := ⟨fun c => absurd c (by decide), fun _ => h⟩
theorem e0 {t f : Prop} (h : t) : ((0 : Int32) = 0 → t) ∧ (¬ (0 : Int32) = 0 → f) := ⟨fun _ => h, fun c => absurd rfl c⟩
theorem n1 {t f : Prop} (h : t) : (¬ (1 : Int32) = 0 → t) ∧ ((1 : Int32) = 0 → f) := ⟨fun _ => h, fun c => absurd c (by decide)⟩
theorem n0 {t f : Prop} (h : f) : (¬ (0 : Int32) = 0 → t) ∧ ((0 : Int32) = 0 → f) := ⟨fun c => absurd rfl c, fun _ => h⟩
/-- a counter against a bound -/
theorem lp_ge {x y : Int32} {k N : Nat} {t f : Prop} (hx : x = nI k) (hy : y = nI N) (hN : N < 2 ^ 31) (hk : k ≤ N) (h1 : k = N → t) (h2 : k < N → f) : (y ≤ x → t) ∧ (¬ y ≤ x → f) := by
  subst hx
  subst hy
  refine ⟨fun c => h1 ?_, fun c => h2 ?_⟩
  · have := (nI_leI hN (by omega)).mp c
    omega
  · rcases Nat.lt_or_ge k N with h | h
    · exact h
    · exact absurd ((nI_leI hN (by omega)).mpr h) c
theorem ix_ma {c s w N : Nat} (hN : N < 2 ^ 31) (h : c * s + w < N) : vp_in (nI c * nI s + nI w) N ∧ (nI c * nI s + nI w).toNatClampNeg = c * s + w := by
  rw [pk_mul, nI_add]
  exact ⟨vp_in_nI h hN, nI_clamp (by omega)⟩
theorem ix_n {w N : Nat} (hN : N < 2 ^ 31) (h : w < N) : vp_in (nI w) N ∧ (nI w).toNatClampNeg = w := ⟨vp_in_nI h hN, nI_clamp (by omega)⟩
/-- the reference's scenes: how many, which meanings each has, which words were said -/
def RS (n : Nat) (H S : Nat → Nat → Bool) (A I : Nat → Nat → Int32) : Prop := n ≤ 24 ∧ I 38 0 = nI n ∧ (∀ s w, s < n → w < 6 → A 43 (6 * s + w) = bI (S s w)) ∧ (∀ s m, s < n → m < 90 → A 44 (90 * s + m) = bI (H s m))
/-- the class's -/
def CS (n : Nat) (H S : Nat → Nat → Bool) (A I : Nat → Nat → Int32) : Prop := n ≤ 24 ∧ I 21 2 = nI n ∧ (∀ w, w < 6 → A 27 w = nI (sb n (fun s => S s w))) ∧ (∀ m, m < 90 → A 26 m = nI (sb n (fun s => H s m)))
/-- in how many scenes a word was said that have not a meaning -/
def lf (n : Nat) (H S : Nat → Nat → Bool) (w m : Nat) : Nat := fb_ct (fun s => S s w && !H s m) n
theorem lf_le {n : Nat} {H S : Nat → Nat → Bool} {w m : Nat} : lf n H S w m ≤ n := fb_ct_le _ _
section M1
variable {L : Nat} {xs : Nat → Int32} {A I : Nat → Nat → Int32} {F : Nat → Nat → Option Nat} {P : mm_M} {n : Nat} {H S : Nat → Nat → Bool}
theorem m_isLeft_loop {d : Nat} {B : Nat × Nat} {Q : mm_Q} (hR : RS n H S A I) {w m : Nat} (hw : w < 6) (hm : m < 90) (sl : Int32) (hq : ∀ v, (v = 0 ∨ v = 1) → ((v = 1) ↔ (lf n H S w m : Int) ≤ sl.toInt) → Q (some (.int v)) (gm L xs A I F P)) :
    ∀ (j k : Nat) (x y : Int32), j + k = n → x = nI k → y = nI (fb_ct (fun s => S s w && !H s m) k) → wp d B cd_Model_isLeft Q 6 [some (.ref 38), some (.int (nI w)), some (.int sl), some (.int (nI m)), some (.int y), some (.int x)] [] (gm L xs A I F P) := by
  obtain ⟨hn, hI, hS, hH⟩ := hR
  intro j
  induction j with
  | zero =>
    intro k x y hk hx hy
    have hk : k = n := by omega
    subst hk
    refine mm_WP.go [6] 100 (lp_ge hx hI (by omega) (Nat.le_refl _) (fun _ => ?_) (fun h => absurd h (by omega)))
    have hct : fb_ct (fun s => S s w && !H s m) k ≤ k := fb_ct_le _ _
    have hyI : y.toInt = (lf k H S w m : Int) := by rw [hy, nI_toInt (by omega)]; rfl
    refine ⟨fun c => ?_, fun c => ?_⟩
    · refine ⟨rfl, hq 0 (Or.inl rfl) ⟨fun h => absurd h (by decide), fun h => ?_⟩⟩
      rw [fa_lt] at c
      omega
    · refine ⟨rfl, hq 1 (Or.inr rfl) ⟨fun _ => ?_, fun _ => rfl⟩⟩
      rw [fa_lt] at c
      omega
  | succ j ih =>
    intro k x y hk hx hy
    have hkn : k < n := by omega
    refine mm_WP.go [6] 100 (lp_ge hx hI (by omega) (by omega) (fun h => absurd h (by omega)) (fun _ => ?_))
    subst hx
    have i1 := ix_ma (c := 6) (s := k) (w := w) (N := 144) (by decide) (by omega)
    have i2 := ix_ma (c := 90) (s := k) (w := m) (N := 2160) (by decide) (by omega)
    have v1 : A 43 ((6 * nI k + nI w).toNatClampNeg) = bI (S k w) := by
      rw [show (6 * nI k + nI w).toNatClampNeg = 6 * k + w from i1.2]
      exact hS k w hkn hw
    have v2 : A 44 ((90 * nI k + nI m).toNatClampNeg) = bI (H k m) := by
      rw [show (90 * nI k + nI m).toNatClampNeg = 90 * k + m from i2.2]
      exact hH k m hkn hm
    refine ⟨i1.1, fun c => ?_, fun c => ⟨i2.1, fun c2 => ?_, fun c2 => ?_⟩⟩
    · have h1 : S k w = false := bI_0 (v1 ▸ c)
      refine ih (k + 1) _ _ (by omega) (nI_1 k) ?_
      rw [hy, fb_ct_succ, h1]
      exact Int32.add_zero _
    · have h1 : H k m = true := bI_1 (v2 ▸ c2)
      refine ih (k + 1) _ _ (by omega) (nI_1 k) ?_
      rw [hy, fb_ct_succ, h1, Bool.not_true, Bool.and_false]
      exact Int32.add_zero _
    · have h1 : S k w = true := bI_1 (v1 ▸ c)
      have h2 : H k m = false := bI_0 (v2 ▸ c2)
      refine ih (k + 1) _ _ (by omega) (nI_1 k) ?_
      rw [hy, fb_ct_succ, h1, h2]
      exact nI_1 _
theorem m_isLeft (d : Nat) (hR : RS n H S A I) {w m : Nat} (hw : w < 6) (hm : m < 90) (sl : Int32) : sp (d + 1) 141 [.ref 38, .int (nI w), .int sl, .int (nI m)] (gm L xs A I F P) (yes (gm L xs A I F P) ((lf n H S w m : Int) ≤ sl.toInt)) := by
  refine ⟨⟨_, rfl⟩, rfl, mm_WP.go [6] 100 ?_⟩
  refine m_isLeft_loop hR hw hm sl ?_ n 0 _ _ (by omega) rfl rfl
  rintro v (rfl | rfl) h
  · exact ⟨rfl, Or.inr ⟨fun z => absurd (h.mpr z) (by decide), rfl⟩⟩
  · exact ⟨rfl, Or.inl ⟨h.mp rfl, rfl⟩⟩
theorem c_isLeft (d : Nat) (hC : CS n H S A I) {w m : Nat} (hw : w < 6) (hm : m < 90) (sl : Int32) : sp (d + 2) 55 [.ref 21, .int (nI w), .int (nI m), .int sl] (gm L xs A I F P) (yes (gm L xs A I F P) ((lf n H S w m : Int) ≤ sl.toInt)) := by
  obtain ⟨hn, hI, hS, hH⟩ := hC
  have i1 := ix_n (w := w) (N := 6) (by decide) hw
  have i2 := ix_n (w := m) (N := 90) (by decide) hm
  refine ⟨⟨_, rfl⟩, rfl, mm_WP.go [15] 100 ⟨i1.1, i2.1, ?_⟩⟩
  have e : A 27 ((nI w).toNatClampNeg) &&& (A 26 ((nI m).toNatClampNeg) ^^^ (-1)) = nI (sb n (fun s => S s w && !H s m)) := by
    rw [i1.2, i2.2, hS w hw, hH m hm, sb_andn hn]
  show wp (d + 1) (mm_Al 55) cd_Told_isLeft _ 15 [some (.ref 21), some (.int (nI w)), some (.int (nI m)), some (.int sl)] [.int (A 27 ((nI w).toNatClampNeg) &&& (A 26 ((nI m).toNatClampNeg) ^^^ (-1)))] (gm L xs A I F P)
  rw [e]
  refine mm_WP.go [] 100 ⟨_, j_bitCount d (sb_24 hn _) _, ?_⟩
  rintro r m1 ⟨rfl, rfl⟩
  rw [od_sb hn]
  have hct : fb_ct (fun s => S s w && !H s m) n ≤ n := fb_ct_le _ _
  have hyI : (nI (fb_ct (fun s => S s w && !H s m) n)).toInt = (lf n H S w m : Int) := by rw [nI_toInt (by omega)]; rfl
  refine ⟨fun c => ?_, fun c => ?_⟩
  · refine ⟨rfl, rfl, Or.inr ⟨fun h => ?_, rfl⟩⟩
    rw [fa_lt, hyI] at c
    omega
  · refine ⟨rfl, rfl, Or.inl ⟨?_, rfl⟩⟩
    rw [fa_lt, hyI] at c
    omega
end M1
