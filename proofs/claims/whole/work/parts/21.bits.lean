/-! counting ones; sets as bits -/
theorem an_split {a m : Nat} (q r : Nat) (ha : a < 256) (hm : m < 256) : (a + 256 * q) &&& (m + 256 * r) = (a &&& m) + 256 * (q &&& r) := by
  have h1 : ((a + 256 * q) &&& (m + 256 * r)) % 2 ^ 8 = a &&& m := by
    rw [Nat.and_mod_two_pow]
    congr 1 <;> omega
  have h2 : ((a + 256 * q) &&& (m + 256 * r)) / 2 ^ 8 = q &&& r := by
    rw [Nat.and_div_two_pow]
    congr 1 <;> omega
  have h3 := Nat.div_add_mod ((a + 256 * q) &&& (m + 256 * r)) (2 ^ 8)
  rw [h1, h2] at h3
  omega
theorem an_3 {a b c m : Nat} (ha : a < 256) (hb : b < 256) (hm : m < 256) : (a + 256 * b + 65536 * c) &&& (m + 256 * m + 65536 * m) = (a &&& m) + 256 * (b &&& m) + 65536 * (c &&& m) := by
  rw [show a + 256 * b + 65536 * c = a + 256 * (b + 256 * c) by omega, show m + 256 * m + 65536 * m = m + 256 * (m + 256 * m) by omega, an_split _ _ ha hm, an_split _ _ hb hm]
  omega
def f1 (a : Nat) : Nat := a - (a / 2 &&& 85)
def f2 (a : Nat) : Nat := (a &&& 51) + (a / 4 &&& 51)
theorem by_1 : ∀ a, a < 256 → ∀ e, e < 2 → (a / 2 + 128 * e) &&& 85 = a / 2 &&& 85 := by decide +kernel
theorem by_1b : ∀ a, a < 256 → (a / 2 &&& 85) ≤ a := by decide +kernel
theorem by_2 : ∀ a, a < 256 → ∀ e, e < 4 → (f1 a / 4 + 64 * e) &&& 51 = f1 a / 4 &&& 51 := by decide +kernel
theorem by_3 : ∀ a, a < 256 → f2 (f1 a) ≤ 68 := by decide +kernel
theorem by_4 : ∀ z, z < 69 → ∀ e, e < 5 → (z + z / 16 + 16 * e) &&& 15 = (z + z / 16) &&& 15 := by decide +kernel
theorem by_5 : ∀ a, a < 256 → f2 (f1 a) % 16 < 5 := by decide +kernel
theorem by_6 : ∀ a, a < 256 → (f2 (f1 a) + f2 (f1 a) / 16) &&& 15 = od 8 a := by decide +kernel
theorem by_7 : ∀ a, a < 256 → od 8 a ≤ 8 := by decide +kernel
theorem od_add : ∀ (f g x : Nat), od (f + g) x = od f (x % 2 ^ f) + od g (x / 2 ^ f)
  | 0, g, x => by rw [Nat.zero_add, od, Nat.pow_zero, Nat.div_one, Nat.zero_add]
  | f + 1, g, x => by
    rw [show f + 1 + g = (f + g) + 1 by omega, od, od, od_add f g (x / 2)]
    rw [show x % 2 ^ (f + 1) % 2 = x % 2 by rw [Nat.pow_succ, Nat.mul_comm]; exact Nat.mod_mul_right_mod x 2 (2 ^ f)]
    rw [show x % 2 ^ (f + 1) / 2 = x / 2 % 2 ^ f by rw [Nat.pow_succ, Nat.mul_comm]; exact Nat.mod_mul_right_div_self x 2 (2 ^ f)]
    rw [show x / 2 ^ (f + 1) = x / 2 / 2 ^ f by rw [Nat.pow_succ, Nat.mul_comm, Nat.div_div_eq_div_mul]]
    omega
/-- the count by halves, as numbers -/
theorem pc_1 {a b c : Nat} (ha : a < 256) (hb : b < 256) (hc : c < 256) : ((a + 256 * b + 65536 * c) / 2 &&& 5592405) = (a / 2 &&& 85) + 256 * (b / 2 &&& 85) + 65536 * (c / 2 &&& 85) := by
  rw [show (a + 256 * b + 65536 * c) / 2 = (a / 2 + 128 * (b % 2)) + 256 * (b / 2 + 128 * (c % 2)) + 65536 * (c / 2) by omega, show (5592405 : Nat) = 85 + 256 * 85 + 65536 * 85 by decide, an_3 (by omega) (by omega) (by decide), by_1 a ha _ (by omega), by_1 b hb _ (by omega)]
theorem pc_2 {a b c : Nat} (ha : a < 256) (hb : b < 256) (hc : c < 256) : ((f1 a + 256 * f1 b + 65536 * f1 c) &&& 3355443) + ((f1 a + 256 * f1 b + 65536 * f1 c) / 4 &&& 3355443) = f2 (f1 a) + 256 * f2 (f1 b) + 65536 * f2 (f1 c) := by
  have la : f1 a < 256 := by unfold f1; omega
  have lb : f1 b < 256 := by unfold f1; omega
  have p1 := by_2 a ha
  have p2 := by_2 b hb
  unfold f2
  generalize f1 a = a1 at *
  generalize f1 b = b1 at *
  generalize f1 c = c1 at *
  rw [show (a1 + 256 * b1 + 65536 * c1) / 4 = (a1 / 4 + 64 * (b1 % 4)) + 256 * (b1 / 4 + 64 * (c1 % 4)) + 65536 * (c1 / 4) by omega, show (3355443 : Nat) = 51 + 256 * 51 + 65536 * 51 by decide, an_3 la lb (by decide), an_3 (by omega) (by omega) (by decide), p1 _ (by omega), p2 _ (by omega)]
  omega
theorem pc_3 {a b c : Nat} (ha : a < 256) (hb : b < 256) (hc : c < 256) : (((f2 (f1 a) + 256 * f2 (f1 b) + 65536 * f2 (f1 c)) + (f2 (f1 a) + 256 * f2 (f1 b) + 65536 * f2 (f1 c)) / 16) &&& 986895) = od 8 a + 256 * od 8 b + 65536 * od 8 c := by
  have p3 := by_3 a ha
  have p4 := by_3 b hb
  have p6 := by_5 b hb
  have p7 := by_5 c hc
  rw [← by_6 a ha, ← by_6 b hb, ← by_6 c hc]
  generalize f2 (f1 a) = a2 at *
  generalize f2 (f1 b) = b2 at *
  generalize f2 (f1 c) = c2 at *
  have r1 := by_4 a2 (by omega) (b2 % 16) p6
  have r2 := by_4 b2 (by omega) (c2 % 16) p7
  rw [show (a2 + 256 * b2 + 65536 * c2) + (a2 + 256 * b2 + 65536 * c2) / 16 = (a2 + a2 / 16 + 16 * (b2 % 16)) + 256 * (b2 + b2 / 16 + 16 * (c2 % 16)) + 65536 * (c2 + c2 / 16) by omega, show (986895 : Nat) = 15 + 256 * 15 + 65536 * 15 by decide, an_3 (by omega) (by omega) (by decide), r1, r2]
theorem pc_nat {v y z t u : Nat} (hv : v < 16777216) (hy : y = v - (v / 2 &&& 5592405)) (hz : z = (y &&& 3355443) + (y / 4 &&& 3355443)) (ht : t = (z + z / 16) &&& 986895) (hu : u = t + t / 256) : (u + u / 65536) % 64 = od 24 v ∧ y < 16777216 ∧ z + z / 16 < 16777216 ∧ t < 16777216 ∧ u < 33554432 ∧ (v / 2 &&& 5592405) ≤ v := by
  obtain ⟨a, b, c, ha, hb, hc, rfl⟩ : ∃ a b c, a < 256 ∧ b < 256 ∧ c < 256 ∧ v = a + 256 * b + 65536 * c := ⟨v % 256, v / 256 % 256, v / 65536, by omega, by omega, by omega, by omega⟩
  have k1 := by_1b a ha
  have k2 := by_1b b hb
  have k3 := by_1b c hc
  have hy2 : y = f1 a + 256 * f1 b + 65536 * f1 c := by
    rw [hy, pc_1 ha hb hc]
    unfold f1
    omega
  have hz2 : z = f2 (f1 a) + 256 * f2 (f1 b) + 65536 * f2 (f1 c) := by rw [hz, hy2, pc_2 ha hb hc]
  have ht2 : t = od 8 a + 256 * od 8 b + 65536 * od 8 c := by rw [ht, hz2, pc_3 ha hb hc]
  have e5 : od 24 (a + 256 * b + 65536 * c) = od 8 a + (od 8 b + od 8 c) := by
    rw [show (24 : Nat) = 8 + (8 + 8) by decide, od_add, od_add]
    rw [show (a + 256 * b + 65536 * c) % 2 ^ 8 = a by omega, show (a + 256 * b + 65536 * c) / 2 ^ 8 % 2 ^ 8 = b by omega, show (a + 256 * b + 65536 * c) / 2 ^ 8 / 2 ^ 8 = c by omega]
  have q1 := by_7 a ha
  have q2 := by_7 b hb
  have q3 := by_7 c hc
  have q4 := by_3 a ha
  have q5 := by_3 b hb
  have q6 := by_3 c hc
  have la : f1 a < 256 := by unfold f1; omega
  have lb : f1 b < 256 := by unfold f1; omega
  have lc : f1 c < 256 := by unfold f1; omega
  rw [e5, pc_1 ha hb hc]
  generalize od 8 a = x1 at *
  generalize od 8 b = x2 at *
  generalize od 8 c = x3 at *
  generalize f2 (f1 a) = w1 at *
  generalize f2 (f1 b) = w2 at *
  generalize f2 (f1 c) = w3 at *
  subst ht2
  have hu2 : u = (x1 + x2) + 256 * (x2 + x3) + 65536 * x3 := by omega
  have hu3 : u / 65536 = x3 := by omega
  refine ⟨?_, by omega, by omega, by omega, by omega, by omega⟩
  rw [hu3, hu2]
  omega
theorem an_low {x m q : Nat} (hx : x < 16777216) (hm : m < 16777216) : x &&& (m + 16777216 * q) = x &&& m := by
  have h1 : x &&& (m + 16777216 * q) ≤ x := Nat.and_le_left
  have h2 : (x &&& (m + 16777216 * q)) % 2 ^ 24 = x &&& m := by
    rw [Nat.and_mod_two_pow]
    congr 1 <;> omega
  rw [← h2]
  omega
theorem ush_nat {v k : Nat} (hv : v < 2147483648) (hk : k < 31) : ((nI v).toUInt32 >>> ((nI k).toUInt32 &&& Int32.toUInt32 31)).toInt32 = nI (v / 2 ^ k) := by
  have e : ∀ n, n < 2147483648 → ∀ i, bt (nI n) i = n.testBit i := by
    intro n hn i
    show (BitVec.ofNat 32 n).getLsbD i = _
    rw [BitVec.getLsbD_ofNat]
    by_cases h : i < 32
    · simp [h]
    · simp [h]
      exact Nat.testBit_lt_two_pow (Nat.lt_of_lt_of_le hn (show (2 : Nat) ^ 31 ≤ 2 ^ i from Nat.pow_le_pow_right (by omega) (by omega)))
  apply b_ext
  intro i _
  rw [b_ushr k (by omega), e v hv, e _ (Nat.lt_of_le_of_lt (Nat.div_le_self _ _) hv), Nat.testBit_div_two_pow]
  rw [Nat.add_comm]
set_option maxHeartbeats 2000000 in
theorem j_bitCount (d : Nat) {v : Nat} (hv : v < 16777216) (mem : mm_M) : sp (d + 1) 183 [.int (nI v)] mem (ans mem (nI (od 24 v))) := by
  refine ⟨trivial, rfl, ?_⟩
  obtain ⟨y, hy⟩ : ∃ y, y = v - (v / 2 &&& 5592405) := ⟨_, rfl⟩
  obtain ⟨z, hz⟩ : ∃ z, z = (y &&& 3355443) + (y / 4 &&& 3355443) := ⟨_, rfl⟩
  obtain ⟨t, ht⟩ : ∃ t, t = (z + z / 16) &&& 986895 := ⟨_, rfl⟩
  obtain ⟨u, hu⟩ : ∃ u, u = t + t / 256 := ⟨_, rfl⟩
  obtain ⟨h1, h2, hz9, h4, h5, h6⟩ := pc_nat hv hy hz ht hu
  have h3 : z < 16777216 := by omega
  have e1 : nI v - (((nI v).toUInt32 >>> ((1 : Int32).toUInt32 &&& Int32.toUInt32 31)).toInt32 &&& 1431655765) = nI y := by
    rw [show (1 : Int32) = nI 1 from rfl, ush_nat (by omega) (by omega), show (1431655765 : Int32) = nI (5592405 + 16777216 * 85) from rfl, fa_and, an_low (by omega) (by omega), show v / 2 ^ 1 = v / 2 from rfl, pk_sub h6, hy]
  have e2 : (nI y &&& 858993459) + (((nI y).toUInt32 >>> ((2 : Int32).toUInt32 &&& Int32.toUInt32 31)).toInt32 &&& 858993459) = nI z := by
    rw [show (2 : Int32) = nI 2 from rfl, ush_nat (by omega) (by omega), show (858993459 : Int32) = nI (3355443 + 16777216 * 51) from rfl, fa_and, fa_and, an_low (by omega) (by omega), an_low (by omega) (by omega), show y / 2 ^ 2 = y / 4 from rfl, nI_add, hz]
  have e3 : (nI z + ((nI z).toUInt32 >>> ((4 : Int32).toUInt32 &&& Int32.toUInt32 31)).toInt32) &&& 252645135 = nI t := by
    rw [show (4 : Int32) = nI 4 from rfl, ush_nat (by omega) (by omega), show z / 2 ^ 4 = z / 16 from rfl, nI_add, show (252645135 : Int32) = nI (986895 + 16777216 * 15) from rfl, fa_and, an_low hz9 (by omega), ht]
  have e4 : nI t + ((nI t).toUInt32 >>> ((8 : Int32).toUInt32 &&& Int32.toUInt32 31)).toInt32 = nI u := by
    rw [show (8 : Int32) = nI 8 from rfl, ush_nat (by omega) (by omega), show t / 2 ^ 8 = t / 256 from rfl, nI_add, hu]
  have e5 : (nI u + ((nI u).toUInt32 >>> ((16 : Int32).toUInt32 &&& Int32.toUInt32 31)).toInt32) &&& 63 = nI (od 24 v) := by
    rw [show (16 : Int32) = nI 16 from rfl, ush_nat (by omega) (by omega), show u / 2 ^ 16 = u / 65536 from rfl, nI_add, show (63 : Int32) = nI (2 ^ 6 - 1) from rfl, fa_mask, show (2 : Nat) ^ 6 = 64 from rfl, h1]
  refine mm_WP.go [10] 20 ?_
  show wp d (mm_Al 183) cd_Integer_bitCount _ 10 [some (.int (nI v - (((nI v).toUInt32 >>> ((1 : Int32).toUInt32 &&& Int32.toUInt32 31)).toInt32 &&& 1431655765)))] [] mem
  rw [e1]
  refine mm_WP.go [24] 20 ?_
  show wp d (mm_Al 183) cd_Integer_bitCount _ 24 [some (.int ((nI y &&& 858993459) + (((nI y).toUInt32 >>> ((2 : Int32).toUInt32 &&& Int32.toUInt32 31)).toInt32 &&& 858993459)))] [] mem
  rw [e2]
  refine mm_WP.go [34] 20 ?_
  show wp d (mm_Al 183) cd_Integer_bitCount _ 34 [some (.int ((nI z + ((nI z).toUInt32 >>> ((4 : Int32).toUInt32 &&& Int32.toUInt32 31)).toInt32) &&& 252645135))] [] mem
  rw [e3]
  refine mm_WP.go [41] 20 ?_
  show wp d (mm_Al 183) cd_Integer_bitCount _ 41 [some (.int (nI t + ((nI t).toUInt32 >>> ((8 : Int32).toUInt32 &&& Int32.toUInt32 31)).toInt32))] [] mem
  rw [e4]
  refine mm_WP.go [] 20 ?_
  show ans mem (nI (od 24 v)) (some (.int ((nI u + ((nI u).toUInt32 >>> ((16 : Int32).toUInt32 &&& Int32.toUInt32 31)).toInt32) &&& 63))) mem
  rw [e5]
  exact ⟨rfl, rfl⟩
