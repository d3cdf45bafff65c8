/-! the reference's reader -/
def hI (t : Nat → Nat) (N p : Nat) : Int32 := if p < N then nI (t p) else -1
theorem hI_eq {t : Nat → Nat} {N p c : Nat} (ht : p < N → t p < 256) (hc : c < 256) : hI t N p = nI c ↔ hd t N p = c := by
  unfold hI hd
  by_cases h : p < N
  · rw [if_pos h, if_pos h, nI_eq (by have := ht h; omega) (by omega)]
  · rw [if_neg h, if_neg h]
    exact ⟨fun z => absurd z.symm (nI_m1 (by omega)), fun z => by omega⟩
theorem hI_int {t : Nat → Nat} {N p : Nat} (ht : p < N → t p < 256) : (hI t N p).toInt = if p < N then (t p : Int) else -1 := by
  unfold hI
  by_cases h : p < N
  · have := ht h
    rw [if_pos h, if_pos h, nI_toInt (by omega)]
  · rw [if_neg h, if_neg h]
    decide
theorem hI_in {t : Nat → Nat} {N p a : Nat} (ht : p < N → t p < 256) (ha : a < 200) : ((nI a).toInt64 ≤ (hI t N p).toInt64 ∧ (hI t N p).toInt64 ≤ 102) ↔ (a ≤ hd t N p ∧ hd t N p ≤ 102) := by
  rw [show (102 : Int64) = (nI 102).toInt64 from by decide, in_32, hI_int ht, nI_toInt (by omega), nI_toInt (by omega)]
  unfold hd
  by_cases h : p < N
  · rw [if_pos h, if_pos h]
    omega
  · rw [if_neg h, if_neg h]
    omega
theorem hI_sub {t : Nat → Nat} {N p a k : Nat} (ht : p < N → t p < 256) (ha : a < 200) (hk : a + k < 256) : vp_in (hI t N p - nI a) k ↔ (a ≤ hd t N p ∧ hd t N p < a + k) := by
  rw [vp_in_iff]
  unfold hI hd
  by_cases h : p < N
  · have := ht h
    rw [if_pos h, if_pos h, pk_sub_toInt (by omega) (by omega)]
    omega
  · rw [if_neg h, if_neg h]
    have e : ((-1 : Int32) - nI a).toInt = -1 - (a : Int) := by
      have : ∀ a, a < 200 → ((-1 : Int32) - nI a).toInt = -1 - (a : Int) := by decide +kernel
      exact this a ha
    rw [e]
    omega
theorem hI_v {t : Nat → Nat} {N p a k : Nat} (ht : p < N → t p < 256) (hk : a + k < 256) (h : a ≤ hd t N p ∧ hd t N p < a + k) : hI t N p - nI a = nI (hd t N p - a) := by
  have h1 := hd_lt (t := t) (N := N) (p := p) (by omega)
  rw [h1.2] at h ⊢
  unfold hI
  rw [if_pos h1.1, pk_sub h.1]
theorem rt_take {t : Nat → Nat} {N p b i : Nat} (hi : i < 6) (h : hd t N p = 97 + i) : ∀ (j m : Nat), m + j = 6 → m ≤ i → rt t N j m p b = rt t N (5 - i) (i + 1) (p + 1) (b + 2 ^ i)
  | 0, m, hm, hmi => absurd hm (by omega)
  | j + 1, m, hm, hmi => by
    rw [rt]
    by_cases c : m = i
    · subst c
      rw [if_pos h, show j = 5 - m by omega]
    · rw [if_neg (by omega)]
      exact rt_take hi h j (m + 1) (by omega) (by omega)
theorem rt_stop {t : Nat → Nat} {N p b : Nat} : ∀ (j m : Nat), m + j = 6 → ¬ (97 + m ≤ hd t N p ∧ hd t N p ≤ 102) → rt t N j m p b = (b, p)
  | 0, m, hm, h => rfl
  | j + 1, m, hm, h => by
    rw [rt, if_neg (by omega)]
    exact rt_stop j (m + 1) (by omega) (by omega)
def TXm (t : Nat → Nat) (N : Nat) (A I : Nat → Nat → Int32) : Prop := N ≤ 40 ∧ I 38 18 = nI N ∧ ∀ i, i < N → A 49 i = nI (t i) ∧ t i < 256
section M28
variable {L : Nat} {xs : Nat → Int32} {A I : Nat → Nat → Int32} {F : Nat → Nat → Option Nat} {P : mm_M}
abbrev gR (L : Nat) (xs : Nat → Int32) (A I : Nat → Nat → Int32) (F : Nat → Nat → Option Nat) (P : mm_M) (h1 h2 h3 h4 : Nat → Int32) (p : Nat) (v : Int32) : mm_M := gm L xs (uR (uR (uR (uR A 39 h1) 40 h2) 41 h3) 42 h4) (uI (uI I 38 17 (nI p)) 38 19 v) F P
theorem m_here (d : Nat) {t : Nat → Nat} {N p : Nat} (hT : TXm t N A I) (hp : p ≤ N) (hat : I 38 17 = nI p) : sp (d + 1) 120 [.ref 38] (gm L xs A I F P) (ans (gm L xs A I F P) (hI t N p)) := by
  obtain ⟨hN, hE, hA⟩ := hT
  refine ⟨⟨_, rfl⟩, rfl, ?_⟩
  rcases Nat.lt_or_ge p N with h | h
  · have ix := ix_n (w := p) (N := 40) (by decide) (by omega)
    refine mm_WP.go [] 40 ⟨fun _ => ⟨?_, ?_⟩, fun c => ?_⟩
    · rw [hat]
      exact ix.1
    · rw [hat, ix.2, (hA p h).1]
      refine ⟨?_, rfl⟩
      unfold hI
      rw [if_pos h]
    · rw [hat, hE] at c
      exact absurd (nI_lt h (by omega)) c
  · refine mm_WP.go [] 40 ⟨fun c => ?_, fun _ => ⟨?_, rfl⟩⟩
    · rw [hat, hE, nI_ltI (by omega) (by omega)] at c
      omega
    · unfold hI
      rw [if_neg (by omega)]
end M28
