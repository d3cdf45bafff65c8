/-! the reference's reader: things -/
section M29
variable {L : Nat} {xs : Nat → Int32} {A I : Nat → Nat → Int32} {F : Nat → Nat → Option Nat} {P : mm_M}
theorem m_rt_loop {d : Nat} {B : Nat × Nat} {Q : mm_Q} {t : Nat → Nat} {N : Nat} {s v : Int32} {h1 h2 h3 h4 : Nat → Int32} (hT : TXm t N A I) (K : Nat × Nat) (hq : ∀ u, wp (d + 1) B cd_Model_readThing Q 50 [some (.ref 38), some (.int s), some (.int u), some (.int (nI K.1))] [] (gR L xs A I F P h1 h2 h3 h4 K.2 v)) :
    ∀ (n m p b : Nat) (x y : Int32), 6 ≤ m + n → m ≤ 6 → b < 2 ^ m → p ≤ N → x = nI (96 + m) → y = nI b → rt t N (6 - m) m p b = K → wp (d + 1) B cd_Model_readThing Q 5 [some (.ref 38), some (.int s), some (.int x), some (.int y)] [] (gR L xs A I F P h1 h2 h3 h4 p v) := by
  have ht : ∀ p, p < N → t p < 256 := fun p h => (hT.2.2 p h).2
  intro n
  induction n with
  | zero =>
    intro m p b x y h6 hm hb hp hx hy hK
    have hno : ¬ (97 + m ≤ hd t N p ∧ hd t N p ≤ 102) := by omega
    rw [rt_stop (6 - m) m (by omega) hno] at hK
    subst hK
    subst hx
    subst hy
    have hh := m_here (L := L) (xs := xs) (A := uR (uR (uR (uR A 39 h1) 40 h2) 41 h3) 42 h4) (I := uI (uI I 38 17 (nI p)) 38 19 v) (F := F) (P := P) d hT hp rfl
    have hin := m_in d (hI t N p).toInt64 (nI (96 + m) + 1).toInt64 102 (gR L xs A I F P h1 h2 h3 h4 p v)
    refine mm_WP.go [5, 50] 40 (ca hh (cy hin (fun h => ?_) (fun _ => e0 (hq _))))
    rw [nI_1] at h
    exact absurd ((hI_in (ht p) (by omega)).mp h) (by omega)
  | succ n ih =>
    intro m p b x y h6 hm hb hp hx hy hK
    subst hx
    subst hy
    have hh := m_here (L := L) (xs := xs) (A := uR (uR (uR (uR A 39 h1) 40 h2) 41 h3) 42 h4) (I := uI (uI I 38 17 (nI p)) 38 19 v) (F := F) (P := P) d hT hp rfl
    have hin := m_in d (hI t N p).toInt64 (nI (96 + m) + 1).toInt64 102 (gR L xs A I F P h1 h2 h3 h4 p v)
    refine mm_WP.go [5, 36, 50] 40 (ca hh (cy hin (fun h => e1 (ca hh ?_)) (fun h => e0 ?_)))
    · rw [nI_1, hI_in (ht p) (by omega)] at h
      have g1 := hd_lt (t := t) (N := N) (p := p) (by omega)
      obtain ⟨i, hi, he⟩ : ∃ i, i < 6 ∧ hd t N p = 97 + i := ⟨hd t N p - 97, by omega, by omega⟩
      have e : hI t N p = nI (97 + i) := (hI_eq (ht p) (by omega)).mpr he
      have hmi : m ≤ i := by omega
      rw [rt_take hi he (6 - m) m (by omega) hmi] at hK
      have hb2 : b < 2 ^ i := Nat.lt_of_lt_of_le hb (Nat.pow_le_pow_right (by decide) hmi)
      have e2 : nI b ||| ((1 : Int32) <<< ((hI t N p - 97) &&& 31)) = nI (b + 2 ^ i) := by
        rw [e, show (97 : Int32) = nI 97 from rfl, pk_sub (by omega), show 97 + i - 97 = i by omega, sh_one i (by omega), Int32.or_comm]
        have := fa_or_sum 1 hb2
        rw [Nat.mul_one] at this
        rw [this, Nat.add_comm]
      show wp (d + 1) B cd_Model_readThing Q 36 [some (.ref 38), some (.int s), some (.int (hI t N p)), some (.int (nI b))] [.int (nI b ||| ((1 : Int32) <<< ((hI t N p - 97) &&& 31)))] (gR L xs A I F P h1 h2 h3 h4 p v)
      rw [e2, e]
      refine mm_WP.go [5, 50] 40 ⟨trivial, ?_⟩
      have h2 : 2 ^ (i + 1) = 2 * 2 ^ i := by rw [Nat.pow_succ]; omega
      have h5 := ih (i + 1) (p + 1) (b + 2 ^ i) (nI (97 + i)) (nI (b + 2 ^ i)) (by omega) (by omega) (by omega) (by omega) (by rw [show 96 + (i + 1) = 97 + i by omega]) rfl (by rw [show 6 - (i + 1) = 5 - i by omega]; exact hK)
      unfold gR at h5
      rw [← nI_1 p] at h5
      exact h5
    · rw [nI_1, hI_in (ht p) (by omega)] at h
      rw [rt_stop (6 - m) m (by omega) (by omega)] at hK
      subst hK
      exact hq _
/-- a scene's things in the reference -/
def TR (A : Nat → Nat → Int32) (s : Nat) (l : List Nat) (h1 h2 : Nat → Int32) : Prop := h1 s = nI l.length ∧ (∀ i, i < l.length → h2 (4 * s + i) = nI (l.getD i 0)) ∧ (∀ j, j ≠ s → h1 j = A 39 j) ∧ ∀ j, (j < 4 * s ∨ 4 * s + 4 ≤ j) → h2 j = A 40 j
theorem TR_no {s : Nat} {l : List Nat} {h1 h2 : Nat → Int32} (h : TR A s l h1 h2) (hl : l.length < 4) (v : Int32) : TR A s l (upd h1 s (nI l.length)) (upd h2 (4 * s + l.length) v) := by
  obtain ⟨a, b, c, e⟩ := h
  refine ⟨by rw [upd_at, if_pos rfl], fun i hi => ?_, fun j hj => ?_, fun j hj => ?_⟩
  · rw [upd_at, if_neg (by omega)]
    exact b i hi
  · rw [upd_at, if_neg hj]
    exact c j hj
  · rw [upd_at, if_neg (by omega)]
    exact e j hj
theorem TR_yes {s : Nat} {l : List Nat} {h1 h2 : Nat → Int32} (h : TR A s l h1 h2) (hl : l.length < 4) (x : Nat) : TR A s (l ++ [x]) (upd h1 s (nI (l.length + 1))) (upd h2 (4 * s + l.length) (nI x)) := by
  obtain ⟨a, b, c, e⟩ := h
  have hlen : (l ++ [x]).length = l.length + 1 := by rw [List.length_append, List.length_singleton]
  refine ⟨by rw [upd_at, if_pos rfl, hlen], fun i hi => ?_, fun j hj => ?_, fun j hj => ?_⟩
  · rw [hlen] at hi
    rw [getD_app hi, upd_at]
    by_cases q : i < l.length
    · rw [if_neg (by omega), if_pos q]
      exact b i q
    · rw [if_pos (by omega), if_neg q]
  · rw [upd_at, if_neg hj]
    exact c j hj
  · rw [upd_at, if_neg (by omega)]
    exact e j hj
theorem m_readThing (d : Nat) {t : Nat → Nat} {N p s : Nat} {l : List Nat} {h1 h2 h3 h4 : Nat → Int32} {v : Int32} (hT : TXm t N A I) (hp : p ≤ N) (hs : s < 24) (hl : l.length < 4) (hR : TR A s l h1 h2) : sp (d + 2) 119 [.ref 38, .int (nI s)] (gR L xs A I F P h1 h2 h3 h4 p v) (fun r m => r = none ∧ ∃ g1 g2, ((tH t N p).1 = 0 ∧ TR A s l g1 g2 ∧ m = gR L xs A I F P g1 g2 h3 h4 (tH t N p).2 1) ∨ (¬ (tH t N p).1 = 0 ∧ TR A s (l ++ [(tH t N p).1]) g1 g2 ∧ m = gR L xs A I F P g1 g2 h3 h4 (tH t N p).2 0)) := by
  have ht : ∀ p, p < N → t p < 256 := fun p h => (hT.2.2 p h).2
  have hrt := rt_ok (t := t) (N := N) 6 0 p 0 (by decide) hp (by decide)
  refine ⟨⟨_, rfl⟩, rfl, mm_WP.go [5] 40 ?_⟩
  refine m_rt_loop hT (rt t N 6 0 p 0) (fun u => ?_) 6 0 p 0 _ _ (by decide) (by decide) (by decide) hp rfl rfl rfl
  have hlt : (rt t N 6 0 p 0).1 < 64 := hrt.1
  have i1 := ix_n (w := s) (N := 24) (by decide) hs
  have i2 := ix_ma (c := 4) (s := s) (w := l.length) (N := 96) (by decide) (by omega)
  have e1s : h1 ((nI s).toNatClampNeg) = nI l.length := by rw [i1.2]; exact hR.1
  unfold tH
  generalize rt t N 6 0 p 0 = K at *
  have fin : ∀ (q b : Nat) (v2 w2 : Int32) (g1 g2 : Nat → Int32), g1 = upd h1 s (nI l.length + w2) → g2 = upd h2 (4 * s + l.length) (nI b) → (v2 = 0 ∧ w2 = 1 ∨ v2 = 1 ∧ w2 = 0) → ∀ Q : mm_Q, Q none (gR L xs A I F P g1 g2 h3 h4 q v2) → wp (d + 1) (mm_Al 119) cd_Model_readThing Q 94 [some (.ref 38), some (.int (nI s)), some (.int u), some (.int (nI b))] [] (gR L xs A I F P h1 h2 h3 h4 q v2) := by
    rintro q b v2 w2 g1 g2 rfl rfl hv Q hQ
    refine mm_WP.go [107] 40 ⟨i1.1, ?_⟩
    show wp (d + 1) (mm_Al 119) cd_Model_readThing Q 107 [some (.ref 38), some (.int (nI s)), some (.int u), some (.int (nI b))] [.int (h1 ((nI s).toNatClampNeg)), .int (4 * nI s), .ref 40] (gR L xs A I F P h1 h2 h3 h4 q v2)
    rw [e1s]
    refine mm_WP.go [116] 40 ⟨i2.1, ?_⟩
    show wp (d + 1) (mm_Al 119) cd_Model_readThing Q 116 [some (.ref 38), some (.int (nI s)), some (.int u), some (.int (nI b))] [.int (nI s), .ref 39, .int (nI s), .ref 39] (gR L xs A I F P h1 (upd h2 ((4 * nI s + nI l.length).toNatClampNeg) (nI b)) h3 h4 q v2)
    rw [show (4 * nI s + nI l.length).toNatClampNeg = 4 * s + l.length from i2.2]
    refine mm_WP.go [117] 40 ⟨i1.1, ?_⟩
    show wp (d + 1) (mm_Al 119) cd_Model_readThing Q 117 [some (.ref 38), some (.int (nI s)), some (.int u), some (.int (nI b))] [.int (h1 ((nI s).toNatClampNeg)), .int (nI s), .ref 39] (gR L xs A I F P h1 (upd h2 (4 * s + l.length) (nI b)) h3 h4 q v2)
    rw [e1s]
    have e3 : upd h1 ((nI s).toNatClampNeg) (nI l.length + w2) = upd h1 s (nI l.length + w2) := by rw [i1.2]
    rcases hv with ⟨rfl, rfl⟩ | ⟨rfl, rfl⟩
    · refine mm_WP.go [] 40 (e0 ⟨i1.1, ?_⟩)
      rw [← e3] at hQ
      exact hQ
    · refine mm_WP.go [] 40 (e1 ⟨i1.1, ?_⟩)
      rw [← e3] at hQ
      exact hQ
  by_cases c : K.1 = 0
  · rw [if_pos c]
    refine mm_WP.go [94] 40 ⟨fun c2 => absurd (by rw [c]; rfl) c2, fun _ => ⟨rfl, n1 ?_⟩⟩
    refine fin K.2 K.1 1 0 _ _ rfl rfl (Or.inr ⟨rfl, rfl⟩) _ ⟨rfl, _, _, Or.inl ⟨c, ?_, rfl⟩⟩
    rw [Int32.add_zero]
    exact TR_no hR hl _
  · rw [if_neg c]
    have hh := m_here (L := L) (xs := xs) (A := uR (uR (uR (uR A 39 h1) 40 h2) 41 h3) 42 h4) (I := uI (uI I 38 17 (nI K.2)) 38 19 0) (F := F) (P := P) d hT hrt.2 rfl
    refine mm_WP.go [83, 94] 40 ⟨fun _ => ⟨rfl, n0 (ca hh ⟨fun c2 => ?_, fun c2 => ?_⟩)⟩, fun c2 => absurd c2 (nI_ne0 (by omega) (by omega))⟩
    · have c3 : ¬ hd t N K.2 = 42 := fun z => c2 ((hI_eq (ht K.2) (by decide)).mpr z)
      rw [if_neg c3]
      refine fin K.2 K.1 0 1 _ _ rfl rfl (Or.inl ⟨rfl, rfl⟩) _ ⟨rfl, _, _, Or.inr ⟨c, ?_, rfl⟩⟩
      rw [nI_1]
      exact TR_yes hR hl _
    · have c3 : hd t N K.2 = 42 := (hI_eq (ht K.2) (by decide)).mp c2
      rw [if_pos c3]
      show wp (d + 1) (mm_Al 119) cd_Model_readThing _ 83 [some (.ref 38), some (.int (nI s)), some (.int u), some (.int (nI K.1))] [.int (nI K.1 ||| 64)] (gR L xs A I F P h1 h2 h3 h4 K.2 0)
      rw [or64 _ hlt]
      refine mm_WP.go [94] 40 ⟨trivial, ?_⟩
      have h5 := fin (K.2 + 1) (K.1 + 64) 0 1 _ _ rfl rfl (Or.inl ⟨rfl, rfl⟩) (fun r m => r = none ∧ ∃ g1 g2, (K.1 + 64 = 0 ∧ TR A s l g1 g2 ∧ m = gR L xs A I F P g1 g2 h3 h4 (K.2 + 1) 1) ∨ (¬ K.1 + 64 = 0 ∧ TR A s (l ++ [K.1 + 64]) g1 g2 ∧ m = gR L xs A I F P g1 g2 h3 h4 (K.2 + 1) 0)) ⟨rfl, _, _, Or.inr ⟨by omega, by rw [nI_1]; exact TR_yes hR hl _, rfl⟩⟩
      unfold gR at h5 ⊢
      rw [← nI_1 K.2] at h5 ⊢
      exact h5
end M29
