/-! small methods of the class; of both, by one function -/
/-- the first from k on, of j more; -9 none -/
def fi (p : Nat → Bool) : Nat → Nat → Int32
  | 0, _ => -9
  | j + 1, k => if p k then nI k else fi p j (k + 1)
theorem fi_cong {p q : Nat → Bool} : ∀ (j k : Nat), (∀ i, k ≤ i → i < k + j → p i = q i) → fi p j k = fi q j k
  | 0, _, _ => rfl
  | j + 1, k, h => by
    rw [fi, fi, h k (Nat.le_refl _) (by omega), fi_cong j (k + 1) (fun i h1 h2 => h i (by omega) (by omega))]
theorem fi_none {p : Nat → Bool} : ∀ (j k : Nat), (∀ i, k ≤ i → i < k + j → p i = false) → fi p j k = -9
  | 0, _, _ => rfl
  | j + 1, k, h => by
    rw [fi, h k (Nat.le_refl _) (by omega), fi_none j (k + 1) (fun i h1 h2 => h i (by omega) (by omega))]
    rfl
theorem fi_add {p : Nat → Bool} : ∀ (a b k : Nat), (∀ i, k + a ≤ i → i < k + a + b → p i = false) → fi p (a + b) k = fi p a k
  | 0, b, k, h => by rw [Nat.zero_add, fi_none b k (fun i h1 h2 => h i (by omega) (by omega))]; rfl
  | a + 1, b, k, h => by
    rw [show a + 1 + b = (a + b) + 1 by omega, fi, fi, fi_add a b (k + 1) (fun i h1 h2 => h i (by omega) (by omega))]
theorem fi_cut {n : Nat} (hn : n ≤ 24) (q : Nat → Bool) : fi (fun i => decide (i < n) && q i) 24 0 = fi q n 0 := by
  rw [show (24 : Nat) = n + (24 - n) by omega, fi_add n (24 - n) 0 (fun i h1 _ => by rw [decide_eq_false (show ¬ i < n by omega)]; rfl)]
  exact fi_cong n 0 (fun i _ h2 => by rw [decide_eq_true (show i < n by omega)]; rfl)
theorem fi_neg {p : Nat → Bool} : ∀ (j k : Nat), k + j < 2 ^ 31 → ((fi p j k < 0) ↔ ∀ i, k ≤ i → i < k + j → p i = false)
  | 0, k, _ => ⟨fun _ i h1 h2 => by omega, fun _ => show (-9 : Int32) < 0 by decide⟩
  | j + 1, k, h => by
    rw [fi]
    by_cases hp : p k = true
    · rw [if_pos hp]
      exact ⟨fun c => absurd c (nI_pos (by omega)), fun c => absurd (c k (Nat.le_refl _) (by omega)) (by rw [hp]; decide)⟩
    · rw [if_neg hp, fi_neg j (k + 1) (by omega)]
      refine ⟨fun c i h1 h2 => ?_, fun c i h1 h2 => c i (by omega) (by omega)⟩
      rcases Nat.eq_or_lt_of_le h1 with h3 | h3
      · rw [← h3]
        simpa using hp
      · exact c i (by omega) (by omega)
def kd (m : Nat) : Nat := if m < 6 then 0 else if m < 21 then 1 else if m < 39 then 2 else if m < 42 then 3 else if m < 60 then 4 else if m < 78 then 5 else if m < 84 then 6 else 7
theorem kd_lt (m : Nat) : kd m < 8 := by unfold kd; repeat' split <;> try omega
theorem vp_nlt {x : Int32} {n : Nat} (hn : n < 2 ^ 31) : vp_in x n ↔ ¬ x < 0 ∧ x < nI n := by
  rw [vp_in_iff, fa_lt, fa_lt, nI_toInt hn, Int32.toInt_zero]
  omega
section M2
variable {L : Nat} {xs : Nat → Int32} {A I : Nat → Nat → Int32} {F : Nat → Nat → Option Nat} {P : mm_M} {n : Nat} {H S : Nat → Nat → Bool}
theorem c_noWord (d : Nat) (x : Int32) (mem : mm_M) : sp (d + 1) 80 [.int x] mem (yes mem (¬ vp_in x 6)) := by
  have h := vp_nlt (x := x) (n := 6) (by decide)
  refine ⟨trivial, rfl, mm_WP.go [] 100 ⟨fun c => ?_, fun c => ⟨fun c2 => ?_, fun c2 => ?_⟩⟩⟩
  · exact ⟨rfl, rfl, Or.inl ⟨fun z => (h.mp z).1 c, rfl⟩⟩
  · exact ⟨rfl, rfl, Or.inr ⟨fun z => z (h.mpr ⟨c, c2⟩), rfl⟩⟩
  · exact ⟨rfl, rfl, Or.inl ⟨fun z => c2 (h.mp z).2, rfl⟩⟩
theorem c_noMeaning (d : Nat) (x : Int32) (mem : mm_M) : sp (d + 1) 84 [.int x] mem (yes mem (¬ vp_in x 90)) := by
  have h := vp_nlt (x := x) (n := 90) (by decide)
  refine ⟨trivial, rfl, mm_WP.go [] 100 ⟨fun c => ?_, fun c => ⟨fun c2 => ?_, fun c2 => ?_⟩⟩⟩
  · exact ⟨rfl, rfl, Or.inl ⟨fun z => (h.mp z).1 c, rfl⟩⟩
  · exact ⟨rfl, rfl, Or.inr ⟨fun z => z (h.mpr ⟨c, c2⟩), rfl⟩⟩
  · exact ⟨rfl, rfl, Or.inl ⟨fun z => c2 (h.mp z).2, rfl⟩⟩
theorem c_noScene (d : Nat) (hn : n ≤ 24) (hI : I 21 2 = nI n) (x : Int32) : sp (d + 1) 77 [.ref 6, .int x] (gm L xs A I F P) (yes (gm L xs A I F P) (¬ vp_in x n)) := by
  have h := vp_nlt (x := x) (n := n) (by omega)
  refine ⟨⟨_, rfl⟩, rfl, mm_WP.go [] 100 ⟨fun c => ?_, fun c => ⟨fun c2 => ?_, fun c2 => ?_⟩⟩⟩
  · exact ⟨rfl, rfl, Or.inl ⟨fun z => (h.mp z).1 c, rfl⟩⟩
  · exact ⟨rfl, rfl, Or.inr ⟨fun z => z (h.mpr ⟨c, hI ▸ c2⟩), rfl⟩⟩
  · exact ⟨rfl, rfl, Or.inl ⟨fun z => c2 (hI.symm ▸ (h.mp z).2), rfl⟩⟩
theorem c_refuse (d : Nat) {w : Int32} {k : Nat} (h0 : ¬ -w ≤ 0) (h7 : ¬ (7 : Int32) ≤ -w) (h1 : vp_in (-w) 7) (h2 : (-w).toNatClampNeg = k) : sp (d + 1) 72 [.ref 6, .int w] (gm L xs A I F P) (fun r m => r = some (.int w) ∧ m = gm L xs (uA A 20 k (A 20 k + 1)) I F P) := by
  subst h2
  exact ⟨⟨_, rfl⟩, rfl, mm_WP.go [] 100 ⟨fun c => absurd c h0, fun _ => ⟨fun c => absurd c h7, fun _ => ⟨h1, h1, rfl, rfl⟩⟩⟩⟩
theorem c_isIn (d : Nat) {v k : Nat} (hv : v < 2147483648) (hk : k < 31) (mem : mm_M) : sp (d + 1) 81 [.int (nI v), .int (nI k)] mem (yes mem (v.testBit k = true)) := by
  have e : (((nI v).toUInt32 >>> ((nI k).toUInt32 &&& Int32.toUInt32 31)).toInt32 &&& 1) = bI (v.testBit k) := by
    rw [ush_nat hv hk, show (1 : Int32) = nI (2 ^ 1 - 1) from rfl, fa_mask, Nat.testBit_eq_decide_div_mod_eq]
    unfold bI
    by_cases h : v / 2 ^ k % 2 = 1
    · rw [decide_eq_true h]
      rw [show v / 2 ^ k % 2 ^ 1 = 1 by omega]
      rfl
    · rw [decide_eq_false h]
      rw [show v / 2 ^ k % 2 ^ 1 = 0 by omega]
      rfl
  refine ⟨trivial, rfl, mm_WP.go [] 100 ⟨fun c => ?_, fun c => ?_⟩⟩
  · have h := bI_0 (e ▸ c)
    exact ⟨rfl, rfl, Or.inr ⟨fun z => absurd (h.symm.trans z) (by decide), rfl⟩⟩
  · have h := bI_1 (e ▸ c)
    exact ⟨rfl, rfl, Or.inl ⟨h, rfl⟩⟩
theorem c_firstIn_loop {d : Nat} {B : Nat × Nat} {Q : mm_Q} {mem : mm_M} {v : Nat} (hv : v < 2147483648) : ∀ (j k : Nat) (x : Int32), j + k = 24 → x = nI k → Q (some (.int (fi (fun i => v.testBit i) j k))) mem → wp (d + 1) B cd_Word_firstIn Q 2 [some (.int (nI v)), some (.int x)] [] mem := by
  intro j
  induction j with
  | zero =>
    intro k x hk hx hq
    exact mm_WP.go [2] 100 (lp_ge (N := 24) hx rfl (by omega) (by omega) (fun _ => hq) (fun h => absurd h (by omega)))
  | succ j ih =>
    intro k x hk hx hq
    refine mm_WP.go [2] 100 (lp_ge (N := 24) hx rfl (by omega) (by omega) (fun h => absurd h (by omega)) (fun _ => ?_))
    subst hx
    refine ⟨_, c_isIn d hv (by omega) mem, ?_⟩
    rintro r m ⟨rfl, ⟨h, rfl⟩ | ⟨h, rfl⟩⟩
    · refine e1 ?_
      rw [fi, if_pos h] at hq
      exact hq
    · refine e0 ?_
      rw [fi, if_neg h] at hq
      exact ih (k + 1) _ (by omega) (nI_1 k) hq
theorem c_firstIn (d : Nat) {v : Nat} (hv : v < 2147483648) (mem : mm_M) : sp (d + 2) 90 [.int (nI v)] mem (ans mem (fi (fun i => v.testBit i) 24 0)) := by
  refine ⟨trivial, rfl, mm_WP.go [2] 100 ?_⟩
  exact c_firstIn_loop hv 24 0 _ rfl rfl ⟨rfl, rfl⟩
theorem c_firstIn_sb (d : Nat) (hn : n ≤ 24) (q : Nat → Bool) (mem : mm_M) : sp (d + 2) 90 [.int (nI (sb n q))] mem (ans mem (fi q n 0)) := by
  have h := sb_24 hn q
  refine mm_Sp.post (c_firstIn d (v := sb n q) (by omega) mem) ?_
  rintro r m ⟨rfl, rfl⟩
  refine ⟨?_, rfl⟩
  rw [← fi_cut hn q]
  congr 3
  funext i
  exact sb_tb q n i
def kf (m : Nat) : Nat → Nat
  | 0 => 0
  | k + 1 => if mm_t1.getD (k + 1) 0 ≤ nI m then k + 1 else kf m k
theorem kf_kd : ∀ m, m < 90 → kf m 7 = kd m := by decide +kernel
theorem kf_le (m : Nat) : ∀ k, kf m k ≤ k
  | 0 => Nat.le_refl _
  | k + 1 => by
    have := kf_le m k
    rw [kf]
    split <;> omega
theorem c_kindOf_loop {d : Nat} {B : Nat × Nat} {Q : mm_Q} {m : Nat} (hq : Q (some (.int (nI (kf m 7)))) (gm L xs A I F P)) : ∀ (j k : Nat) (x y : Int32), j + k = 7 → x = nI (k + 1) → y = nI (kf m k) → wp d B cd_Word_kindOf Q 4 [some (.int (nI m)), some (.int y), some (.int x)] [] (gm L xs A I F P) := by
  intro j
  induction j with
  | zero =>
    intro k x y hk hx hy
    have : k = 7 := by omega
    subst this
    refine mm_WP.go [4] 100 (lp_ge (N := 8) hx rfl (by omega) (by omega) (fun _ => ?_) (fun h => absurd h (by omega)))
    subst hy
    exact hq
  | succ j ih =>
    intro k x y hk hx hy
    refine mm_WP.go [4] 100 (lp_ge (N := 8) hx rfl (by omega) (by omega) (fun h => absurd h (by omega)) (fun _ => ?_))
    have i1 := ix_n (w := k + 1) (N := 8) (by decide) (by omega)
    subst hx
    refine ⟨i1.1, fun c => ?_, fun c => ?_⟩
    · refine ih (k + 1) _ _ (by omega) (nI_1 (k + 1)) ?_
      rw [i1.2] at c
      rw [hy, kf, if_neg (Int32.not_le.mpr c)]
    · refine ih (k + 1) _ _ (by omega) (nI_1 (k + 1)) ?_
      rw [i1.2] at c
      rw [kf, if_pos (Int32.not_lt.mp c)]
theorem c_kindOf (d : Nat) {m : Nat} (hm : m < 90) : sp (d + 1) 74 [.int (nI m)] (gm L xs A I F P) (ans (gm L xs A I F P) (nI (kd m))) := by
  refine ⟨trivial, rfl, mm_WP.go [4] 100 ?_⟩
  refine c_kindOf_loop (m := m) ?_ 7 0 _ _ rfl rfl rfl
  rw [kf_kd m hm]
  exact ⟨rfl, rfl⟩
theorem m_kindOf (d : Nat) {m : Nat} (hm : m < 90) (mem : mm_M) : sp (d + 1) 137 [.int (nI m)] mem (ans mem (nI (kd m))) := by
  have g : ∀ N : Nat, N < 90 → ((nI N ≤ nI m) ↔ N ≤ m) := fun N hN => nI_leI (by omega) (by omega)
  refine ⟨trivial, rfl, mm_WP.go [] 100 ⟨fun c => ⟨fun c2 => ⟨fun c3 => ⟨fun c4 => ⟨fun c5 => ⟨fun c6 => ⟨fun c7 => ?_, fun c7 => ?_⟩, fun c6 => ?_⟩, fun c5 => ?_⟩, fun c4 => ?_⟩, fun c3 => ?_⟩, fun c2 => ?_⟩, fun c => ?_⟩⟩
  all_goals
    refine ⟨?_, rfl⟩
    unfold kd
  · have h1 := (g 6 (by omega)).mp c
    have h2 := (g 21 (by omega)).mp c2
    have h3 := (g 39 (by omega)).mp c3
    have h4 := (g 42 (by omega)).mp c4
    have h5 := (g 60 (by omega)).mp c5
    have h6 := (g 78 (by omega)).mp c6
    have h7 := (g 84 (by omega)).mp c7
    rw [if_neg (by omega), if_neg (by omega), if_neg (by omega), if_neg (by omega), if_neg (by omega), if_neg (by omega), if_neg (by omega)]
    rfl
  · have h6 := (g 78 (by omega)).mp c6
    have h7 : ¬ 84 ≤ m := fun z => c7 ((g 84 (by omega)).mpr z)
    rw [if_neg (by omega), if_neg (by omega), if_neg (by omega), if_neg (by omega), if_neg (by omega), if_neg (by omega), if_pos (by omega)]
    rfl
  · have h5 := (g 60 (by omega)).mp c5
    have h6 : ¬ 78 ≤ m := fun z => c6 ((g 78 (by omega)).mpr z)
    rw [if_neg (by omega), if_neg (by omega), if_neg (by omega), if_neg (by omega), if_neg (by omega), if_pos (by omega)]
    rfl
  · have h4 := (g 42 (by omega)).mp c4
    have h5 : ¬ 60 ≤ m := fun z => c5 ((g 60 (by omega)).mpr z)
    rw [if_neg (by omega), if_neg (by omega), if_neg (by omega), if_neg (by omega), if_pos (by omega)]
    rfl
  · have h3 := (g 39 (by omega)).mp c3
    have h4 : ¬ 42 ≤ m := fun z => c4 ((g 42 (by omega)).mpr z)
    rw [if_neg (by omega), if_neg (by omega), if_neg (by omega), if_pos (by omega)]
    rfl
  · have h2 := (g 21 (by omega)).mp c2
    have h3 : ¬ 39 ≤ m := fun z => c3 ((g 39 (by omega)).mpr z)
    rw [if_neg (by omega), if_neg (by omega), if_pos (by omega)]
    rfl
  · have h1 := (g 6 (by omega)).mp c
    have h2 : ¬ 21 ≤ m := fun z => c2 ((g 21 (by omega)).mpr z)
    rw [if_neg (by omega), if_pos (by omega)]
    rfl
  · have h1 : ¬ 6 ≤ m := fun z => c ((g 6 (by omega)).mpr z)
    rw [if_pos (by omega)]
    rfl
end M2
