/-! small methods of the reference -/
abbrev yes (mem : mm_M) (C : Prop) : mm_Q := fun r m => m = mem ∧ (C ∧ r = some (.int 1) ∨ ¬ C ∧ r = some (.int 0))
theorem yes_iff {mem : mm_M} {C D : Prop} (h : C ↔ D) {r : Option Value} {m : mm_M} (q : yes mem C r m) : yes mem D r m :=
  ⟨q.1, q.2.imp (fun z => ⟨h.mp z.1, z.2⟩) (fun z => ⟨fun w => z.1 (h.mpr w), z.2⟩)⟩
theorem mm_Sp.post {d j : Nat} {as : List Value} {mem : mm_M} {Q Q' : mm_Q} (h : sp d j as mem Q) (hq : ∀ r m, Q r m → Q' r m) : sp d j as mem Q' := by
  cases d with
  | zero => exact h.elim
  | succ d => exact ⟨h.1, h.2.1, mm_WP.mono hq h.2.2⟩
theorem m_in (d : Nat) (v lo hi : Int64) (mem : mm_M) : sp (d + 1) 121 [.long v, .long lo, .long hi] mem (yes mem (lo ≤ v ∧ v ≤ hi)) := by
  refine ⟨trivial, rfl, mm_WP.go [] 100 ⟨fun c => ?_, fun c => ⟨fun c2 => ?_, fun c2 => ?_⟩⟩⟩
  · refine ⟨rfl, rfl, Or.inr ⟨fun h => ?_, rfl⟩⟩
    exact absurd ((lg_cmp_ge v lo).mpr h.1) (Int32.not_le.mpr c)
  · refine ⟨rfl, rfl, Or.inr ⟨fun h => ?_, rfl⟩⟩
    exact absurd ((lg_cmp_le v hi).mpr h.2) (Int32.not_le.mpr c2)
  · exact ⟨rfl, rfl, Or.inl ⟨⟨(lg_cmp_ge v lo).mp (Int32.not_lt.mp c), (lg_cmp_le v hi).mp (Int32.not_lt.mp c2)⟩, rfl⟩⟩
theorem in_32 (a s b : Int32) : (a.toInt64 ≤ s.toInt64 ∧ s.toInt64 ≤ b.toInt64) ↔ (a.toInt ≤ s.toInt ∧ s.toInt ≤ b.toInt) := by
  rw [fa_wide_le, fa_wide_le, fa_le, fa_le]
theorem in_vp {s b : Int32} {n : Nat} (hb : b.toInt = (n : Int) - 1) : ((0 : Int64) ≤ s.toInt64 ∧ s.toInt64 ≤ b.toInt64) ↔ vp_in s n := by
  rw [vp_in_iff, show (0 : Int64) = (0 : Int32).toInt64 from rfl, in_32, hb, Int32.toInt_zero]
  omega
section M0
variable {L : Nat} {xs : Nat → Int32} {A I : Nat → Nat → Int32} {F : Nat → Nat → Option Nat} {P : mm_M}
theorem m_isScene (d : Nat) {n : Nat} (hn : n ≤ 24) (hI : I 38 0 = nI n) (s : Int32) : sp (d + 2) 129 [.ref 38, .int s] (gm L xs A I F P) (yes (gm L xs A I F P) (vp_in s n)) := by
  refine ⟨⟨_, rfl⟩, rfl, mm_WP.go [] 100 ⟨_, m_in d _ _ _ _, ?_⟩⟩
  rintro r m h
  have h2 : (I 38 0 - 1).toInt = (n : Int) - 1 := by
    rw [hI, show (1 : Int32) = nI 1 from rfl, pk_sub_toInt (by omega) (by omega)]
    rfl
  obtain ⟨rfl, ⟨h4, rfl⟩ | ⟨h4, rfl⟩⟩ := yes_iff (in_vp h2) h
  · exact ⟨rfl, rfl, Or.inl ⟨h4, rfl⟩⟩
  · exact ⟨rfl, rfl, Or.inr ⟨h4, rfl⟩⟩
theorem m_isWord (d : Nat) (s : Int32) (mem : mm_M) : sp (d + 2) 132 [.int s] mem (yes mem (vp_in s 6)) := by
  refine ⟨trivial, rfl, mm_WP.go [] 100 ⟨_, m_in d _ _ _ _, ?_⟩⟩
  rintro r m h
  obtain ⟨rfl, ⟨h4, rfl⟩ | ⟨h4, rfl⟩⟩ := yes_iff (in_vp (b := 5) (n := 6) rfl) h
  · exact ⟨rfl, rfl, Or.inl ⟨h4, rfl⟩⟩
  · exact ⟨rfl, rfl, Or.inr ⟨h4, rfl⟩⟩
theorem m_isMeaning (d : Nat) (s : Int32) (mem : mm_M) : sp (d + 2) 136 [.int s] mem (yes mem (vp_in s 90)) := by
  refine ⟨trivial, rfl, mm_WP.go [] 100 ⟨_, m_in d _ _ _ _, ?_⟩⟩
  rintro r m h
  obtain ⟨rfl, ⟨h4, rfl⟩ | ⟨h4, rfl⟩⟩ := yes_iff (in_vp (b := 89) (n := 90) rfl) h
  · exact ⟨rfl, rfl, Or.inl ⟨h4, rfl⟩⟩
  · exact ⟨rfl, rfl, Or.inr ⟨h4, rfl⟩⟩
theorem m_refuse (d : Nat) {w : Int32} {k : Nat} (h1 : vp_in (-w) 7) (h2 : (-w).toNatClampNeg = k) : sp (d + 1) 116 [.ref 38, .int w] (gm L xs A I F P) (fun r m => r = some (.int w) ∧ m = gm L xs (uA A 50 k (A 50 k + 1)) I F P) := by
  subst h2
  exact ⟨⟨_, rfl⟩, rfl, mm_WP.go [] 100 ⟨h1, h1, rfl, rfl⟩⟩
/-- how many ones, by halving -/
def od : Nat → Nat → Nat
  | 0, _ => 0
  | f + 1, x => x % 2 + od f (x / 2)
theorem od_0 : ∀ f, od f 0 = 0
  | 0 => rfl
  | f + 1 => by rw [od, od_0 f]
theorem m_ones_loop {d : Nat} {B : Nat × Nat} {mem : mm_M} {z : Int32} {Q : mm_Q} : ∀ (f x acc : Nat), f ≤ 31 → x < 2 ^ f → Q (some (.int (nI (acc + od f x)))) mem → wp d B cd_Model_ones Q 4 [some (.int z), some (.int (nI acc)), some (.int (nI x))] [] mem
  | 0, x, acc, _, hx, hq => by
    have : x = 0 := by omega
    subst this
    refine mm_WP.go [4] 100 ⟨fun c => hq, fun c => absurd ?_ c⟩
    exact Int32.le_refl _
  | f + 1, x, acc, hf, hx, hq => by
    have hx31 : x < 2 ^ 31 := Nat.lt_of_lt_of_le hx (Nat.pow_le_pow_right (by omega) hf)
    refine mm_WP.go [4] 100 ⟨fun c => ?_, fun c => ⟨by decide, by decide, ?_⟩⟩
    · have : x = 0 := by
        rcases Nat.eq_zero_or_pos x with h | h
        · exact h
        · exact absurd c (nI_nle h hx31)
      subst this
      rw [od_0] at hq
      exact hq
    · rw [show (2 : Int32) = nI 2 from rfl, pk_rem hx31 (by omega) (by omega), pk_div hx31 (by omega) (by omega), nI_add]
      refine m_ones_loop f (x / 2) (acc + x % 2) (by omega) (by rw [Nat.pow_succ] at hx; omega) ?_
      rw [Nat.add_assoc]
      exact hq
theorem m_ones (d : Nat) {x : Nat} (hx : x < 2 ^ 31) (mem : mm_M) : sp (d + 1) 152 [.int (nI x)] mem (ans mem (nI (od 31 x))) := by
  refine ⟨trivial, rfl, mm_WP.go [4] 100 ?_⟩
  exact m_ones_loop 31 x 0 (Nat.le_refl _) hx ⟨by rw [Nat.zero_add], rfl⟩
end M0
