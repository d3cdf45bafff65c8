/-! the class: sets among the shown, what is unlike -/
/-- shown, the first twelve -/
def q0 (n : Nat) (S : Nat → Nat → Bool) (w s : Nat) : Bool := decide (s < n) && !S s w
def am (n : Nat) (S : Nat → Nat → Bool) (w s : Nat) : Bool := q0 n S w s && decide (fb_ct (q0 n S w) s < 12)
theorem am_ct {n : Nat} {S : Nat → Nat → Bool} {w : Nat} : ∀ s, fb_ct (am n S w) s = if fb_ct (q0 n S w) s < 12 then fb_ct (q0 n S w) s else 12
  | 0 => rfl
  | s + 1 => by
    rw [fb_ct_succ, am_ct s, fb_ct_succ]
    unfold am
    cases h : q0 n S w s
    · simp
    · by_cases h2 : fb_ct (q0 n S w) s < 12
      · simp [h2]
        omega
      · simp [h2]
        omega
theorem am_12 {n : Nat} {S : Nat → Nat → Bool} {w s : Nat} : fb_ct (am n S w) s ≤ 12 := by
  rw [am_ct]
  split <;> omega
theorem am_n {n : Nat} {S : Nat → Nat → Bool} {w s : Nat} (h : am n S w s = true) : s < n := by
  unfold am q0 at h
  simp only [Bool.and_eq_true, decide_eq_true_eq] at h
  exact h.1.1
/-- those with fewer than j ahead -/
def pf (p : Nat → Bool) (j : Nat) : Nat → Bool := fun i => p i && decide (fb_ct p i < j)
theorem neg_as (x : Int32) : -x = (x - 1) ^^^ (-1) := by
  apply Int32.toBitVec_inj.mp
  rw [Int32.toBitVec_xor, show (-1 : Int32).toBitVec = BitVec.allOnes 32 from rfl, BitVec.xor_allOnes, Int32.toBitVec_neg, Int32.toBitVec_sub, show (1 : Int32).toBitVec = 1#32 from rfl, BitVec.not_sub_one_eq_not_add_one, ← BitVec.neg_eq_not_add]
theorem b_not {x : Int32} {i : Nat} (hi : i < 32) : bt (x ^^^ (-1)) i = !bt x i := by
  rw [b_xor, b_m1 i hi, Bool.xor_true]
theorem lo_sb {p : Nat → Bool} (j : Nat) : nI (sb 24 (pj p j)) &&& -nI (sb 24 (pj p j)) = nI (sb 24 (fun i => p i && decide (fb_ct p i = j))) := by
  rw [neg_as]
  apply b_ext
  intro i hi
  have hd : nI (sb 24 (pj p j)) &&& (nI (sb 24 (pj p j)) - 1) = nI (sb 24 (pj p (j + 1))) := by
    rw [← pj_drop]
    rcases Nat.eq_zero_or_pos (sb 24 (pj p j)) with h | h
    · rw [h]
      rfl
    · rw [show nI (sb 24 (pj p j)) - 1 = nI (sb 24 (pj p j) - 1) from I_sub1 (b := 1) (by omega), fa_and]
  have hb := congrArg (fun x => bt x i) hd
  simp only [b_and, bt_sb (Nat.le_refl 24)] at hb
  rw [b_and, b_not hi, bt_sb (Nat.le_refl 24), bt_sb (Nat.le_refl 24)]
  unfold pj at *
  cases h24 : decide (i < 24)
  · simp
  · rw [h24] at hb
    cases hp : p i
    · simp
    · rw [hp] at hb
      simp only [Bool.true_and] at hb ⊢
      by_cases h1 : j ≤ fb_ct p i
      · rw [decide_eq_true h1, Bool.true_and] at hb ⊢
        rw [hb]
        by_cases h2 : fb_ct p i = j
        · rw [decide_eq_true h2, decide_eq_false (by omega)]
          rfl
        · rw [decide_eq_false h2, decide_eq_true (by omega)]
          rfl
      · rw [decide_eq_false h1, decide_eq_false (by omega)]
        rfl
section M18
variable {L : Nat} {xs : Nat → Int32} {A I : Nat → Nat → Int32} {F : Nat → Nat → Option Nat} {P : mm_M} {n : Nat} {H S : Nat → Nat → Bool}
theorem c_fs_loop {d : Nat} {B : Nat × Nat} {Q : mm_Q} {mem : mm_M} {p : Nat → Bool} {w : Int32} (hq : Q (some (.int (nI (sb 24 (pf p 12))))) mem) :
    ∀ (j k : Nat) (x y z : Int32) (u : Option Value), j + k = 12 → x = nI k → y = nI (sb 24 (pj p k)) → z = nI (sb 24 (pf p k)) → wp d B cd_Chooser_firstShownFor Q 11 [some (.ref 35), some (.int w), some (.int y), some (.int z), some (.int x), u] [] mem := by
  intro j
  induction j with
  | zero =>
    intro k x y z u hk hx hy hz
    refine mm_WP.go [11] 100 (lp_ge (N := 12) hx rfl (by omega) (by omega) (fun h => ?_) (fun h => absurd h (by omega)))
    subst h
    rw [hz]
    exact hq
  | succ j ih =>
    intro k x y z u hk hx hy hz
    refine mm_WP.go [11] 100 (lp_ge (N := 12) hx rfl (by omega) (by omega) (fun h => absurd h (by omega)) (fun _ => ?_))
    subst hx
    subst hy
    subst hz
    refine ih (k + 1) _ _ _ _ (by omega) (nI_1 k) ?_ ?_
    · rw [lo_sb, sb_andn (Nat.le_refl 24)]
      refine congrArg nI (sb_cong (fun i _ => ?_))
      unfold pj
      cases p i
      · rfl
      · simp only [Bool.true_and]
        by_cases h1 : k ≤ fb_ct p i
        · rw [decide_eq_true h1, Bool.true_and]
          by_cases h2 : fb_ct p i = k
          · rw [decide_eq_true h2, decide_eq_false (by omega)]
            rfl
          · rw [decide_eq_false h2, decide_eq_true (by omega)]
            rfl
        · rw [decide_eq_false h1, Bool.false_and, decide_eq_false (show ¬ k + 1 ≤ fb_ct p i by omega)]
    · rw [lo_sb, sb_or (Nat.le_refl 24)]
      refine congrArg nI (sb_cong (fun i _ => ?_))
      unfold pf
      cases p i
      · rfl
      · simp only [Bool.true_and]
        by_cases h1 : fb_ct p i < k
        · rw [decide_eq_true h1, Bool.true_or, decide_eq_true (show fb_ct p i < k + 1 by omega)]
        · rw [decide_eq_false h1, Bool.false_or]
          by_cases h2 : fb_ct p i = k
          · rw [decide_eq_true h2, decide_eq_true (by omega)]
          · rw [decide_eq_false h2, decide_eq_false (by omega)]
theorem c_firstShown (d : Nat) (hC : CS n H S A I) {w : Nat} (hw : w < 6) : sp (d + 2) 5 [.ref 35, .int (nI w)] (gm L xs A I F P) (ans (gm L xs A I F P) (nI (sb 24 (am n S w)))) := by
  have hn := hC.1
  refine ⟨⟨_, rfl⟩, rfl, mm_WP.go [11] 100 (ca (c_shownFor d hC hw) ?_)⟩
  rw [show sb n (fun s => !S s w) = sb 24 (q0 n S w) from sb_cut hn _]
  refine c_fs_loop (p := q0 n S w) ⟨rfl, rfl⟩ 12 0 _ _ _ _ rfl rfl ?_ ?_
  · rw [pj_0]
  · rw [show sb 24 (pf (q0 n S w) 0) = 0 from sb_0.mpr (fun i _ => by unfold pf; rw [decide_eq_false (Nat.not_lt_zero _), Bool.and_false])]
    rfl
/-- rows that hold a list -/
def lrw (f : Nat → Int32) (l : List Nat) : Prop := ∀ i, i < l.length → f i = nI (l.getD i 0)
theorem lrw_add {f : Nat → Int32} {l : List Nat} (h : lrw f l) (x : Nat) : lrw (upd f l.length (nI x)) (l ++ [x]) := by
  intro i hi
  rw [List.length_append, List.length_singleton] at hi
  rw [upd_at]
  by_cases h1 : i = l.length
  · rw [if_pos h1, h1]
    refine congrArg nI ?_
    rw [List.getD_eq_getElem?_getD, List.getElem?_append_right (Nat.le_refl _)]
    simp
  · rw [if_neg h1, h i (by omega)]
    refine congrArg nI ?_
    rw [List.getD_eq_getElem?_getD, List.getD_eq_getElem?_getD, List.getElem?_append_left (by omega)]
/-- the sets listed so far -/
abbrev g37 (L : Nat) (xs : Nat → Int32) (A I : Nat → Nat → Int32) (F : Nat → Nat → Option Nat) (P : mm_M) (f : Nat → Int32) (c : Nat) : mm_M := gm L xs (uR A 37 f) (uI I 35 4 (nI c)) F P
theorem c_as_loop {D : Nat} {B : Nat × Nat} {Q : mm_Q} {V : Nat} (hV : V < 2 ^ 24) {z b set : Nat} (hb : b ≤ 24) (hset : set < 2 ^ 24) (hmul : set % 2 ^ b = 0)
    (hr : ∀ (s set2 : Nat) (f : Nat → Int32) (l : List Nat), s < b → V.testBit s = true → set2 < 2 ^ 24 → set2 % 2 ^ s = 0 → lrw f l → l.length + (LZ (tB V) z s).length ≤ 220 →
      sp (D + 1) 9 [.ref 35, .int (nI V), .int (nI z), .int (nI s), .int (nI set2)] (g37 L xs A I F P f l.length) (fun r m => r = none ∧ ∃ f2, lrw f2 (l ++ (LZ (tB V) z s).map (fun y => set2 + y)) ∧ m = g37 L xs A I F P f2 (l.length + (LZ (tB V) z s).length)))
    {l : List Nat} (hl : l.length + (LZ (tB V) (z + 1) b).length ≤ 220)
    (hq : ∀ f2, lrw f2 (l ++ (LZ (tB V) (z + 1) b).map (fun y => set + y)) → Q none (g37 L xs A I F P f2 (l.length + (LZ (tB V) (z + 1) b).length))) :
    ∀ (j k : Nat) (x : Int32) (f : Nat → Int32), j + k = b → x = nI k → lrw f (l ++ (LZ (tB V) (z + 1) k).map (fun y => set + y)) →
      wp (D + 1) B cd_Chooser_addSets Q 41 [some (.ref 35), some (.int (nI V)), some (.int (nI (z + 1))), some (.int (nI b)), some (.int (nI set)), some (.int x)] [] (g37 L xs A I F P f (l.length + (LZ (tB V) (z + 1) k).length)) := by
  intro j
  induction j with
  | zero =>
    intro k x f hk hx hf
    refine mm_WP.go [41] 100 (lp_ge (N := b) hx rfl (by omega) (by omega) (fun h => ?_) (fun h => absurd h (by omega)))
    subst h
    exact hq f hf
  | succ j ih =>
    intro k x f hk hx hf
    have hkb : k < b := by omega
    refine mm_WP.go [41, 70] 100 (lp_ge (N := b) hx rfl (by omega) (by omega) (fun h => absurd h (by omega)) (fun _ => ?_))
    subst hx
    refine cy (c_isIn D (Nat.lt_of_lt_of_le hV (by decide)) (by omega) _) (fun h => e1 ?_) (fun h => e0 ?_)
    · have hp : 2 ^ k < 2 ^ b := Nat.pow_lt_pow_right (by decide) hkb
      have hp2 : 2 ^ b ≤ 2 ^ 24 := Nat.pow_le_pow_right (by decide) hb
      have eo : nI set ||| ((1 : Int32) <<< (nI k &&& 31)) = nI (set + 2 ^ k) := by
        rw [sh_one k (by omega), fa_or]
        refine congrArg nI ?_
        have e1 : set = 2 ^ b * (set / 2 ^ b) := by
          have := Nat.div_add_mod set (2 ^ b)
          omega
        rw [e1, ← Nat.two_pow_add_eq_or_of_lt hp]
      have l1 : LZ (tB V) (z + 1) (k + 1) = LZ (tB V) (z + 1) k ++ (LZ (tB V) z k).map (fun y => 2 ^ k + y) := by rw [LZ_s, if_pos h]
      have lm : (LZ (tB V) (z + 1) (k + 1)).length ≤ (LZ (tB V) (z + 1) b).length := by
        have h3 : ∀ a c, (LZ (tB V) (z + 1) a).length ≤ (LZ (tB V) (z + 1) (a + c)).length := by
          intro a c
          induction c with
          | zero => exact Nat.le_refl _
          | succ c ihc =>
            rw [← Nat.add_assoc, LZ_s, List.length_append]
            omega
        have := h3 (k + 1) (b - (k + 1))
        rw [show k + 1 + (b - (k + 1)) = b by omega] at this
        exact this
      rw [l1, List.length_append, List.length_map] at lm
      have hs2 : set + 2 ^ k < 2 ^ 24 := by
        have e1 : set = 2 ^ b * (set / 2 ^ b) := by
          have := Nat.div_add_mod set (2 ^ b)
          omega
        have e2 : (2 : Nat) ^ 24 = 2 ^ b * 2 ^ (24 - b) := by rw [← Nat.pow_add]; congr 1; omega
        rw [e2] at hset ⊢
        rw [e1] at hset ⊢
        have h4 : set / 2 ^ b < 2 ^ (24 - b) := Nat.lt_of_mul_lt_mul_left hset
        have h5 : 2 ^ b * (set / 2 ^ b + 1) ≤ 2 ^ b * 2 ^ (24 - b) := Nat.mul_le_mul_left _ h4
        rw [Nat.mul_add, Nat.mul_one] at h5
        omega
      have hm2 : (set + 2 ^ k) % 2 ^ k = 0 := by
        rw [Nat.add_mod_right]
        have e3 : (2 : Nat) ^ b = 2 ^ k * 2 ^ (b - k) := by rw [← Nat.pow_add]; congr 1; omega
        have e1 : set = 2 ^ b * (set / 2 ^ b) := by
          have := Nat.div_add_mod set (2 ^ b)
          omega
        rw [e1, e3, Nat.mul_assoc, Nat.mul_mod_right]
      show wp (D + 1) B cd_Chooser_addSets Q 70 [some (.ref 35), some (.int (nI V)), some (.int (nI (z + 1))), some (.int (nI b)), some (.int (nI set)), some (.int (nI k))] [.int (nI set ||| ((1 : Int32) <<< (nI k &&& 31))), .int (nI k), .int (nI (z + 1) - nI 1), .int (nI V), .ref 35] _
      rw [eo, I_sub1 (a := z) (b := 1) rfl]
      have hc := hr k (set + 2 ^ k) f (l ++ (LZ (tB V) (z + 1) k).map (fun y => set + y)) hkb h hs2 hm2 hf (by rw [List.length_append, List.length_map]; omega)
      rw [List.length_append, List.length_map] at hc
      refine mm_WP.go [41] 100 ⟨_, hc, ?_⟩
      rintro r m ⟨rfl, f2, hf2, rfl⟩
      have e5 : l ++ (LZ (tB V) (z + 1) k).map (fun y => set + y) ++ (LZ (tB V) z k).map (fun y => set + 2 ^ k + y) = l ++ (LZ (tB V) (z + 1) (k + 1)).map (fun y => set + y) := by
        rw [l1, List.map_append, List.map_map, List.append_assoc]
        congr 2
        refine List.map_congr_left (fun y _ => ?_)
        show set + 2 ^ k + y = set + (2 ^ k + y)
        omega
      rw [e5] at hf2
      have h6 := ih (k + 1) _ f2 (by omega) (nI_1 k) hf2
      rw [l1, List.length_append, List.length_map, ← Nat.add_assoc] at h6
      exact h6
    · have l1 : LZ (tB V) (z + 1) (k + 1) = LZ (tB V) (z + 1) k := by rw [LZ_s, if_neg h, List.append_nil]
      have h6 := ih (k + 1) _ f (by omega) (nI_1 k) (by rw [l1]; exact hf)
      rw [l1] at h6
      exact h6
theorem c_addSets {V : Nat} (hV : V < 2 ^ 24) : ∀ (z d b set : Nat) (f : Nat → Int32) (l : List Nat), b ≤ 24 → z < 100 → set < 2 ^ 24 → set % 2 ^ b = 0 → lrw f l → l.length + (LZ (tB V) z b).length ≤ 220 →
    sp (d + z + 2) 9 [.ref 35, .int (nI V), .int (nI z), .int (nI b), .int (nI set)] (g37 L xs A I F P f l.length) (fun r m => r = none ∧ ∃ f2, lrw f2 (l ++ (LZ (tB V) z b).map (fun y => set + y)) ∧ m = g37 L xs A I F P f2 (l.length + (LZ (tB V) z b).length))
  | 0, d, b, set, f, l, hb, hz, hset, hmul, hf, hl => by
    have hl2 : l.length < 220 := by
      have : (LZ (tB V) 0 b).length = 1 := rfl
      omega
    have hi := ix_n (w := l.length) (N := 220) (by decide) hl2
    refine ⟨⟨_, rfl⟩, rfl, mm_WP.go [] 100 ⟨fun c => absurd c (by decide), fun _ => lp_ge (k := l.length) (N := 220) rfl rfl (by decide) (by omega) (fun h => absurd h (by omega)) (fun _ => ⟨hi.1, ?_⟩)⟩⟩
    rw [show (uI I 35 4 (nI l.length) 35 4).toNatClampNeg = l.length from hi.2]
    refine ⟨trivial, rfl, upd f l.length (nI set), ?_, ?_⟩
    · have := lrw_add hf set
      exact this
    · show gm L xs (uR A 37 (upd f l.length (nI set))) (uI I 35 4 (nI l.length + 1)) F P = _
      rw [nI_1]
      rfl
  | z + 1, d, b, set, f, l, hb, hz, hset, hmul, hf, hl => by
    refine ⟨⟨_, rfl⟩, rfl, mm_WP.go [41] 100 ⟨fun _ => ?_, fun c => absurd ((nI_ltI (a := 0) (b := z + 1) (by omega) (by omega)).mpr (by omega)) c⟩⟩
    have h := c_as_loop (L := L) (xs := xs) (A := A) (I := I) (F := F) (P := P) (D := d + z + 1) (B := mm_Al 9) (Q := fun r m => r = none ∧ ∃ f2, lrw f2 (l ++ (LZ (tB V) (z + 1) b).map (fun y => set + y)) ∧ m = g37 L xs A I F P f2 (l.length + (LZ (tB V) (z + 1) b).length)) hV hb hset hmul (fun s set2 f l hs _ hs2 hm2 hf hl => c_addSets hV z d s set2 f l (by omega) (by omega) hs2 hm2 hf hl) hl (fun f2 hf2 => ⟨rfl, f2, hf2, rfl⟩) b 0 _ f rfl rfl (by rw [show LZ (tB V) (z + 1) 0 = [] from rfl, List.map_nil, List.append_nil]; exact hf)
    exact h
end M18
