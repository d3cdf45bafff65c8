/-! the class: enough, help -/
noncomputable def bp (c : Prop) : Bool := @decide c (Classical.propDecidable c)
theorem bp_iff {c : Prop} : bp c = true ↔ c := @decide_eq_true_iff c (Classical.propDecidable c)
theorem bp_false {c : Prop} : bp c = false ↔ ¬ c := @decide_eq_false_iff_not c (Classical.propDecidable c)
theorem bp_congr {c e : Prop} (h : c ↔ e) : bp c = bp e := by
  cases h2 : bp e
  · exact bp_false.mpr (fun z => bp_false.mp h2 (h.mp z))
  · exact bp_iff.mpr (h.mpr (bp_iff.mp h2))
/-- put to a list, if it isn't there -/
def au (l : List Nat) (x : Nat) : List Nat := if x ∈ l then l else l ++ [x]
def ul (p : Nat → Bool) (u : Nat → Nat) : Nat → List Nat
  | 0 => []
  | k + 1 => if p k then au (ul p u k) (u k) else ul p u k
theorem au_mem {l : List Nat} {x y : Nat} : y ∈ au l x ↔ y ∈ l ∨ y = x := by
  unfold au
  split
  · rename_i h
    exact ⟨Or.inl, fun z => z.elim id (fun e => e ▸ h)⟩
  · rw [List.mem_append, List.mem_singleton]
theorem au_nd {l : List Nat} {x : Nat} (h : l.Nodup) : (au l x).Nodup := by
  unfold au
  split
  · exact h
  · rename_i h2
    rw [List.nodup_append]
    refine ⟨h, by simp, fun a ha b hb e => ?_⟩
    rw [List.mem_singleton] at hb
    exact h2 (hb ▸ e ▸ ha)
theorem au_len {l : List Nat} {x : Nat} : (au l x).length ≤ l.length + 1 := by
  unfold au
  split
  · omega
  · simp
theorem ul_mem {p : Nat → Bool} {u : Nat → Nat} {x : Nat} : ∀ k, x ∈ ul p u k ↔ ∃ m, m < k ∧ p m = true ∧ x = u m
  | 0 => ⟨fun h => absurd h List.not_mem_nil, fun ⟨m, h, _⟩ => absurd h (Nat.not_lt_zero m)⟩
  | k + 1 => by
    rw [ul]
    by_cases hp : p k = true
    · rw [if_pos hp, au_mem, ul_mem k]
      constructor
      · rintro (⟨m, h1, h2, h3⟩ | h)
        · exact ⟨m, by omega, h2, h3⟩
        · exact ⟨k, by omega, hp, h⟩
      · rintro ⟨m, h1, h2, h3⟩
        rcases Nat.lt_or_ge m k with h4 | h4
        · exact Or.inl ⟨m, h4, h2, h3⟩
        · have : m = k := by omega
          exact Or.inr (this ▸ h3)
    · rw [if_neg hp, ul_mem k]
      constructor
      · rintro ⟨m, h1, h2, h3⟩
        exact ⟨m, by omega, h2, h3⟩
      · rintro ⟨m, h1, h2, h3⟩
        refine ⟨m, ?_, h2, h3⟩
        rcases Nat.lt_or_ge m k with h4 | h4
        · exact h4
        · have : m = k := by omega
          exact absurd (this ▸ h2) hp
theorem ul_nd {p : Nat → Bool} {u : Nat → Nat} : ∀ k, (ul p u k).Nodup
  | 0 => List.nodup_nil
  | k + 1 => by
    rw [ul]
    split
    · exact au_nd (ul_nd k)
    · exact ul_nd k
theorem ul_len {p : Nat → Bool} {u : Nat → Nat} : ∀ k, (ul p u k).length ≤ k
  | 0 => Nat.le_refl _
  | k + 1 => by
    rw [ul]
    have := ul_len (p := p) (u := u) k
    split
    · exact Nat.le_trans au_len (by omega)
    · omega
/-- all parted by a set -/
def pw (U : List Nat) (X : Nat) : Prop := ∀ i, i < U.length → ∀ j, j < i → ¬ (U.getD i 0 &&& X = U.getD j 0 &&& X)
theorem getD_mem {l : List Nat} {i : Nat} (h : i < l.length) : l.getD i 0 ∈ l := by
  rw [List.getD_eq_getElem?_getD, List.getElem?_eq_getElem h]
  exact List.getElem_mem h
theorem mem_getD {l : List Nat} {x : Nat} (h : x ∈ l) : ∃ i, i < l.length ∧ l.getD i 0 = x := by
  obtain ⟨i, hi, rfl⟩ := List.mem_iff_getElem.mp h
  refine ⟨i, hi, ?_⟩
  rw [List.getD_eq_getElem?_getD, List.getElem?_eq_getElem hi]
  rfl
theorem asc_lt {l : List Nat} (h : l.Pairwise (· < ·)) {i j : Nat} (hij : i < j) (hj : j < l.length) : l.getD i 0 < l.getD j 0 := by
  have h1 : i < l.length := by omega
  rw [List.getD_eq_getElem?_getD, List.getElem?_eq_getElem h1, List.getD_eq_getElem?_getD, List.getElem?_eq_getElem hj]
  exact List.pairwise_iff_getElem.mp h i j h1 hj hij
theorem xr_and {a b X : Nat} : (a ^^^ b) &&& X = 0 ↔ a &&& X = b &&& X := by
  constructor
  · intro h
    apply Nat.eq_of_testBit_eq
    intro i
    have h1 := congrArg (fun x => x.testBit i) h
    simp only [Nat.testBit_and, Nat.testBit_xor, Nat.zero_testBit] at h1
    rw [Nat.testBit_and, Nat.testBit_and]
    revert h1
    cases a.testBit i <;> cases b.testBit i <;> cases X.testBit i <;> simp
  · intro h
    apply Nat.eq_of_testBit_eq
    intro i
    have h1 := congrArg (fun x => x.testBit i) h
    simp only [Nat.testBit_and] at h1
    rw [Nat.testBit_and, Nat.testBit_xor, Nat.zero_testBit]
    revert h1
    cases a.testBit i <;> cases b.testBit i <;> cases X.testBit i <;> simp
section M19
variable {L : Nat} {xs : Nat → Int32} {A I : Nat → Nat → Int32} {F : Nat → Nat → Option Nat} {P : mm_M} {n : Nat} {H S : Nat → Nat → Bool}
theorem c_listSets {V z : Nat} (d : Nat) (hV : V < 2 ^ 24) (h12 : fb_ct (tB V) 24 ≤ 12) (hz : z ≤ 3) : sp (d + z + 3) 8 [.ref 35, .int (nI V), .int (nI z)] (gm L xs A I F P) (fun r m => r = none ∧ ∃ f2, lrw f2 (LZ (tB V) z 24) ∧ m = gm L xs (uR A 37 f2) (uI I 35 4 (nI (LZ (tB V) z 24).length)) F P) := by
  have h := c_addSets (L := L) (xs := xs) (A := A) (I := I) (F := F) (P := P) hV z d 24 0 (A 37) [] (by decide) (by omega) (by decide) (Nat.zero_mod _) (fun i hi => absurd hi (Nat.not_lt_zero i)) (by
    rw [LZ_len]
    have := chs_220 _ (show fb_ct (tB V) 24 < 13 by omega) z (by omega)
    rw [List.length_nil]
    omega)
  rw [List.nil_append, List.length_nil, Nat.zero_add, show (LZ (tB V) z 24).map (fun y => 0 + y) = LZ (tB V) z 24 by simp] at h
  unfold g37 at h
  rw [uR_self] at h
  refine ⟨⟨_, rfl⟩, rfl, mm_WP.go [] 100 ⟨trivial, _, h, ?_⟩⟩
  rintro r m ⟨rfl, f2, hf2, rfl⟩
  exact ⟨rfl, f2, hf2, rfl⟩
abbrev g36 (L : Nat) (xs : Nat → Int32) (A I : Nat → Nat → Int32) (F : Nat → Nat → Option Nat) (P : mm_M) (f : Nat → Int32) (c : Nat) : mm_M := gm L xs (uR A 36 f) (uI I 35 2 (nI c)) F P
theorem c_au_loop {d : Nat} {B : Nat × Nat} {Q : mm_Q} {x : Nat} {l : List Nat} {f : Nat → Int32} (hx : x < 2 ^ 24) (hl : ∀ y, y ∈ l → y < 2 ^ 24) (hf : lrw f l) (h90 : l.length < 90)
    (hq : ∀ f2, lrw f2 (au l x) → Q none (g36 L xs A I F P f2 (au l x).length)) :
    ∀ (j k : Nat) (z : Int32), j + k = l.length → z = nI k → (∀ i, i < k → ¬ l.getD i 0 = x) → wp d B cd_Chooser_addUnlike Q 2 [some (.ref 35), some (.int (nI x)), some (.int z)] [] (g36 L xs A I F P f l.length) := by
  intro j
  induction j with
  | zero =>
    intro k z hk hz hno
    refine mm_WP.go [2] 100 (lp_ge (N := l.length) hz rfl (by omega) (by omega) (fun h => ?_) (fun h => absurd h (by omega)))
    subst h
    have hi := ix_n (w := l.length) (N := 90) (by decide) h90
    refine lp_ge (k := l.length) (N := 90) rfl rfl (by decide) (by omega) (fun h => absurd h (by omega)) (fun _ => ⟨hi.1, ?_⟩)
    rw [show (uI I 35 2 (nI l.length) 35 2).toNatClampNeg = l.length from hi.2]
    have hnm : ¬ x ∈ l := fun h => by
      obtain ⟨i, h1, h2⟩ := mem_getD h
      exact hno i (by omega) h2
    have e : au l x = l ++ [x] := by unfold au; rw [if_neg hnm]
    have h2 := hq (upd f l.length (nI x)) (by rw [e]; exact lrw_add hf x)
    rw [e, List.length_append, List.length_singleton] at h2
    refine ⟨trivial, ?_⟩
    have h3 : nI (l.length + 1) = nI l.length + 1 := (nI_1 _).symm
    unfold g36 at h2
    rw [h3] at h2
    exact h2
  | succ j ih =>
    intro k z hk hz hno
    refine mm_WP.go [2] 100 (lp_ge (N := l.length) hz rfl (by omega) (by omega) (fun h => absurd h (by omega)) (fun hkl => ?_))
    subst hz
    have hi := ix_n (w := k) (N := 90) (by decide) (by omega)
    refine ⟨hi.1, ?_⟩
    rw [show uR A 36 f 36 ((nI k).toNatClampNeg) = nI (l.getD k 0) by rw [hi.2]; exact hf k hkl]
    have hy := hl _ (getD_mem hkl)
    refine ⟨fun c => ?_, fun c => ?_⟩
    · refine ih (k + 1) _ (by omega) (nI_1 k) (fun i h2 => ?_)
      rcases Nat.lt_or_ge i k with h3 | h3
      · exact hno i h3
      · have : i = k := by omega
        subst this
        exact fun e => c (by rw [e])
    · have hm : x ∈ l := by
        have := (nI_eq (Nat.lt_of_lt_of_le hy (by decide)) (Nat.lt_of_lt_of_le hx (by decide))).mp c
        exact this ▸ getD_mem hkl
      have e : au l x = l := by unfold au; rw [if_pos hm]
      rw [e] at hq
      exact hq f hf
theorem c_addUnlike (d : Nat) {x : Nat} {l : List Nat} {f : Nat → Int32} (hx : x < 2 ^ 24) (hl : ∀ y, y ∈ l → y < 2 ^ 24) (hf : lrw f l) (h90 : l.length < 90) : sp (d + 1) 7 [.ref 35, .int (nI x)] (g36 L xs A I F P f l.length) (fun r m => r = none ∧ ∃ f2, lrw f2 (au l x) ∧ m = g36 L xs A I F P f2 (au l x).length) := by
  refine ⟨⟨_, rfl⟩, rfl, mm_WP.go [2] 100 ?_⟩
  exact c_au_loop hx hl hf h90 (fun f2 hf2 => ⟨rfl, f2, hf2, rfl⟩) l.length 0 _ rfl rfl (fun i hi => absurd hi (Nat.not_lt_zero i))
/-- the shown that have it -/
def uX (n : Nat) (H S : Nat → Nat → Bool) (w m : Nat) : Nat := sb 24 (fun s => am n S w s && H s m)
theorem uX_lt {w m : Nat} : uX n H S w m < 2 ^ 24 := sb_lt _ _
theorem uX_as (hC : CS n H S A I) {w m : Nat} (hm : m < 90) : nI (sb 24 (am n S w)) &&& A 26 m = nI (uX n H S w m) := by
  obtain ⟨hn, hI, hS, hH⟩ := hC
  rw [hH m hm, sb_cut hn, sb_and (Nat.le_refl 24)]
  refine congrArg nI (sb_cong (fun i _ => ?_))
  cases h : am n S w i
  · rfl
  · rw [decide_eq_true (am_n h), Bool.true_and]
theorem ulX_lt {w k y : Nat} (hy : y ∈ ul (L0 n H S w) (uX n H S w) k) : y < 2 ^ 24 := by
  obtain ⟨m, _, _, he⟩ := (ul_mem k).mp hy
  rw [he]
  exact uX_lt
theorem c_lu_loop {d : Nat} {B : Nat × Nat} {Q : mm_Q} (hC : CS n H S A I) {w : Nat} (hw : w < 6) (hq : ∀ f2, lrw f2 (ul (L0 n H S w) (uX n H S w) 90) → Q none (g36 L xs A I F P f2 (ul (L0 n H S w) (uX n H S w) 90).length)) :
    ∀ (j k : Nat) (x : Int32) (f : Nat → Int32), j + k = 90 → x = nI k → lrw f (ul (L0 n H S w) (uX n H S w) k) → wp (d + 2) B cd_Chooser_listUnlike Q 7 [some (.ref 35), some (.int (nI w)), some (.int (nI (sb 24 (am n S w)))), some (.int x)] [] (g36 L xs A I F P f (ul (L0 n H S w) (uX n H S w) k).length) := by
  intro j
  induction j with
  | zero =>
    intro k x f hk hx hf
    refine mm_WP.go [7] 100 (lp_ge (N := 90) hx rfl (by omega) (by omega) (fun h => ?_) (fun h => absurd h (by omega)))
    subst h
    exact hq f hf
  | succ j ih =>
    intro k x f hk hx hf
    refine mm_WP.go [7, 38] 100 (lp_ge (N := 90) hx rfl (by omega) (by omega) (fun h => absurd h (by omega)) (fun _ => ?_))
    subst hx
    have hi := ix_n (w := k) (N := 90) (by decide) (by omega)
    refine cy (c_isLeft (A := uR A 36 f) (I := uI I 35 2 (nI (ul (L0 n H S w) (uX n H S w) k).length)) d hC hw (by omega) 0) (fun h => e1 ⟨hi.1, ?_⟩) (fun h => e0 ?_)
    · show wp (d + 2) B cd_Chooser_listUnlike Q 38 [some (.ref 35), some (.int (nI w)), some (.int (nI (sb 24 (am n S w)))), some (.int (nI k))] [.int (A 26 ((nI k).toNatClampNeg) &&& nI (sb 24 (am n S w))), .ref 35] (g36 L xs A I F P f (ul (L0 n H S w) (uX n H S w) k).length)
      rw [hi.2, Int32.and_comm, uX_as hC (by omega)]
      have hlen := ul_len (p := L0 n H S w) (u := uX n H S w) k
      refine mm_WP.go [7] 100 ⟨_, c_addUnlike (d + 1) uX_lt (fun y hy => ulX_lt hy) hf (by omega), ?_⟩
      · rintro r m ⟨rfl, f2, hf2, rfl⟩
        have e : ul (L0 n H S w) (uX n H S w) (k + 1) = au (ul (L0 n H S w) (uX n H S w) k) (uX n H S w k) := by
          rw [ul, if_pos (show L0 n H S w k = true from Lp_iff.mpr h)]
        rw [← e] at hf2 ⊢
        exact ih (k + 1) _ f2 (by omega) (nI_1 k) hf2
    · have e : ul (L0 n H S w) (uX n H S w) (k + 1) = ul (L0 n H S w) (uX n H S w) k := by
        rw [ul, if_neg (by rw [L0_ff h]; decide)]
      have h2 := ih (k + 1) _ f (by omega) (nI_1 k) (by rw [e]; exact hf)
      rw [e] at h2
      exact h2
theorem c_listUnlike (d : Nat) (hC : CS n H S A I) {w : Nat} (hw : w < 6) : sp (d + 3) 6 [.ref 35, .int (nI w), .int (nI (sb 24 (am n S w)))] (gm L xs A I F P) (fun r m => r = none ∧ ∃ f2, lrw f2 (ul (L0 n H S w) (uX n H S w) 90) ∧ m = g36 L xs A I F P f2 (ul (L0 n H S w) (uX n H S w) 90).length) := by
  refine ⟨⟨_, rfl⟩, rfl, mm_WP.go [7] 100 ⟨trivial, ?_⟩⟩
  have h := c_lu_loop (L := L) (xs := xs) (F := F) (P := P) (d := d) (B := mm_Al 6) (Q := fun r m => r = none ∧ ∃ f2, lrw f2 (ul (L0 n H S w) (uX n H S w) 90) ∧ m = g36 L xs A I F P f2 (ul (L0 n H S w) (uX n H S w) 90).length) hC hw (fun f2 hf2 => ⟨rfl, f2, hf2, rfl⟩) 90 0 _ (A 36) rfl rfl (fun i hi => absurd hi (Nat.not_lt_zero i))
  unfold g36 at h
  rw [uR_self] at h
  exact h
theorem c_pa_in {d : Nat} {B : Nat × Nat} {Q : mm_Q} {U : List Nat} {X i : Nat} (hU : ∀ y, y ∈ U → y < 2 ^ 24) (hX : X < 2 ^ 24) (hA : lrw (A 36) U) (h90 : U.length ≤ 90) (hi : i < U.length)
    (hf : ∀ j, j < i → U.getD i 0 &&& X = U.getD j 0 &&& X → Q (some (.int 0)) (gm L xs A I F P))
    (hq : ∀ x, (∀ j, j < i → ¬ U.getD i 0 &&& X = U.getD j 0 &&& X) → wp d B cd_Chooser_partsAll Q 43 [some (.ref 35), some (.int (nI X)), some (.int (nI i)), some (.int x)] [] (gm L xs A I F P)) :
    ∀ (j k : Nat) (x : Int32), j + k = i → x = nI k → (∀ j, j < k → ¬ U.getD i 0 &&& X = U.getD j 0 &&& X) → wp d B cd_Chooser_partsAll Q 12 [some (.ref 35), some (.int (nI X)), some (.int (nI i)), some (.int x)] [] (gm L xs A I F P) := by
  intro j
  induction j with
  | zero =>
    intro k x hk hx hno
    refine mm_WP.go [12, 43] 100 (lp_ge (N := i) hx rfl (by omega) (by omega) (fun h => ?_) (fun h => absurd h (by omega)))
    subst h
    exact hq _ hno
  | succ j ih =>
    intro k x hk hx hno
    refine mm_WP.go [12, 43] 100 (lp_ge (N := i) hx rfl (by omega) (by omega) (fun h => absurd h (by omega)) (fun hki => ?_))
    subst hx
    have i1 := ix_n (w := i) (N := 90) (by decide) (by omega)
    have i2 := ix_n (w := k) (N := 90) (by decide) (by omega)
    have ya := hU _ (getD_mem hi)
    have yb := hU _ (getD_mem (show k < U.length by omega))
    have e : (A 36 ((nI i).toNatClampNeg) ^^^ A 36 ((nI k).toNatClampNeg)) &&& nI X = nI ((U.getD i 0 ^^^ U.getD k 0) &&& X) := by
      rw [i1.2, i2.2, hA i hi, hA k (by omega), nx_xor, fa_and]
    have lX : (U.getD i 0 ^^^ U.getD k 0) &&& X < 2 ^ 24 := Nat.lt_of_le_of_lt Nat.and_le_right hX
    have ez : (A 36 ((nI i).toNatClampNeg) ^^^ A 36 ((nI k).toNatClampNeg)) &&& nI X = 0 ↔ U.getD i 0 &&& X = U.getD k 0 &&& X := by
      rw [e, show (0 : Int32) = nI 0 from rfl, nI_eq (Nat.lt_of_lt_of_le lX (by decide)) (by decide), xr_and]
    refine ⟨i1.1, i2.1, fun c => ?_, fun c => ?_⟩
    · refine ih (k + 1) _ (by omega) (nI_1 k) (fun j2 h2 => ?_)
      rcases Nat.lt_or_ge j2 k with h3 | h3
      · exact hno j2 h3
      · have : j2 = k := by omega
        subst this
        exact fun z => c (ez.mpr z)
    · exact ⟨rfl, hf k hki (ez.mp c)⟩
theorem c_pa_loop {d : Nat} {B : Nat × Nat} {Q : mm_Q} {U : List Nat} {X : Nat} (hU : ∀ y, y ∈ U → y < 2 ^ 24) (hX : X < 2 ^ 24) (hA : lrw (A 36) U) (hI : I 35 2 = nI U.length) (h90 : U.length ≤ 90)
    (h0 : ¬ pw U X → Q (some (.int 0)) (gm L xs A I F P)) (h1 : pw U X → Q (some (.int 1)) (gm L xs A I F P)) :
    ∀ (j k : Nat) (x : Int32) (u : Option Value), j + k = U.length → x = nI k → (∀ i, i < k → ∀ j, j < i → ¬ U.getD i 0 &&& X = U.getD j 0 &&& X) → wp d B cd_Chooser_partsAll Q 2 [some (.ref 35), some (.int (nI X)), some (.int x), u] [] (gm L xs A I F P) := by
  intro j
  induction j with
  | zero =>
    intro k x u hk hx hno
    refine mm_WP.go [2] 100 (lp_ge hx hI (by omega) (by omega) (fun h => ?_) (fun h => absurd h (by omega)))
    subst h
    exact ⟨rfl, h1 hno⟩
  | succ j ih =>
    intro k x u hk hx hno
    refine mm_WP.go [2, 12] 100 (lp_ge hx hI (by omega) (by omega) (fun h => absurd h (by omega)) (fun hki => ?_))
    subst hx
    refine c_pa_in hU hX hA h90 hki (fun j2 h2 h3 => h0 (fun z => z k hki j2 h2 h3)) (fun x hno2 => ?_) k 0 _ rfl rfl (fun j2 h2 => absurd h2 (Nat.not_lt_zero j2))
    refine mm_WP.go [2] 100 (ih (k + 1) _ _ (by omega) (nI_1 k) (fun i h2 => ?_))
    rcases Nat.lt_or_ge i k with h3 | h3
    · exact hno i h3
    · have : i = k := by omega
      subst this
      exact hno2
theorem c_partsAll (d : Nat) {U : List Nat} {X : Nat} (hU : ∀ y, y ∈ U → y < 2 ^ 24) (hX : X < 2 ^ 24) (hA : lrw (A 36) U) (hI : I 35 2 = nI U.length) (h90 : U.length ≤ 90) : sp (d + 1) 10 [.ref 35, .int (nI X)] (gm L xs A I F P) (yes (gm L xs A I F P) (pw U X)) := by
  refine ⟨⟨_, rfl⟩, rfl, mm_WP.go [2] 100 ?_⟩
  exact c_pa_loop hU hX hA hI h90 (fun h => ⟨rfl, Or.inr ⟨h, rfl⟩⟩) (fun h => ⟨rfl, Or.inl ⟨h, rfl⟩⟩) U.length 0 _ _ rfl rfl (fun i hi => absurd hi (Nat.not_lt_zero i))
end M19
