/-! the class: givings, giving -/
/-- the words of a set -/
def wl (v : Nat) : List Nat := (List.range 6).filter (fun i => v.testBit i)
def wo (v : Nat) : Int32 := match wl v with
  | [] => -9
  | w :: _ => nI w
theorem wl_fi : ∀ v, v < 64 → fi (fun i => v.testBit i) 24 0 = wo v := by decide +kernel
theorem wl_and : ∀ v, v < 64 → nI v &&& (nI v - 1) = nI (v &&& (v - 1)) ∧ v &&& (v - 1) < 64 ∧ wl (v &&& (v - 1)) = (wl v).tail := by decide +kernel
theorem wl_0 : ∀ v, v < 64 → (v = 0 ↔ wl v = []) := by decide +kernel
theorem wl_lt : ∀ v, v < 64 → ∀ w ∈ wl v, w < 6 := by decide +kernel
theorem wl_od : ∀ v, v < 64 → od 24 v = (wl v).length ∧ od 31 v = (wl v).length := by decide +kernel
theorem wl_mem {v w : Nat} (hw : w < 6) : w ∈ wl v ↔ v.testBit w = true := by
  unfold wl
  rw [List.mem_filter, List.mem_range]
  exact ⟨fun h => h.2, fun h => ⟨hw, h⟩⟩
section M12
variable {L : Nat} {xs : Nat → Int32} {A I : Nat → Nat → Int32} {F : Nat → Nat → Option Nat} {P : mm_M} {n : Nat} {H S : Nat → Nat → Bool}
/-- left with no slip -/
abbrev L0 (n : Nat) (H S : Nat → Nat → Bool) (w : Nat) : Nat → Bool := Lp n H S w 0
theorem c_lost (d : Nat) (hC : CS n H S A I) {w : Nat} (hw : w < 6) {t : Int32} (ht : TK t) : sp (d + 3) 16 [.ref 33, .int (nI w), .int t] (gm L xs A I F P) (ans (gm L xs A I F P) (nI (ls (L0 n H S w) t))) := by
  rcases ht with rfl | ⟨x, hx, rfl⟩
  · rw [ls_9]
    exact ⟨⟨_, rfl⟩, rfl, mm_WP.go [] 100 ⟨fun _ => ⟨rfl, rfl⟩, fun c => absurd rfl c⟩⟩
  · rw [ls_x _ hx]
    refine ⟨⟨_, rfl⟩, rfl, mm_WP.go [] 100 ⟨fun c => absurd c (nI_n9 (by omega)), fun _ => ?_⟩⟩
    refine cy (c_isLeft d hC hw hx 0) (fun h => ?_) (fun h => ?_)
    · rw [if_pos (Lp_iff.mpr h)]
      exact e1 ⟨rfl, rfl⟩
    · rw [if_neg (fun z => h (Lp_iff.mp z))]
      exact e0 ⟨rfl, rfl⟩
theorem c_ways_loop {D : Nat} {B : Nat × Nat} {Q : mm_Q} (hC : CS n H S A I) {w v v2 : Nat} (hw : w < 6) {t b : Int32} {r : List (Nat → Bool)}
    (hr : ∀ m, m < 90 → ¬ nI m = t → sp (D + 2) 15 [.ref 33, .int (nI v2), .int (nI m), .int t] (gm L xs A I F P) (ans (gm L xs A I F P) (nI (WW r (nI m) t))))
    (hq : Q (some (.int (nI (WW (L0 n H S w :: r) t b)))) (gm L xs A I F P)) :
    ∀ (j k : Nat) (x y : Int32), j + k = 90 → x = nI k → y = nI (fb_sm (fun m => if q1 (L0 n H S w) t b m then WW r (nI m) t else 0) k) →
      wp (D + 2) B cd_Giver_ways Q 58 [some (.ref 33), some (.int (nI v)), some (.int t), some (.int b), some (.int (nI w)), some (.int (nI v2)), some (.int y), some (.int x)] [] (gm L xs A I F P) := by
  intro j
  induction j with
  | zero =>
    intro k x y hk hx hy
    refine mm_WP.go [58] 100 (lp_ge (N := 90) hx rfl (by omega) (by omega) (fun h => ?_) (fun h => absurd h (by omega)))
    subst h
    rw [hy]
    exact hq
  | succ j ih =>
    intro k x y hk hx hy
    refine mm_WP.go [58] 100 (lp_ge (N := 90) hx rfl (by omega) (by omega) (fun h => absurd h (by omega)) (fun _ => ?_))
    subst hx
    have no : q1 (L0 n H S w) t b k = false → y = nI (fb_sm (fun m => if q1 (L0 n H S w) t b m then WW r (nI m) t else 0) (k + 1)) := by
      intro h
      rw [hy, fb_sm_succ, h]
      rfl
    refine ⟨fun c => ?_, fun c => ⟨fun c2 => ?_, fun c2 => ?_⟩⟩
    · refine ih (k + 1) _ _ (by omega) (nI_1 k) (no ?_)
      unfold q1
      rw [decide_eq_true c]
      simp
    · refine ih (k + 1) _ _ (by omega) (nI_1 k) (no ?_)
      unfold q1
      rw [decide_eq_true c2]
      simp
    · refine cy (c_isLeft D hC hw (by omega) 0) (fun h => ?_) (fun h => ?_)
      · refine e1 (ca (hr k (by omega) c) ?_)
        refine ih (k + 1) _ _ (by omega) (nI_1 k) ?_
        have e : q1 (L0 n H S w) t b k = true := by
          unfold q1
          rw [decide_eq_false c, decide_eq_false c2, show L0 n H S w k = true from Lp_iff.mpr h]
          rfl
        rw [hy, fb_sm_succ, e, if_pos rfl, nI_add]
      · refine e0 (ih (k + 1) _ _ (by omega) (nI_1 k) (no ?_))
        have e : L0 n H S w k = false := by
          cases hh : L0 n H S w k
          · rfl
          · exact absurd (Lp_iff.mp hh) h
        unfold q1
        rw [e]
        simp
theorem nI_sub2 {a b c e : Nat} (h : a + b + c = e) : nI e - nI b - nI c = nI a := by
  subst h
  rw [← nI_add, ← nI_add]
  rw [show nI a + nI b + nI c = nI a + nI c + nI b by rw [Int32.add_assoc, Int32.add_comm (nI b), ← Int32.add_assoc], Int32.add_sub_cancel, Int32.add_sub_cancel]
theorem c_ways (hC : CS n H S A I) : ∀ (l : List Nat) (d v : Nat) (t b : Int32), v < 64 → wl v = l → TK t → TK b → (t = b → t = -9) → (∀ w, w ∈ l → A 34 w = nI (fb_ct (L0 n H S w) 90)) →
    sp (d + l.length + 5) 15 [.ref 33, .int (nI v), .int t, .int b] (gm L xs A I F P) (ans (gm L xs A I F P) (nI (WW (l.map (L0 n H S)) t b)))
  | [], d, v, t, b, hv, hl, _, _, _, _ => by
    refine ⟨⟨_, rfl⟩, rfl, mm_WP.go [] 100 (ca (c_firstIn (d + 2) (by omega) _) ?_)⟩
    rw [wl_fi v hv, show wo v = -9 by unfold wo; rw [hl]]
    refine cy (c_noWord (d + 3) _ _) (fun _ => ?_) (fun h => ?_)
    · exact e1 ⟨rfl, rfl⟩
    · exact absurd (fun z => absurd (vp_in_0 z).1 (by decide)) h
  | w :: r, d, v, t, b, hv, hl, ht, hb, htb, hA => by
    have hw : w < 6 := wl_lt v hv w (by rw [hl]; exact List.mem_cons_self)
    obtain ⟨a1, a2, a3⟩ := wl_and v hv
    rw [hl, List.tail_cons] at a3
    have hi := ix_n (w := w) (N := 6) (by decide) hw
    refine ⟨⟨_, rfl⟩, rfl, mm_WP.go [23, 58] 100 (ca (c_firstIn (d + (w :: r).length + 2) (by omega) _) ?_)⟩
    rw [wl_fi v hv, show wo v = nI w by unfold wo; rw [hl]]
    refine cy (c_noWord (d + (w :: r).length + 3) _ _) (fun h => absurd hi.1 h) (fun _ => e0 ?_)
    show wp (d + (w :: r).length + 4) _ cd_Giver_ways _ 23 [some (.ref 33), some (.int (nI v)), some (.int t), some (.int b), some (.int (nI w)), some (.int (nI v &&& (nI v - 1))), none, none] [] (gm L xs A I F P)
    rw [a1]
    have hz : (nI (v &&& (v - 1)) = 0) ↔ r = [] := by
      rw [show (0 : Int32) = nI 0 from rfl, nI_eq (by omega) (by omega), wl_0 _ a2, a3]
    refine mm_WP.go [58] 100 ⟨fun c => ?_, fun c => ?_⟩
    · have hr : r ≠ [] := fun h => c (hz.mpr h)
      refine c_ways_loop (D := d + r.length + 3) hC hw ?_ ⟨rfl, rfl⟩ 90 0 _ _ rfl rfl rfl
      intro m hm hne
      exact c_ways hC r d _ _ _ a2 a3 (Or.inr ⟨m, hm, rfl⟩) ht (fun h => absurd h hne) (fun u hu => hA u (List.mem_cons_of_mem _ hu))
    · have hr : r = [] := hz.mp c
      subst hr
      refine ⟨hi.1, ca (c_lost (d + 2) hC hw ht) (ca (c_lost (d + 2) hC hw hb) ⟨?_, rfl⟩)⟩
      rw [hi.2, hA w List.mem_cons_self]
      rw [nI_sub2 (WW_one (p := L0 n H S w) htb)]
      rfl
/-- the left of each word of a set -/
def lc (n : Nat) (H S : Nat → Nat → Bool) (v w : Nat) : Int32 := if v.testBit w then nI (fb_ct (L0 n H S w) 90) else 0
theorem c_cl_loop {d : Nat} {B : Nat × Nat} {Q : mm_Q} {v : Nat} (hC : CS n H S A I) (hv : v < 64) (hq : Q none (gm L xs (uR A 34 (fa_fill (lc n H S v) (A 34) 6)) I F P)) :
    ∀ (j k : Nat) (x : Int32), j + k = 6 → x = nI k → wp (d + 3) B cd_Giver_countLefts Q 2 [some (.ref 33), some (.int (nI v)), some (.int x)] [] (gm L xs (uR A 34 (fa_fill (lc n H S v) (A 34) k)) I F P) := by
  intro j
  induction j with
  | zero =>
    intro k x hk hx
    refine mm_WP.go [2] 100 (lp_ge (N := 6) hx rfl (by omega) (by omega) (fun h => ?_) (fun h => absurd h (by omega)))
    subst h
    exact hq
  | succ j ih =>
    intro k x hk hx
    refine mm_WP.go [2] 100 (lp_ge (N := 6) hx rfl (by omega) (by omega) (fun h => absurd h (by omega)) (fun _ => ?_))
    subst hx
    have hi := ix_n (w := k) (N := 6) (by decide) (by omega)
    have h2 := ih (k + 1) _ (by omega) (nI_1 k)
    rw [← fa_fill_succ] at h2
    refine cy (c_isIn (d + 2) (by omega) (by omega) _) (fun h => ?_) (fun h => ?_)
    · refine e1 (ca (c_countLeft (A := uR A 34 (fa_fill (lc n H S v) (A 34) k)) d hC (by omega) 0) ⟨hi.1, ?_⟩)
      rw [show lc n H S v k = nI (fb_ct (L0 n H S k) 90) by unfold lc; rw [if_pos h]] at h2
      rw [hi.2]
      exact h2
    · refine e0 ⟨hi.1, ?_⟩
      rw [show lc n H S v k = 0 by unfold lc; rw [if_neg h]] at h2
      rw [hi.2]
      exact h2
theorem c_countLefts (d : Nat) {v : Nat} (hC : CS n H S A I) (hv : v < 64) : sp (d + 4) 14 [.ref 33, .int (nI v)] (gm L xs A I F P) (fun r m => r = none ∧ m = gm L xs (uR A 34 (fa_fill (lc n H S v) (A 34) 6)) I F P) := by
  refine ⟨⟨_, rfl⟩, rfl, mm_WP.go [2] 100 ?_⟩
  have h := c_cl_loop (L := L) (xs := xs) (F := F) (P := P) (d := d) (B := mm_Al 14) (Q := fun r m => r = none ∧ m = gm L xs (uR A 34 (fa_fill (lc n H S v) (A 34) 6)) I F P) hC hv ⟨rfl, rfl⟩ 6 0 _ rfl rfl
  rw [fa_fill_0, uR_self] at h
  exact h
/-- the class's scratch behind it -/
abbrev A34 (n : Nat) (H S : Nat → Nat → Bool) (v : Nat) (A : Nat → Nat → Int32) : Nat → Nat → Int32 := uR A 34 (fa_fill (lc n H S v) (A 34) 6)
theorem A34_lc {v w : Nat} (hv : v < 64) (hw : w ∈ wl v) : A34 n H S v A 34 w = nI (fb_ct (L0 n H S w) 90) := by
  have h6 := wl_lt v hv w hw
  show uR A 34 _ 34 w = _
  rw [uR_eq, fa_fill_in h6]
  unfold lc
  rw [if_pos ((wl_mem h6).mp hw)]
theorem c_countWays (d : Nat) {v : Nat} (hC : CS n H S A I) (hv : v < 64) (h3 : (wl v).length ≤ 3) : sp (d + 9) 13 [.ref 33, .int (nI v)] (gm L xs A I F P) (ans (gm L xs (A34 n H S v A) I F P) (nI (WW ((wl v).map (L0 n H S)) (-9) (-9)))) := by
  refine ⟨⟨_, rfl⟩, rfl, mm_WP.go [] 100 (ca (c_countLefts (d + 4) hC hv) ?_)⟩
  have h := c_ways (L := L) (xs := xs) (A := A34 n H S v A) (I := I) (F := F) (P := P) (n := n) (H := H) (S := S) hC (wl v) (d + 3 - (wl v).length) v (-9) (-9) hv rfl (Or.inl rfl) (Or.inl rfl) (fun _ => rfl) (fun w hw => A34_lc hv hw)
  rw [show d + 3 - (wl v).length + (wl v).length = d + 3 by omega] at h
  exact ca h ⟨rfl, rfl⟩
/-- a set of words to give -/
def GS (x : Int32) : Prop := ∃ v, 1 ≤ v ∧ v < 64 ∧ x = nI v ∧ (wl v).length ≤ 3
theorem GS_or (x : Int32) : (∃ v, 1 ≤ v ∧ v < 64 ∧ x = nI v) ∨ (x ≤ 0 ∨ 64 ≤ x) ∧ ¬ GS x := by
  by_cases h : x ≤ 0 ∨ 64 ≤ x
  · refine Or.inr ⟨h, ?_⟩
    rintro ⟨v, h1, h2, rfl, -⟩
    rw [fa_le, fa_le, nI_toInt (by omega), show (0 : Int32).toInt = 0 from rfl, show (64 : Int32).toInt = 64 from rfl] at h
    omega
  · rw [fa_le, fa_le, show (0 : Int32).toInt = 0 from rfl, show (64 : Int32).toInt = 64 from rfl] at h
    obtain ⟨v, h2, rfl⟩ := vp_in_of (n := 64) (vp_in_iff.mpr (show 0 ≤ x.toInt ∧ x.toInt < (64 : Nat) by omega)) (by decide)
    rw [nI_toInt (by omega)] at h
    exact Or.inl ⟨v, by omega, h2, rfl⟩
theorem GS_iff {v : Nat} (h1 : 1 ≤ v) (hv : v < 64) : GS (nI v) ↔ (wl v).length ≤ 3 := by
  refine ⟨?_, fun h => ⟨v, h1, hv, rfl, h⟩⟩
  rintro ⟨u, -, h3, h4, h5⟩
  rw [(nI_eq (by omega) (by omega)).mp h4]
  exact h5
theorem c_noSet (d : Nat) (x : Int32) (mem : mm_M) : sp (d + 3) 96 [.int x] mem (yes mem (¬ GS x)) := by
  rcases GS_or x with ⟨v, h1, h2, rfl⟩ | ⟨h, hg⟩
  · have o := (wl_od v h2).1
    have h6 : (wl v).length ≤ 6 := by
      have := List.length_filter_le (fun i => v.testBit i) (List.range 6)
      simpa [wl] using this
    refine ⟨trivial, rfl, mm_WP.go [] 100 ⟨fun c => absurd c (nI_nle (by omega) (by omega)), fun _ => ⟨fun c => ?_, fun _ => ?_⟩⟩⟩
    · have := (nI_leI (a := 64) (b := v) (by omega) (by omega)).mp c
      omega
    · refine ca (j_bitCount (d + 1) (v := v) (by omega) _) ?_
      rw [o]
      refine ⟨fun c => ?_, fun c => ?_⟩
      · have := (nI_leI (a := (wl v).length) (b := 3) (by omega) (by omega)).mp c
        exact ⟨rfl, rfl, Or.inr ⟨fun z => z ((GS_iff h1 h2).mpr this), rfl⟩⟩
      · refine ⟨rfl, rfl, Or.inl ⟨fun z => c ?_, rfl⟩⟩
        exact (nI_leI (a := (wl v).length) (b := 3) (by omega) (by omega)).mpr ((GS_iff h1 h2).mp z)
  · refine ⟨trivial, rfl, mm_WP.go [] 100 ⟨fun _ => ⟨rfl, rfl, Or.inl ⟨hg, rfl⟩⟩, fun c => ⟨fun _ => ⟨rfl, rfl, Or.inl ⟨hg, rfl⟩⟩, fun c2 => ?_⟩⟩⟩
    rcases h with h | h
    · exact absurd h c
    · exact absurd h c2
theorem c_givings (d : Nat) {v : Nat} (hC : CS n H S A I) (h1 : 1 ≤ v) (hv : v < 64) (h3 : (wl v).length ≤ 3) : sp (d + 10) 95 [.ref 6, .int (nI v)] (gm L xs A I F P) (ans (gm L xs (A34 n H S v A) I F P) (nI (WW ((wl v).map (L0 n H S)) (-9) (-9)))) := by
  refine ⟨⟨_, rfl⟩, rfl, mm_WP.go [] 100 (cy (c_noSet (d + 6) _ _) (fun h => absurd ((GS_iff h1 hv).mpr h3) h) (fun _ => ?_))⟩
  exact e0 (ca (c_countWays d hC hv h3) ⟨rfl, rfl⟩)
theorem c_givings_r (d : Nat) {x : Int32} (h : ¬ GS x) : sp (d + 10) 95 [.ref 6, .int x] (gm L xs A I F P) (rC L xs A I F P 1 (-1)) := by
  refine ⟨⟨_, rfl⟩, rfl, mm_WP.go [] 100 (cy (c_noSet (d + 6) _ _) (fun _ => ?_) (fun h2 => absurd h h2))⟩
  exact e1 (ca (c_rf1 (d + 8)) ⟨rfl, rfl⟩)
end M12
