/-! the class: giving -/
theorem fi_or {p : Nat → Bool} : ∀ (j k : Nat), fi p j k = -9 ∨ ∃ i, k ≤ i ∧ i < k + j ∧ p i = true ∧ fi p j k = nI i
  | 0, _ => Or.inl rfl
  | j + 1, k => by
    rw [fi]
    by_cases h : p k = true
    · rw [if_pos h]
      exact Or.inr ⟨k, Nat.le_refl _, by omega, h, rfl⟩
    · rw [if_neg h]
      rcases fi_or (p := p) j (k + 1) with h2 | ⟨i, h1, h2, h3, h4⟩
      · exact Or.inl h2
      · exact Or.inr ⟨i, by omega, by omega, h3, h4⟩
theorem fi_TK (p : Nat → Bool) : TK (fi p 90 0) := by
  rcases fi_or (p := p) 90 0 with h | ⟨i, _, h2, _, h4⟩
  · exact Or.inl h
  · exact Or.inr ⟨i, by omega, h4⟩
theorem fi_9 {p : Nat → Bool} : fi p 90 0 = -9 ↔ ∀ i, i < 90 → p i = false := by
  have h := fi_neg (p := p) 90 0 (by decide)
  refine ⟨fun e i hi => h.mp (by rw [e]; decide) i (Nat.zero_le _) (by omega), fun e => fi_none 90 0 (fun i _ h2 => e i (by omega))⟩
/-- the least meaning of the first of some words, the others having theirs -/
def lm (p : Nat → Bool) (r : List (Nat → Bool)) (t b : Int32) (m : Nat) : Bool := q1 p t b m && decide (0 < WW r (nI m) t)
theorem lm_WW {p : Nat → Bool} {r : List (Nat → Bool)} {t b : Int32} : fi (lm p r t b) 90 0 = -9 ↔ ¬ 0 < WW (p :: r) t b := by
  rw [fi_9, WW]
  constructor
  · intro h hc
    have h0 : fb_sm (fun m => if q1 p t b m = true then WW r (nI m) t else 0) 90 = 0 := by
      rw [fb_sm_cong (g := fun _ => 0) (fun k hk => ?_), fb_sm_const]
      have := h k hk
      unfold lm at this
      cases hq : q1 p t b k
      · rfl
      · rw [hq, Bool.true_and] at this
        have := of_decide_eq_false this
        show (if true = true then _ else _) = 0
        rw [if_pos rfl]
        omega
    omega
  · intro h i hi
    have h0 : fb_sm (fun m => if q1 p t b m = true then WW r (nI m) t else 0) 90 = 0 := by omega
    have h1 := fb_sm_zero h0 i hi
    unfold lm
    cases hq : q1 p t b i
    · rfl
    · rw [hq, if_pos rfl] at h1
      rw [h1]
      rfl
def ff (f : Nat → Nat → Bool) (x : Nat) : List Nat → Int32 → Int32 → Int32
  | [], _, _ => -9
  | w :: r, t, b => if fi (lm (f w) (r.map f) t b) 90 0 = -9 ∨ w = x then fi (lm (f w) (r.map f) t b) 90 0 else ff f x r (fi (lm (f w) (r.map f) t b) 90 0) t
/-- from the k-th word on -/
def hb (v k : Nat) : Nat := v / 2 ^ k * 2 ^ k
theorem hb_lt : ∀ v, v < 64 → ∀ k, k < 7 → hb v k < 64 := by decide +kernel
theorem hb_y : ∀ v, v < 64 → ∀ k, k < 6 → v.testBit k = true → (nI (hb v k) &&& (((1 : Int32) <<< (nI k &&& 31)) ^^^ (-1)) = nI (hb v (k + 1)) ∧ wl (hb v k) = k :: wl (hb v (k + 1))) := by decide +kernel
theorem hb_n : ∀ v, v < 64 → ∀ k, k < 6 → v.testBit k = false → hb v (k + 1) = hb v k := by decide +kernel
theorem hb_6 : ∀ v, v < 64 → wl (hb v 6) = [] := by decide +kernel
theorem hb_0 (v : Nat) : hb v 0 = v := by unfold hb; simp
theorem hb_sub : ∀ v, v < 64 → ∀ k, k < 7 → ∀ w ∈ wl (hb v k), w ∈ wl v := by decide +kernel
theorem hb_len : ∀ v, v < 64 → (wl v).length ≤ 3 → ∀ k, k < 7 → (wl (hb v k)).length ≤ 3 := by decide +kernel
theorem WW_b {r : List (Nat → Bool)} (h : r.length ≤ 2) (t b : Int32) : WW r t b ≤ 8100 := by
  match r, h with
  | [], _ => exact (by decide : 1 ≤ 8100)
  | [p], _ => exact Nat.le_trans (WW_le1 p t b) (by decide)
  | [p, q], _ => exact WW_le p q t b
section M13
variable {L : Nat} {xs : Nat → Int32} {A I : Nat → Nat → Int32} {F : Nat → Nat → Option Nat} {P : mm_M} {n : Nat} {H S : Nat → Nat → Bool}
theorem c_lf_loop {d : Nat} {B : Nat × Nat} {Q : mm_Q} (hC : CS n H S A I) {w v2 : Nat} {l : List Nat} (hw : w < 6) {t b : Int32} (ht : TK t) (hv2 : v2 < 64) (hl : wl v2 = l) (hlen : l.length ≤ 2) (hA : ∀ w, w ∈ l → A 34 w = nI (fb_ct (L0 n H S w) 90)) :
    ∀ (j k : Nat) (x : Int32), j + k = 90 → x = nI k → Q (some (.int (fi (lm (L0 n H S w) (l.map (L0 n H S)) t b) j k))) (gm L xs A I F P) →
      wp (d + 8) B cd_Giver_leastFor Q 3 [some (.ref 33), some (.int (nI w)), some (.int (nI v2)), some (.int t), some (.int b), some (.int x)] [] (gm L xs A I F P) := by
  intro j
  induction j with
  | zero =>
    intro k x hk hx hq
    exact mm_WP.go [3] 100 (lp_ge (N := 90) hx rfl (by omega) (by omega) (fun h => hq) (fun h => absurd h (by omega)))
  | succ j ih =>
    intro k x hk hx hq
    refine mm_WP.go [3] 100 (lp_ge (N := 90) hx rfl (by omega) (by omega) (fun h => absurd h (by omega)) (fun _ => ?_))
    subst hx
    have no : lm (L0 n H S w) (l.map (L0 n H S)) t b k = false → Q (some (.int (fi (lm (L0 n H S w) (l.map (L0 n H S)) t b) j (k + 1)))) (gm L xs A I F P) := by
      intro h
      rw [fi, h] at hq
      exact hq
    refine ⟨fun c => ?_, fun c => ⟨fun c2 => ?_, fun c2 => ?_⟩⟩
    · refine ih (k + 1) _ (by omega) (nI_1 k) (no ?_)
      unfold lm q1
      rw [decide_eq_true c]
      simp
    · refine ih (k + 1) _ (by omega) (nI_1 k) (no ?_)
      unfold lm q1
      rw [decide_eq_true c2]
      simp
    · refine cy (c_isLeft (d + 6) hC hw (by omega) 0) (fun h => ?_) (fun h => ?_)
      · have h2 := c_ways (L := L) (xs := xs) (F := F) (P := P) hC l (d + 3 - l.length) v2 (nI k) t hv2 hl (Or.inr ⟨k, by omega, rfl⟩) ht (fun h => absurd h c) hA
        rw [show d + 3 - l.length + l.length + 5 = d + 8 by omega] at h2
        refine e1 (ca h2 ?_)
        have hb := WW_b (r := l.map (L0 n H S)) (by rw [List.length_map]; exact hlen) (nI k) t
        have e : q1 (L0 n H S w) t b k = true := by
          unfold q1
          rw [decide_eq_false c, decide_eq_false c2, show L0 n H S w k = true from Lp_iff.mpr h]
          rfl
        refine ⟨fun c3 => ?_, fun c3 => ?_⟩
        · have h0 : WW (l.map (L0 n H S)) (nI k) t ≤ 0 := (nI_leI (b := 0) (by omega) (by omega)).mp c3
          refine ih (k + 1) _ (by omega) (nI_1 k) (no ?_)
          unfold lm
          rw [e, decide_eq_false (by omega)]
          rfl
        · have h0 : 0 < WW (l.map (L0 n H S)) (nI k) t := by
            rcases Nat.lt_or_ge 0 (WW (l.map (L0 n H S)) (nI k) t) with h | h
            · exact h
            · exact absurd ((nI_leI (b := 0) (by omega) (by omega)).mpr h) c3
          rw [fi, if_pos (show lm (L0 n H S w) (l.map (L0 n H S)) t b k = true by unfold lm; rw [e, decide_eq_true h0]; rfl)] at hq
          exact hq
      · refine e0 (ih (k + 1) _ (by omega) (nI_1 k) (no ?_))
        have e : L0 n H S w k = false := by
          cases hh : L0 n H S w k
          · rfl
          · exact absurd (Lp_iff.mp hh) h
        unfold lm q1
        rw [e]
        simp
theorem c_leastFor (d : Nat) (hC : CS n H S A I) {w v2 : Nat} {l : List Nat} (hw : w < 6) {t b : Int32} (ht : TK t) (hv2 : v2 < 64) (hl : wl v2 = l) (hlen : l.length ≤ 2) (hA : ∀ w, w ∈ l → A 34 w = nI (fb_ct (L0 n H S w) 90)) :
    sp (d + 9) 18 [.ref 33, .int (nI w), .int (nI v2), .int t, .int b] (gm L xs A I F P) (ans (gm L xs A I F P) (fi (lm (L0 n H S w) (l.map (L0 n H S)) t b) 90 0)) := by
  refine ⟨⟨_, rfl⟩, rfl, mm_WP.go [3] 100 ?_⟩
  exact c_lf_loop hC hw ht hv2 hl hlen hA 90 0 _ rfl rfl ⟨rfl, rfl⟩
theorem c_ff_loop {d : Nat} {B : Nat × Nat} {Q : mm_Q} (hC : CS n H S A I) {v x : Nat} (hv : v < 64) (hx : x < 6) (hlen : (wl v).length ≤ 3) (hA : ∀ w, w ∈ wl v → A 34 w = nI (fb_ct (L0 n H S w) 90)) :
    ∀ (j k : Nat) (z t b : Int32) (u : Option Value), j + k = 6 → z = nI k → TK t → Q (some (.int (ff (L0 n H S) x (wl (hb v k)) t b))) (gm L xs A I F P) →
      wp (d + 9) B cd_Giver_firstFor Q 18 [some (.ref 33), some (.int (nI v)), some (.int (nI x)), some (.int t), some (.int b), some (.int (nI (hb v k))), some (.int z), u] [] (gm L xs A I F P) := by
  intro j
  induction j with
  | zero =>
    intro k z t b u hk hz ht hq
    refine mm_WP.go [18] 100 (lp_ge (N := 6) hz rfl (by omega) (by omega) (fun h => ?_) (fun h => absurd h (by omega)))
    subst h
    rw [hb_6 v hv] at hq
    exact hq
  | succ j ih =>
    intro k z t b u hk hz ht hq
    refine mm_WP.go [18, 43] 100 (lp_ge (N := 6) hz rfl (by omega) (by omega) (fun h => absurd h (by omega)) (fun _ => ?_))
    subst hz
    refine cy (c_isIn (d + 8) (by omega) (by omega) _) (fun h => ?_) (fun h => ?_)
    · obtain ⟨y1, y2⟩ := hb_y v hv k (by omega) h
      refine e1 ?_
      show wp (d + 9) B cd_Giver_firstFor Q 43 [some (.ref 33), some (.int (nI v)), some (.int (nI x)), some (.int t), some (.int b), some (.int (nI (hb v k))), some (.int (nI k)), u] [.int (nI (hb v k) &&& (((1 : Int32) <<< (nI k &&& 31)) ^^^ (-1)))] (gm L xs A I F P)
      rw [y1]
      have hlen2 : (wl (hb v (k + 1))).length ≤ 2 := by
        have := hb_len v hv hlen k (by omega)
        rw [y2, List.length_cons] at this
        omega
      refine mm_WP.go [18] 100 (ca (c_leastFor d hC (by omega) ht (hb_lt v hv (k + 1) (by omega)) rfl hlen2 (fun w hw => hA w (hb_sub v hv (k + 1) (by omega) w hw))) ?_)
      rw [y2, ff] at hq
      refine ⟨fun c => ?_, fun c => ⟨fun c2 => ?_, fun c2 => ?_⟩⟩
      · rw [if_pos (Or.inl c)] at hq
        exact hq
      · have hne : ¬ k = x := fun h => c2 (by rw [h])
        rw [if_neg (by rintro (h | h); exact c h; exact hne h)] at hq
        exact ih (k + 1) _ _ _ _ (by omega) (nI_1 k) (fi_TK _) hq
      · rw [if_pos (Or.inr ((nI_eq (by omega) (by omega)).mp c2))] at hq
        exact hq
    · have h2 := hb_n v hv k (by omega) (by simpa using h)
      have h3 := ih (k + 1) _ t b u (by omega) (nI_1 k) ht (by rw [h2]; exact hq)
      rw [h2] at h3
      exact e0 h3
theorem c_firstFor (d : Nat) (hC : CS n H S A I) {v x : Nat} (hv : v < 64) (hx : x < 6) (hlen : (wl v).length ≤ 3) : sp (d + 10) 17 [.ref 33, .int (nI v), .int (nI x)] (gm L xs A I F P) (ans (gm L xs (A34 n H S v A) I F P) (ff (L0 n H S) x (wl v) (-9) (-9))) := by
  refine ⟨⟨_, rfl⟩, rfl, mm_WP.go [18] 100 (ca (c_countLefts (d + 5) hC hv) ?_)⟩
  have h := c_ff_loop (L := L) (xs := xs) (A := A34 n H S v A) (I := I) (F := F) (P := P) (d := d) (B := mm_Al 17) (Q := ans (gm L xs (A34 n H S v A) I F P) (ff (L0 n H S) x (wl v) (-9) (-9))) (n := n) (H := H) (S := S) hC hv hx hlen (fun w hw => A34_lc hv hw) 6 0 _ (-9) (-9) none rfl rfl (Or.inl rfl) (by rw [hb_0]; exact ⟨rfl, rfl⟩)
  rw [hb_0] at h
  exact h
theorem c_giving (d : Nat) {v x : Nat} (hC : CS n H S A I) (h1 : 1 ≤ v) (hv : v < 64) (h3 : (wl v).length ≤ 3) (hx : x < 6) (hb : v.testBit x = true) : sp (d + 11) 97 [.ref 6, .int (nI v), .int (nI x)] (gm L xs A I F P) (ans (gm L xs (A34 n H S v A) I F P) (ff (L0 n H S) x (wl v) (-9) (-9))) := by
  refine ⟨⟨_, rfl⟩, rfl, mm_WP.go [] 100 (cy (c_noSet (d + 7) _ _) (fun h => absurd ((GS_iff h1 hv).mpr h3) h) (fun _ => ?_))⟩
  refine n0 (cy (c_noWord (d + 9) _ _) (fun h => absurd (ix_n (N := 6) (by decide) hx).1 h) (fun _ => ?_))
  refine n0 (cy (c_isIn (d + 9) (by omega) (by omega) _) (fun _ => ?_) (fun h => absurd hb h))
  exact n1 (ca (c_firstFor d hC hv hx h3) ⟨rfl, rfl⟩)
theorem c_giving_r (d : Nat) {w x : Int32} (hh : ¬ ∃ v y, 1 ≤ v ∧ v < 64 ∧ (wl v).length ≤ 3 ∧ y < 6 ∧ v.testBit y = true ∧ w = nI v ∧ x = nI y) : sp (d + 11) 97 [.ref 6, .int w, .int x] (gm L xs A I F P) (rC L xs A I F P 1 (-1)) := by
  refine ⟨⟨_, rfl⟩, rfl, mm_WP.go [] 100 (cy (c_noSet (d + 7) _ _) (fun h => ?_) (fun h => ?_))⟩
  · exact n1 (ca (c_rf1 (d + 9)) ⟨rfl, rfl⟩)
  · obtain ⟨v, h1, hv, rfl, h3⟩ := Classical.not_not.mp h
    refine n0 (cy (c_noWord (d + 9) _ _) (fun h => ?_) (fun h => ?_))
    · exact n1 (ca (c_rf1 (d + 9)) ⟨rfl, rfl⟩)
    · obtain ⟨y, hy, rfl⟩ := vp_in_of (Classical.not_not.mp h) (by decide)
      refine n0 (cy (c_isIn (d + 9) (by omega) (by omega) _) (fun h => ?_) (fun h => ?_))
      · exact absurd ⟨v, y, h1, hv, h3, hy, h, rfl, rfl⟩ hh
      · exact n0 (ca (c_rf1 (d + 9)) ⟨rfl, rfl⟩)
end M13
