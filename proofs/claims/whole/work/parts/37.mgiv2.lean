/-! the reference: giving -/
def SQ (f : Nat → Nat → Bool) : List Nat → (Nat → Int32) → Nat → Int32 → Int32 → Prop
  | [], _, _, _, _ => True
  | w :: r, g, o, t, b => g o = fi (lm (f w) (r.map f) t b) 90 0 ∧ ¬ g o = -9 ∧ SQ f r g (o + 1) (g o) t
theorem L0_ff {n : Nat} {H S : Nat → Nat → Bool} {w m : Nat} (h : ¬ (lf n H S w m : Int) ≤ (0 : Int32).toInt) : L0 n H S w m = false := by
  cases hh : L0 n H S w m
  · rfl
  · exact absurd (Lp_iff.mp hh) h
theorem lm_nil {p : Nat → Bool} {t b : Int32} {m : Nat} : lm p [] t b m = q1 p t b m := by
  unfold lm
  rw [show WW [] (nI m) t = 1 from rfl]
  simp
section M15
variable {L : Nat} {xs : Nat → Int32} {A I : Nat → Nat → Int32} {F : Nat → Nat → Option Nat} {P : mm_M} {n : Nat} {H S : Nat → Nat → Bool}
theorem m_ol_loop {d : Nat} {B : Nat × Nat} {Q : mm_Q} (hR : RS n H S A I) {w : Nat} (hw : w < 6) (hA : A 51 2 = nI w)
    (hq0 : fi (lm (L0 n H S w) [] (A 52 1) (A 52 0)) 90 0 = -9 → Q (some (.int 0)) (gm L xs A I F P)) (hq1 : ∀ i, i < 90 → fi (lm (L0 n H S w) [] (A 52 1) (A 52 0)) 90 0 = nI i → Q (some (.int 1)) (gm L xs (uR A 52 (upd (A 52) 2 (nI i))) I F P)) :
    ∀ (j k : Nat) (x : Int32), j + k = 90 → x = nI k → fi (lm (L0 n H S w) [] (A 52 1) (A 52 0)) 90 0 = fi (lm (L0 n H S w) [] (A 52 1) (A 52 0)) j k →
      wp (d + 1) B cd_Model_isOneLeft Q 2 [some (.ref 38), some (.int (nI 2)), some (.int x)] [] (gm L xs A I F P) := by
  intro j
  induction j with
  | zero =>
    intro k x hk hx hf
    exact mm_WP.go [2] 100 (lp_ge (N := 90) hx rfl (by omega) (by omega) (fun h => ⟨rfl, hq0 hf⟩) (fun h => absurd h (by omega)))
  | succ j ih =>
    intro k x hk hx hf
    refine mm_WP.go [2] 100 (lp_ge (N := 90) hx rfl (by omega) (by omega) (fun h => absurd h (by omega)) (fun _ => ?_))
    subst hx
    have hi := ix_n (w := 2) (N := 3) (by decide) (by omega)
    have no : lm (L0 n H S w) [] (A 52 1) (A 52 0) k = false → fi (lm (L0 n H S w) [] (A 52 1) (A 52 0)) 90 0 = fi (lm (L0 n H S w) [] (A 52 1) (A 52 0)) j (k + 1) := by
      intro h
      rw [hf, fi, h]
      rfl
    refine ⟨hi.1, ?_⟩
    rw [show A 51 ((nI 2).toNatClampNeg) = nI w from hA]
    refine cy (m_isLeft d hR hw (by omega) 0) (fun h => e1 ?_) (fun h => e0 ?_)
    · have h1 : L0 n H S w k = true := Lp_iff.mpr h
      refine ⟨vp_in_iff.mpr (by decide), fun c => ?_, fun c => ⟨vp_in_iff.mpr (by decide), fun c2 => ?_, fun c2 => ?_⟩⟩
      · refine ih (k + 1) _ (by omega) (nI_1 k) (no ?_)
        rw [lm_nil]
        unfold q1
        rw [decide_eq_true (show nI k = A 52 0 from c.symm)]
        simp
      · refine ih (k + 1) _ (by omega) (nI_1 k) (no ?_)
        rw [lm_nil]
        unfold q1
        rw [decide_eq_true (show nI k = A 52 1 from c2.symm)]
        simp
      · have hk2 : lm (L0 n H S w) [] (A 52 1) (A 52 0) k = true := by
          rw [lm_nil]
          unfold q1
          rw [decide_eq_false (show ¬ nI k = A 52 0 from fun z => c z.symm), decide_eq_false (show ¬ nI k = A 52 1 from fun z => c2 z.symm), h1]
          rfl
        exact ⟨hi.1, rfl, hq1 k (by omega) (by rw [hf, fi, if_pos hk2])⟩
    · refine ih (k + 1) _ (by omega) (nI_1 k) (no ?_)
      rw [lm_nil]
      unfold q1
      rw [L0_ff h]
      simp
/-- behind one of the three: no giving, or the first -/
def gq (L : Nat) (xs : Nat → Int32) (A I : Nat → Nat → Int32) (F : Nat → Nat → Option Nat) (P : mm_M) (f : Nat → Nat → Bool) (l : List Nat) (o : Nat) (t b : Int32) : mm_Q := fun r m => ∃ g, m = gm L xs (uR A 52 g) I F P ∧ (∀ i, i < o → g i = A 52 i) ∧ (r = some (.int 0) ∧ ¬ 0 < WW (l.map f) t b ∨ r = some (.int 1) ∧ 0 < WW (l.map f) t b ∧ SQ f l g o t b)
theorem m_isOneLeft (d : Nat) (hR : RS n H S A I) {w : Nat} (hw : w < 6) (hA : A 51 2 = nI w) {x : Int32} (hx : x = nI 2) : sp (d + 2) 158 [.ref 38, .int x] (gm L xs A I F P) (gq L xs A I F P (L0 n H S) [w] 2 (A 52 1) (A 52 0)) := by
  subst hx
  refine ⟨⟨_, rfl⟩, rfl, mm_WP.go [2] 100 ?_⟩
  refine m_ol_loop hR hw hA (fun h => ?_) (fun i hi h => ?_) 90 0 _ rfl rfl rfl
  · refine ⟨A 52, by rw [uR_self], fun _ _ => rfl, Or.inl ⟨rfl, ?_⟩⟩
    exact lm_WW.mp h
  · have h9 : ¬ fi (lm (L0 n H S w) [] (A 52 1) (A 52 0)) 90 0 = -9 := by rw [h]; exact nI_n9 (by omega)
    refine ⟨_, rfl, fun j hj => ?_, Or.inr ⟨rfl, Classical.not_not.mp (fun z => h9 (lm_WW.mpr z)), ?_, ?_, trivial⟩⟩
    · rw [upd_at, if_neg (by omega)]
    · rw [upd_at, if_pos rfl]
      exact h.symm
    · rw [upd_at, if_pos rfl]
      exact nI_n9 (by omega)
theorem m_ch_loop {d : Nat} {B : Nat × Nat} {Q : mm_Q} (hR : RS n H S A I) {w : Nat} {rs : List Nat} (hw : w < 6) (hrs : rs = [] ∨ ∃ w2, rs = [w2] ∧ w2 < 6 ∧ A 51 2 = nI w2) (hA : A 51 1 = nI w) (hI : I 38 21 = nI (rs.length + 2)) {t0 : Int32}
    (hq0 : fi (lm (L0 n H S w) (rs.map (L0 n H S)) t0 (-9)) 90 0 = -9 → ∀ g : Nat → Int32, g 0 = t0 → Q (some (.int 0)) (gm L xs (uR A 52 g) I F P)) (hq1 : ∀ g : Nat → Int32, g 0 = t0 → SQ (L0 n H S) (w :: rs) g 1 t0 (-9) → Q (some (.int 1)) (gm L xs (uR A 52 g) I F P)) :
    ∀ (j k : Nat) (x : Int32) (g : Nat → Int32) (u u2 : Option Value), j + k = 90 → x = nI k → g 0 = t0 → fi (lm (L0 n H S w) (rs.map (L0 n H S)) t0 (-9)) 90 0 = fi (lm (L0 n H S w) (rs.map (L0 n H S)) t0 (-9)) j k →
      wp (d + 2) B cd_Model_canHave Q 2 [some (.ref 38), some (.int 1), some (.int x), u, u2] [] (gm L xs (uR A 52 g) I F P) := by
  intro j
  induction j with
  | zero =>
    intro k x g u u2 hk hx hg hf
    exact mm_WP.go [2] 100 (lp_ge (N := 90) hx rfl (by omega) (by omega) (fun h => ⟨rfl, hq0 hf g hg⟩) (fun h => absurd h (by omega)))
  | succ j ih =>
    intro k x g u u2 hk hx hg hf
    refine mm_WP.go [2] 100 (lp_ge (N := 90) hx rfl (by omega) (by omega) (fun h => absurd h (by omega)) (fun _ => ?_))
    subst hx
    have no : lm (L0 n H S w) (rs.map (L0 n H S)) t0 (-9) k = false → fi (lm (L0 n H S w) (rs.map (L0 n H S)) t0 (-9)) 90 0 = fi (lm (L0 n H S w) (rs.map (L0 n H S)) t0 (-9)) j (k + 1) := by
      intro h
      rw [hf, fi, h]
      rfl
    refine ⟨vp_in_iff.mpr (by decide), ?_⟩
    rw [show uR A 52 g 51 ((1 : Int32).toNatClampNeg) = nI w from hA]
    refine cy (m_isLeft (A := uR A 52 g) (d + 1) hR hw (by omega) 0) (fun h => ?_) (fun h => ?_)
    · have h1 : L0 n H S w k = true := Lp_iff.mpr h
      refine ⟨fun c => absurd c (by decide), fun _ => e1 ⟨vp_in_iff.mpr (by decide), fun c => ?_, fun c => ?_⟩⟩
      · refine ⟨fun _ => e0 (ih (k + 1) _ g _ _ (by omega) (nI_1 k) hg (no ?_)), fun c => absurd (by decide) c⟩
        unfold lm q1
        rw [decide_eq_true (show nI k = t0 from (hg.symm.trans c).symm)]
        simp
      · have hne : ¬ nI k = t0 := fun z => c (show g 0 = nI k from hg.trans z.symm)
        have hq : q1 (L0 n H S w) t0 (-9) k = true := by
          unfold q1
          rw [decide_eq_false hne, decide_eq_false (nI_n9 (by omega)), h1]
          rfl
        have hu0 : (upd g 1 (nI k)) 0 = t0 := by rw [upd_at, if_neg (by decide)]; exact hg
        have hu1 : (upd g 1 (nI k)) 1 = nI k := by rw [upd_at, if_pos rfl]
        refine ⟨fun _ => e1 ⟨vp_in_iff.mpr (by decide), ?_⟩, fun c => absurd (by decide) c⟩
        rcases hrs with rfl | ⟨w2, rfl, hw2, hA2⟩
        · have hlm : lm (L0 n H S w) (([] : List Nat).map (L0 n H S)) t0 (-9) k = true := by rw [List.map_nil, lm_nil]; exact hq
          refine ⟨fun _ => ⟨rfl, hq1 (upd g 1 (nI k)) hu0 ⟨?_, ?_, trivial⟩⟩, fun c => absurd (show (1 : Int32) + 1 = I 38 21 by rw [hI]; rfl) c⟩
          · rw [hu1]
            exact (by rw [hf, fi, if_pos hlm] : fi (lm (L0 n H S w) (([] : List Nat).map (L0 n H S)) t0 (-9)) 90 0 = nI k).symm
          · rw [hu1]
            exact nI_n9 (by omega)
        · refine ⟨fun c => absurd (show nI 2 = nI 3 from c.trans hI) (by decide), fun _ => ⟨_, m_isOneLeft (A := uR A 52 (upd g 1 (nI k))) d hR hw2 hA2 rfl, ?_⟩⟩
          rintro r m ⟨g2, rfl, hg2, hr⟩
          rw [uR_uR]
          have k0 : g2 0 = t0 := (hg2 0 (by decide)).trans hu0
          have k1 : g2 1 = nI k := (hg2 1 (by decide)).trans hu1
          have e0' : uR A 52 (upd g 1 (nI k)) 52 0 = t0 := hu0
          have e1' : uR A 52 (upd g 1 (nI k)) 52 1 = nI k := hu1
          rw [e0', e1'] at hr
          rcases hr with ⟨rfl, hz⟩ | ⟨rfl, hz, hs⟩
          · refine e0 (ih (k + 1) _ g2 _ _ (by omega) (nI_1 k) k0 (no ?_))
            unfold lm
            rw [hq, decide_eq_false hz]
            rfl
          · refine e1 ⟨rfl, hq1 g2 k0 ⟨?_, ?_, ?_⟩⟩
            · rw [k1, hf, fi, if_pos]
              unfold lm
              rw [hq, decide_eq_true hz]
              rfl
            · rw [k1]
              exact nI_n9 (by omega)
            · rw [k1]
              exact hs
    · refine ⟨fun c => absurd c (by decide), fun _ => e0 ⟨fun _ => e0 (ih (k + 1) _ g _ _ (by omega) (nI_1 k) hg (no ?_)), fun c => absurd (by decide) c⟩⟩
      unfold lm q1
      rw [L0_ff h]
      simp
theorem m_canHave (d : Nat) (hR : RS n H S A I) {w : Nat} {rs : List Nat} (hw : w < 6) (hrs : rs = [] ∨ ∃ w2, rs = [w2] ∧ w2 < 6 ∧ A 51 2 = nI w2) (hA : A 51 1 = nI w) (hI : I 38 21 = nI (rs.length + 2)) {x : Int32} (hx : x = 1) : sp (d + 3) 157 [.ref 38, .int x] (gm L xs A I F P) (gq L xs A I F P (L0 n H S) (w :: rs) 1 (A 52 0) (-9)) := by
  subst hx
  refine ⟨⟨_, rfl⟩, rfl, mm_WP.go [2] 100 ?_⟩
  have h := m_ch_loop (L := L) (xs := xs) (F := F) (P := P) (d := d) (B := mm_Al 157) (Q := gq L xs A I F P (L0 n H S) (w :: rs) 1 (A 52 0) (-9)) hR hw hrs hA hI (t0 := A 52 0) (fun h g hg => ?_) (fun g hg hs => ?_) 90 0 _ (A 52) none none rfl rfl rfl rfl
  · rw [uR_self] at h
    exact h
  · refine ⟨g, rfl, fun i hi => ?_, Or.inl ⟨rfl, lm_WW.mp h⟩⟩
    have : i = 0 := by omega
    subst this
    exact hg
  · refine ⟨g, rfl, fun i hi => ?_, Or.inr ⟨rfl, Classical.not_not.mp (fun z => ?_), hs⟩⟩
    · have : i = 0 := by omega
      subst this
      exact hg
    · exact hs.2.1 (hs.1.trans (lm_WW.mpr z))
theorem m_ff_loop {d : Nat} {B : Nat × Nat} {Q : mm_Q} (hR : RS n H S A I) {w : Nat} {rs : List Nat} (hw : w < 6)
    (hrs : rs = [] ∨ ∃ w1 r2, rs = w1 :: r2 ∧ w1 < 6 ∧ A 51 1 = nI w1 ∧ (r2 = [] ∨ ∃ w2, r2 = [w2] ∧ w2 < 6 ∧ A 51 2 = nI w2)) (hA : A 51 0 = nI w) (hI : I 38 21 = nI (rs.length + 1))
    (hq0 : fi (lm (L0 n H S w) (rs.map (L0 n H S)) (-9) (-9)) 90 0 = -9 → ∀ g : Nat → Int32, Q (some (.int 0)) (gm L xs (uR A 52 g) I F P)) (hq1 : ∀ g : Nat → Int32, SQ (L0 n H S) (w :: rs) g 0 (-9) (-9) → Q (some (.int 1)) (gm L xs (uR A 52 g) I F P)) :
    ∀ (j k : Nat) (x : Int32) (g : Nat → Int32) (u u2 : Option Value), j + k = 90 → x = nI k → fi (lm (L0 n H S w) (rs.map (L0 n H S)) (-9) (-9)) 90 0 = fi (lm (L0 n H S w) (rs.map (L0 n H S)) (-9) (-9)) j k →
      wp (d + 3) B cd_Model_findFirst Q 2 [some (.ref 38), some (.int 0), some (.int x), u, u2] [] (gm L xs (uR A 52 g) I F P) := by
  intro j
  induction j with
  | zero =>
    intro k x g u u2 hk hx hf
    exact mm_WP.go [2] 100 (lp_ge (N := 90) hx rfl (by omega) (by omega) (fun h => ⟨rfl, hq0 hf g⟩) (fun h => absurd h (by omega)))
  | succ j ih =>
    intro k x g u u2 hk hx hf
    refine mm_WP.go [2] 100 (lp_ge (N := 90) hx rfl (by omega) (by omega) (fun h => absurd h (by omega)) (fun _ => ?_))
    subst hx
    have no : lm (L0 n H S w) (rs.map (L0 n H S)) (-9) (-9) k = false → fi (lm (L0 n H S w) (rs.map (L0 n H S)) (-9) (-9)) 90 0 = fi (lm (L0 n H S w) (rs.map (L0 n H S)) (-9) (-9)) j (k + 1) := by
      intro h
      rw [hf, fi, h]
      rfl
    refine ⟨vp_in_iff.mpr (by decide), ?_⟩
    rw [show uR A 52 g 51 ((0 : Int32).toNatClampNeg) = nI w from hA]
    refine cy (m_isLeft (A := uR A 52 g) (d + 2) hR hw (by omega) 0) (fun h => ?_) (fun h => ?_)
    · have h1 : L0 n H S w k = true := Lp_iff.mpr h
      have hq : q1 (L0 n H S w) (-9) (-9) k = true := by rw [q1_9 (by omega)]; exact h1
      have hu : (upd g 0 (nI k)) 0 = nI k := by rw [upd_at, if_pos rfl]
      refine ⟨fun _ => e1 ⟨vp_in_iff.mpr (by decide), ?_⟩, fun c => absurd (by decide) c⟩
      rcases hrs with rfl | ⟨w1, r2, rfl, hw1, hA1, hr2⟩
      · have hlm : lm (L0 n H S w) (([] : List Nat).map (L0 n H S)) (-9) (-9) k = true := by rw [List.map_nil, lm_nil]; exact hq
        refine ⟨fun _ => ⟨rfl, hq1 (upd g 0 (nI k)) ⟨?_, ?_, trivial⟩⟩, fun c => absurd (show (0 : Int32) + 1 = I 38 21 by rw [hI]; rfl) c⟩
        · rw [hu]
          exact (by rw [hf, fi, if_pos hlm] : fi (lm (L0 n H S w) (([] : List Nat).map (L0 n H S)) (-9) (-9)) 90 0 = nI k).symm
        · rw [hu]
          exact nI_n9 (by omega)
      · refine ⟨fun c => ?_, fun _ => ⟨_, m_canHave (A := uR A 52 (upd g 0 (nI k))) d hR hw1 hr2 hA1 hI (by decide), ?_⟩⟩
        · have hl : r2.length ≤ 1 := by
            rcases hr2 with rfl | ⟨w2, rfl, _, _⟩
            · exact Nat.zero_le _
            · exact Nat.le_refl _
          have h2 : nI 1 = nI (r2.length + 2) := c.trans hI
          rw [nI_eq (by omega) (by omega)] at h2
          omega
        · rintro r m ⟨g2, rfl, hg2, hr⟩
          rw [uR_uR]
          have k0 : g2 0 = nI k := (hg2 0 (by decide)).trans hu
          have e0' : uR A 52 (upd g 0 (nI k)) 52 0 = nI k := hu
          rw [e0'] at hr
          rcases hr with ⟨rfl, hz⟩ | ⟨rfl, hz, hs⟩
          · refine e0 (ih (k + 1) _ g2 _ _ (by omega) (nI_1 k) (no ?_))
            unfold lm
            rw [hq, decide_eq_false hz]
            rfl
          · refine e1 ⟨rfl, hq1 g2 ⟨?_, ?_, ?_⟩⟩
            · rw [k0, hf, fi, if_pos]
              unfold lm
              rw [hq, decide_eq_true hz]
              rfl
            · rw [k0]
              exact nI_n9 (by omega)
            · rw [k0]
              exact hs
    · refine ⟨fun _ => e0 (ih (k + 1) _ g _ _ (by omega) (nI_1 k) (no ?_)), fun c => absurd (by decide) c⟩
      unfold lm q1
      rw [L0_ff h]
      simp
theorem m_findFirst (d : Nat) (hR : RS n H S A I) {w : Nat} {rs : List Nat} (hw : w < 6)
    (hrs : rs = [] ∨ ∃ w1 r2, rs = w1 :: r2 ∧ w1 < 6 ∧ A 51 1 = nI w1 ∧ (r2 = [] ∨ ∃ w2, r2 = [w2] ∧ w2 < 6 ∧ A 51 2 = nI w2)) (hA : A 51 0 = nI w) (hI : I 38 21 = nI (rs.length + 1)) : sp (d + 4) 156 [.ref 38, .int 0] (gm L xs A I F P) (gq L xs A I F P (L0 n H S) (w :: rs) 0 (-9) (-9)) := by
  refine ⟨⟨_, rfl⟩, rfl, mm_WP.go [2] 100 ?_⟩
  have h := m_ff_loop (L := L) (xs := xs) (F := F) (P := P) (d := d) (B := mm_Al 156) (Q := gq L xs A I F P (L0 n H S) (w :: rs) 0 (-9) (-9)) hR hw hrs hA hI (fun h g => ?_) (fun g hs => ?_) 90 0 _ (A 52) none none rfl rfl rfl
  · rw [uR_self] at h
    exact h
  · exact ⟨g, rfl, fun i hi => absurd hi (Nat.not_lt_zero i), Or.inl ⟨rfl, lm_WW.mp h⟩⟩
  · exact ⟨g, rfl, fun i hi => absurd hi (Nat.not_lt_zero i), Or.inr ⟨rfl, Classical.not_not.mp (fun z => hs.2.1 (hs.1.trans (lm_WW.mpr z))), hs⟩⟩
/-- the word's meaning among those found -/
def fd (ws : Nat → Nat) (g : Nat → Int32) (x : Nat) : Nat → Int32
  | 0 => -9
  | k + 1 => if ws k = x then g k else fd ws g x k
theorem fd_ff {f : Nat → Nat → Bool} {x w : Nat} {rs : List Nat} {g : Nat → Int32} (h3 : (w :: rs).length ≤ 3) (hmem : x ∈ w :: rs) (hnd : (w :: rs).Nodup) (hs : SQ f (w :: rs) g 0 (-9) (-9)) : fd (fun i => (w :: rs).getD i 0) g x (w :: rs).length = ff f x (w :: rs) (-9) (-9) := by
  rcases rs with _ | ⟨w1, _ | ⟨w2, _ | ⟨w3, r⟩⟩⟩
  · have : x = w := by simpa using hmem
    subst this
    rw [ff, if_pos (Or.inr rfl)]
    simp only [fd, List.length_cons, List.length_nil, List.getD_cons_zero]
    rw [if_pos trivial]
    exact hs.1
  · obtain ⟨s1, s2, s3, s4, -⟩ := hs
    have hne : ¬ w = w1 := by
      intro h
      rw [h] at hnd
      simp at hnd
    rw [ff, ← s1]
    simp only [fd, List.length_cons, List.length_nil, List.getD_cons_zero, List.getD_cons_succ]
    by_cases hx1 : w1 = x
    · rw [if_pos hx1, if_neg (by rintro (h | h); exact s2 h; exact hne (h.trans hx1.symm)), ff, if_pos (Or.inr hx1)]
      exact s3
    · have hx0 : w = x := by
        simp at hmem
        rcases hmem with h | h
        · exact h.symm
        · exact absurd h.symm hx1
      rw [if_neg hx1, if_pos hx0, if_pos (Or.inr hx0)]
  · obtain ⟨s1, s2, s3, s4, s5, s6, -⟩ := hs
    have hne : ¬ w = w1 ∧ ¬ w = w2 ∧ ¬ w1 = w2 := by
      simp at hnd
      exact ⟨hnd.1.1, hnd.1.2, hnd.2⟩
    rw [ff, ← s1]
    simp only [fd, List.length_cons, List.length_nil, List.getD_cons_zero, List.getD_cons_succ]
    by_cases hx2 : w2 = x
    · rw [if_pos hx2, if_neg (by rintro (h | h); exact s2 h; exact hne.2.1 (h.trans hx2.symm)), ff, ← s3, if_neg (by rintro (h | h); exact s4 h; exact hne.2.2 (h.trans hx2.symm)), ff, if_pos (Or.inr hx2)]
      exact s5
    · by_cases hx1 : w1 = x
      · rw [if_neg hx2, if_pos hx1, if_neg (by rintro (h | h); exact s2 h; exact hne.1 (h.trans hx1.symm)), ff, if_pos (Or.inr hx1)]
        exact s3
      · have hx0 : w = x := by
          simp at hmem
          rcases hmem with h | h | h
          · exact h.symm
          · exact absurd h.symm hx1
          · exact absurd h.symm hx2
        rw [if_neg hx2, if_neg hx1, if_pos hx0, if_pos (Or.inr hx0)]
  · simp at h3
theorem m_fd_loop {d : Nat} {B : Nat × Nat} {Q : mm_Q} {len x : Nat} {ws : Nat → Nat} {v : Int32} (hx : x < 6) (hl : len ≤ 3) (hI : I 38 21 = nI len) (hA : ∀ i, i < len → A 51 i = nI (ws i) ∧ ws i < 6) (hq : Q (some (.int (fd ws (A 52) x len))) (gm L xs A I F P)) :
    ∀ (j k : Nat) (z y : Int32), j + k = len → z = nI k → y = fd ws (A 52) x k → wp d B cd_Model_giving Q 51 [some (.ref 38), some (.int v), some (.int (nI x)), some (.int y), some (.int z)] [] (gm L xs A I F P) := by
  intro j
  induction j with
  | zero =>
    intro k z y hk hz hy
    refine mm_WP.go [51] 100 (lp_ge hz hI (by omega) (by omega) (fun h => ?_) (fun h => absurd h (by omega)))
    subst h
    rw [hy]
    exact hq
  | succ j ih =>
    intro k z y hk hz hy
    refine mm_WP.go [51] 100 (lp_ge hz hI (by omega) (by omega) (fun h => absurd h (by omega)) (fun _ => ?_))
    subst hz
    have hi := ix_n (w := k) (N := 3) (by decide) (by omega)
    obtain ⟨a1, a2⟩ := hA k (by omega)
    refine ⟨hi.1, ?_⟩
    rw [show A 51 ((nI k).toNatClampNeg) = nI (ws k) by rw [hi.2, a1]]
    refine ⟨fun c => ?_, fun c => ⟨hi.1, ?_⟩⟩
    · refine ih (k + 1) _ _ (by omega) (nI_1 k) ?_
      rw [fd, if_neg (fun h => c (by rw [h])), hy]
    · refine ih (k + 1) _ _ (by omega) (nI_1 k) ?_
      rw [fd, if_pos ((nI_eq (by omega) (by omega)).mp c), hi.2]
theorem m_giving (d : Nat) {v x : Nat} (hR : RS n H S A I) (h1 : 1 ≤ v) (hv : v < 64) (h3 : (wl v).length ≤ 3) (hx : x < 6) (hb : v.testBit x = true) : sp (d + 11) 155 [.ref 38, .int (nI v), .int (nI x)] (gm L xs A I F P) (fun r m => r = some (.int (ff (L0 n H S) x (wl v) (-9) (-9))) ∧ ∃ f g, m = gm L xs (uR (uR A 51 f) 52 g) (uI I 38 21 (nI (wl v).length)) F P) := by
  have hbit := sr_bit v hv x hx
  rw [hb] at hbit
  refine ⟨⟨_, rfl⟩, rfl, mm_WP.go [51] 100 (cy (m_isSet (d + 7) _ _ _ _ _ _ _) (fun _ => ?_) (fun h => absurd ((GS_iff h1 hv).mpr h3) h))⟩
  refine e1 (cy (m_isWord (d + 8) _ _) (fun _ => ?_) (fun h => absurd (ix_n (N := 6) (by decide) hx).1 h))
  refine e1 ⟨fun _ => ?_, fun c => absurd (hbit ▸ c) (by decide)⟩
  refine ⟨_, m_findWords (d + 9) hv h3, ?_⟩
  rintro r m ⟨rfl, f, hf, rfl⟩
  have hA : ∀ i, i < (wl v).length → (uR A 51 f) 51 i = nI ((wl v).getD i 0) ∧ (wl v).getD i 0 < 6 := fun i hi => ⟨hf i hi, wl_lt v hv _ (by
    rw [List.getD_eq_getElem?_getD, List.getElem?_eq_getElem hi]
    exact List.getElem_mem hi)⟩
  have hmem : x ∈ wl v := (wl_mem hx).mpr hb
  have hnd := wl_nd v hv
  generalize wl v = l at *
  match l, h3, hA, hmem, hnd with
  | [], _, _, hmem, _ => exact absurd hmem List.not_mem_nil
  | w :: rs, h3, hA, hmem, hnd =>
    have hrs : rs = [] ∨ ∃ w1 r2, rs = w1 :: r2 ∧ w1 < 6 ∧ (uR A 51 f) 51 1 = nI w1 ∧ (r2 = [] ∨ ∃ w2, r2 = [w2] ∧ w2 < 6 ∧ (uR A 51 f) 51 2 = nI w2) := by
      match rs, h3, hA with
      | [], _, _ => exact Or.inl rfl
      | [w1], _, hA => exact Or.inr ⟨w1, [], rfl, (hA 1 (by simp)).2, (hA 1 (by simp)).1, Or.inl rfl⟩
      | [w1, w2], _, hA => exact Or.inr ⟨w1, [w2], rfl, (hA 1 (by simp)).2, (hA 1 (by simp)).1, Or.inr ⟨w2, rfl, (hA 2 (by simp)).2, (hA 2 (by simp)).1⟩⟩
    refine ⟨_, m_findFirst (A := uR A 51 f) (I := uI I 38 21 (nI (w :: rs).length)) (d + 6) hR (hA 0 (Nat.succ_pos _)).2 hrs (hA 0 (Nat.succ_pos _)).1 rfl, ?_⟩
    rintro r m ⟨g, rfl, -, ⟨rfl, hz⟩ | ⟨rfl, hz, hs⟩⟩
    · refine n0 ⟨?_, f, g, rfl⟩
      have h9 : fi (lm (L0 n H S w) (rs.map (L0 n H S)) (-9) (-9)) 90 0 = -9 := lm_WW.mpr hz
      rw [ff, if_pos (Or.inl h9), h9]
    · refine n1 (m_fd_loop (A := uR (uR A 51 f) 52 g) (I := uI I 38 21 (nI (w :: rs).length)) (len := (w :: rs).length) (ws := fun i => (w :: rs).getD i 0) hx h3 rfl hA ?_ (w :: rs).length 0 _ _ rfl rfl rfl)
      refine ⟨?_, f, g, rfl⟩
      congr 2
      show fd (fun i => (w :: rs).getD i 0) g x (w :: rs).length = _
      exact fd_ff h3 hmem hnd hs
theorem m_giving_r (d : Nat) {w x : Int32} (hh : ¬ ∃ v y, 1 ≤ v ∧ v < 64 ∧ (wl v).length ≤ 3 ∧ y < 6 ∧ v.testBit y = true ∧ w = nI v ∧ x = nI y) : sp (d + 11) 155 [.ref 38, .int w, .int x] (gm L xs A I F P) (rM L xs A I F P 1 (-1)) := by
  refine ⟨⟨_, rfl⟩, rfl, mm_WP.go [] 100 (cy (m_isSet (d + 7) _ _ _ _ _ _ _) (fun h => ?_) (fun h => ?_))⟩
  · obtain ⟨v, h1, hv, rfl, h3⟩ := h
    refine e1 (cy (m_isWord (d + 8) _ _) (fun h => ?_) (fun h => ?_))
    · obtain ⟨y, hy, rfl⟩ := vp_in_of h (by decide)
      have hbit := sr_bit v hv y hy
      refine e1 ⟨fun c => ?_, fun c => ?_⟩
      · have ht := bI_1 (hbit ▸ c)
        exact absurd ⟨v, y, h1, hv, h3, hy, ht, rfl, rfl⟩ hh
      · exact ca (m_rf1 (d + 9)) ⟨rfl, rfl⟩
    · exact e0 (ca (m_rf1 (d + 9)) ⟨rfl, rfl⟩)
  · exact e0 (ca (m_rf1 (d + 9)) ⟨rfl, rfl⟩)
end M15
