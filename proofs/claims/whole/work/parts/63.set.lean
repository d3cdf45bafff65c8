/-! weight, set, give, of both -/
def stW (X : Tl) (k x : Nat) : Tl := (X.1, X.2.1, X.2.2.1, fun j => if j = k then x else xW X j, X.2.2.2.2)
def stH (X : Tl) (x : Nat) : Tl := (X.1, X.2.1, X.2.2.1, X.2.2.2.1, x, X.2.2.2.2.2)
def stM (X : Tl) (x : Nat) : Tl := (X.1, X.2.1, X.2.2.1, X.2.2.2.1, X.2.2.2.2.1, x, X.2.2.2.2.2.2)
def stG (X : Tl) (w : Nat) (g : Option Nat) : Tl := (X.1, X.2.1, X.2.2.1, X.2.2.2.1, X.2.2.2.2.1, X.2.2.2.2.2.1, fun j => if j = w then g else xG X j, X.2.2.2.2.2.2.2)
theorem i_rng {x : Int32} {lo hi : Nat} (h1 : ¬ x < nI lo) (h2 : ¬ nI hi < x) (hl : lo < 2 ^ 31) (hh : hi + 1 < 2 ^ 31) : ∃ k, lo ≤ k ∧ k ≤ hi ∧ x = nI k := by
  rw [fa_lt, nI_toInt hl] at h1
  rw [fa_lt, nI_toInt (by omega)] at h2
  obtain ⟨k, hk, rfl⟩ := vp_in_of (x := x) (n := hi + 1) (vp_in_iff.mpr ⟨by omega, by omega⟩) hh
  rw [nI_toInt (by omega)] at h1 h2
  exact ⟨k, by omega, by omega, rfl⟩
theorem upd_le {f : Nat → Int32} {g : Nat → Nat} {k x N : Nat} (h : ∀ j, j < N → f j = nI (g j)) : ∀ j, j < N → upd f k (nI x) j = nI (if j = k then x else g j) := by
  intro j hj
  rw [upd_at]
  by_cases c : j = k
  · rw [if_pos c, if_pos c]
  · rw [if_neg c, if_neg c]
    exact h j hj
section M38
variable {L : Nat} {xs : Nat → Int32} {A I : Nat → Nat → Int32} {F : Nat → Nat → Option Nat} {P : mm_M} {X : Tl} {Z : Option Tl} {t : Nat → Nat} {N : Nat} {rf : Nat → Int32}
theorem c_weight (d : Nat) (h : CI (X, Z, t, N, rf) A I F P) {k x : Nat} (hk : k < 8) (h1 : 1 ≤ x) (h9 : x ≤ 99) : sp (d + 2) 85 [.ref 6, .int (nI k), .int (nI x)] (gm L xs A I F P) (cQ L xs A I (stW X k x, Z, t, N, rf) (.int (nI (xW X k)))) := by
  obtain ⟨⟨a1, a2, a3, a4, a5, a6⟩, h2⟩ := h
  have ix := ix_n (w := k) (N := 8) (by decide) hk
  refine ⟨⟨_, rfl⟩, rfl, mm_WP.go [] 60 ⟨fun c => absurd c (nI_pos (by omega)), fun _ => ⟨fun _ => ⟨fun _ => ⟨fun _ => ⟨ix.1, ix.1, ?_⟩, fun c => absurd ?_ c⟩, fun c => absurd ?_ c⟩, fun c => absurd (nI_lt (b := 8) hk (by decide)) c⟩⟩⟩
  · refine ⟨congrArg (fun z => some (Value.int z)) ?_, uR A 28 (upd (A 28) ((nI k).toNatClampNeg) (nI x)), I, F, P, rfl, ⟨⟨a1, a2, a3, a4, ?_, a6⟩, h2⟩, sR.rf.r (by decide) _, tR.rf⟩
    · rw [ix.2]
      exact a5 k hk
    · rw [ix.2]
      exact upd_le a5
  · exact (nI_leI (b := 99) (by omega) (by omega)).mpr h9
  · exact (nI_leI (a := 1) (by omega) (by omega)).mpr h1
theorem c_weight_1 (d : Nat) {k v : Int32} (hk : ¬ vp_in k 8) : sp (d + 2) 85 [.ref 6, .int k, .int v] (gm L xs A I F P) (rC L xs A I F P 1 (-1)) :=
  ⟨⟨_, rfl⟩, rfl, mm_WP.go [] 60 ⟨fun _ => ca (c_rf1 d) ⟨rfl, rfl⟩, fun c => ⟨fun c2 => absurd ((vp_nlt (n := 8) (by decide)).mpr ⟨c, c2⟩) hk, fun _ => ca (c_rf1 d) ⟨rfl, rfl⟩⟩⟩⟩
theorem c_weight_4 (d : Nat) {k v : Int32} (hk : vp_in k 8) (hv : v < 1) : sp (d + 2) 85 [.ref 6, .int k, .int v] (gm L xs A I F P) (rC L xs A I F P 4 (-4)) := by
  obtain ⟨k1, k2⟩ := (vp_nlt (n := 8) (by decide)).mp hk
  exact ⟨⟨_, rfl⟩, rfl, mm_WP.go [] 60 ⟨fun c => absurd c k1, fun _ => ⟨fun _ => ⟨fun c => absurd c (Int32.not_le.mpr hv), fun _ => ca (c_rf4 d) ⟨rfl, rfl⟩⟩, fun c => absurd k2 c⟩⟩⟩
theorem c_weight_6 (d : Nat) {k v : Int32} (hk : vp_in k 8) (hv : ¬ v < 1) (h9 : 99 < v) : sp (d + 2) 85 [.ref 6, .int k, .int v] (gm L xs A I F P) (rC L xs A I F P 6 (-6)) := by
  obtain ⟨k1, k2⟩ := (vp_nlt (n := 8) (by decide)).mp hk
  exact ⟨⟨_, rfl⟩, rfl, mm_WP.go [] 60 ⟨fun c => absurd c k1, fun _ => ⟨fun _ => ⟨fun _ => ⟨fun c => absurd c (Int32.not_le.mpr h9), fun _ => ca (c_rf6 d) ⟨rfl, rfl⟩⟩, fun c => absurd (Int32.not_lt.mp hv) c⟩, fun c => absurd k2 c⟩⟩⟩
theorem in_07 {s : Int32} : ((0 : Int64) ≤ s.toInt64 ∧ s.toInt64 ≤ 7) ↔ vp_in s 8 := in_vp (b := 7) (n := 8) rfl
theorem m_weight (d : Nat) (h : RI (X, Z, t, N, rf) A I) {k x : Nat} (hk : k < 8) (h1 : 1 ≤ x) (h9 : x ≤ 99) : sp (d + 2) 138 [.ref 38, .int (nI k), .int (nI x)] (gm L xs A I F P) (mQ L xs A I F P (stW X k x, Z, t, N, rf) (.int (nI (xW X k)))) := by
  obtain ⟨⟨a1, a2, a3, a4, a5, a6⟩, h2⟩ := h
  have ix := ix_n (w := k) (N := 8) (by decide) hk
  refine ⟨⟨_, rfl⟩, rfl, mm_WP.go [] 60 (cy (m_in d _ _ _ _) (fun _ => n1 ⟨fun _ => ⟨fun _ => ⟨ix.1, ix.1, ?_⟩, fun c => absurd ?_ c⟩, fun c => absurd ?_ c⟩) (fun z => absurd (in_07.mpr ix.1) z))⟩
  · refine ⟨congrArg (fun z => some (Value.int z)) ?_, uR A 45 (upd (A 45) ((nI k).toNatClampNeg) (nI x)), I, rfl, ⟨⟨a1, a2, a3, a4, ?_, a6⟩, h2⟩, sC.rf.r (by decide) _, tC.rf⟩
    · rw [ix.2]
      exact a5 k hk
    · rw [ix.2]
      exact upd_le a5
  · exact (nI_leI (b := 99) (by omega) (by omega)).mpr h9
  · exact (nI_leI (a := 1) (by omega) (by omega)).mpr h1
theorem m_weight_1 (d : Nat) {k v : Int32} (hk : ¬ vp_in k 8) : sp (d + 2) 138 [.ref 38, .int k, .int v] (gm L xs A I F P) (rM L xs A I F P 1 (-1)) :=
  ⟨⟨_, rfl⟩, rfl, mm_WP.go [] 60 (cy (m_in d _ _ _ _) (fun z => absurd (in_07.mp z) hk) (fun _ => n0 (ca (m_rf1 d) ⟨rfl, rfl⟩)))⟩
theorem m_weight_4 (d : Nat) {k v : Int32} (hk : vp_in k 8) (hv : v < 1) : sp (d + 2) 138 [.ref 38, .int k, .int v] (gm L xs A I F P) (rM L xs A I F P 4 (-4)) :=
  ⟨⟨_, rfl⟩, rfl, mm_WP.go [] 60 (cy (m_in d _ _ _ _) (fun _ => n1 ⟨fun c => absurd c (Int32.not_le.mpr hv), fun _ => ca (m_rf4 d) ⟨rfl, rfl⟩⟩) (fun z => absurd (in_07.mpr hk) z))⟩
theorem m_weight_6 (d : Nat) {k v : Int32} (hk : vp_in k 8) (hv : ¬ v < 1) (h9 : 99 < v) : sp (d + 2) 138 [.ref 38, .int k, .int v] (gm L xs A I F P) (rM L xs A I F P 6 (-6)) :=
  ⟨⟨_, rfl⟩, rfl, mm_WP.go [] 60 (cy (m_in d _ _ _ _) (fun _ => n1 ⟨fun _ => ⟨fun c => absurd c (Int32.not_le.mpr h9), fun _ => ca (m_rf6 d) ⟨rfl, rfl⟩⟩, fun c => absurd (Int32.not_lt.mp hv) c⟩) (fun z => absurd (in_07.mpr hk) z))⟩
-- set
theorem c_set0 (d : Nat) (h : CI (X, Z, t, N, rf) A I F P) {x : Nat} (h1 : 1 ≤ x) (h9 : x ≤ 100) : sp (d + 2) 91 [.ref 6, .int 0, .int (nI x)] (gm L xs A I F P) (cQ L xs A I (stH X x, Z, t, N, rf) (.int (nI (xH X)))) := by
  obtain ⟨⟨a1, a2, a3, a4, a5, a6, a7⟩, h2⟩ := h
  refine ⟨⟨_, rfl⟩, rfl, mm_WP.go [] 60 (e0 (n0 ⟨fun _ => ⟨fun _ => n0 (n0 ⟨trivial, ?_⟩), fun c => absurd ?_ c⟩, fun c => absurd ?_ c⟩))⟩
  · exact ⟨congrArg (fun z => some (Value.int z)) a6, A, uI I 21 6 (nI x), F, P, rfl, ⟨⟨a1, a2, a3, a4, a5, rfl, a7⟩, h2⟩, sR.rf, tR.rf.i (by decide) _ _⟩
  · exact (nI_leI (b := 100) (by omega) (by omega)).mpr h9
  · exact (nI_leI (a := 1) (by omega) (by omega)).mpr h1
theorem c_set1 (d : Nat) (h : CI (X, Z, t, N, rf) A I F P) {x : Nat} (h9 : x ≤ 100) : sp (d + 2) 91 [.ref 6, .int 1, .int (nI x)] (gm L xs A I F P) (cQ L xs A I (stM X x, Z, t, N, rf) (.int (nI (xM X)))) := by
  obtain ⟨⟨a1, a2, a3, a4, a5, a6, a7, a8⟩, h2⟩ := h
  refine ⟨⟨_, rfl⟩, rfl, mm_WP.go [] 60 (e1 ⟨fun _ => n1 ⟨fun _ => ⟨fun _ => n1 (n1 ⟨trivial, ?_⟩), fun c => absurd ?_ c⟩, fun c => absurd (nI_pos' (by omega)) c⟩, fun c => absurd rfl c⟩)⟩
  · exact ⟨congrArg (fun z => some (Value.int z)) a7, A, uI I 21 7 (nI x), F, P, rfl, ⟨⟨a1, a2, a3, a4, a5, a6, rfl, a8⟩, h2⟩, sR.rf, tR.rf.i (by decide) _ _⟩
  · exact (nI_leI (b := 100) (by omega) (by omega)).mpr h9
theorem c_set_2 (d : Nat) {w v : Int32} (hw : ¬ vp_in w 2) : sp (d + 2) 91 [.ref 6, .int w, .int v] (gm L xs A I F P) (rC L xs A I F P 2 (-2)) :=
  ⟨⟨_, rfl⟩, rfl, mm_WP.go [] 60 ⟨fun c => absurd (vp2.mpr (Or.inl c)) hw, fun _ => ⟨fun c => absurd (vp2.mpr (Or.inr c)) hw, fun _ => ca (c_rf2 d) ⟨rfl, rfl⟩⟩⟩⟩
theorem c_set0_4 (d : Nat) {v : Int32} (hv : v < 1) : sp (d + 2) 91 [.ref 6, .int 0, .int v] (gm L xs A I F P) (rC L xs A I F P 4 (-4)) :=
  ⟨⟨_, rfl⟩, rfl, mm_WP.go [] 60 (e0 (n0 ⟨fun c => absurd c (Int32.not_le.mpr hv), fun _ => ca (c_rf4 d) ⟨rfl, rfl⟩⟩))⟩
theorem c_set1_4 (d : Nat) {v : Int32} (hv : v < 0) : sp (d + 2) 91 [.ref 6, .int 1, .int v] (gm L xs A I F P) (rC L xs A I F P 4 (-4)) :=
  ⟨⟨_, rfl⟩, rfl, mm_WP.go [] 60 (e1 ⟨fun _ => n1 ⟨fun c => absurd c (Int32.not_le.mpr hv), fun _ => ca (c_rf4 d) ⟨rfl, rfl⟩⟩, fun c => absurd rfl c⟩)⟩
theorem c_set0_6 (d : Nat) {v : Int32} (hv : ¬ v < 1) (h9 : 100 < v) : sp (d + 2) 91 [.ref 6, .int 0, .int v] (gm L xs A I F P) (rC L xs A I F P 6 (-6)) :=
  ⟨⟨_, rfl⟩, rfl, mm_WP.go [] 60 (e0 (n0 ⟨fun _ => ⟨fun c => absurd c (Int32.not_le.mpr h9), fun _ => ca (c_rf6 d) ⟨rfl, rfl⟩⟩, fun c => absurd (Int32.not_lt.mp hv) c⟩))⟩
theorem c_set1_6 (d : Nat) {v : Int32} (hv : ¬ v < 0) (h9 : 100 < v) : sp (d + 2) 91 [.ref 6, .int 1, .int v] (gm L xs A I F P) (rC L xs A I F P 6 (-6)) :=
  ⟨⟨_, rfl⟩, rfl, mm_WP.go [] 60 (e1 ⟨fun _ => n1 ⟨fun _ => ⟨fun c => absurd c (Int32.not_le.mpr h9), fun _ => ca (c_rf6 d) ⟨rfl, rfl⟩⟩, fun c => absurd (Int32.not_lt.mp hv) c⟩, fun c => absurd rfl c⟩)⟩
theorem in_00 : (0 : Int64) ≤ (0 : Int32).toInt64 ∧ (0 : Int32).toInt64 ≤ 1 := by decide
theorem in_11 : (0 : Int64) ≤ (1 : Int32).toInt64 ∧ (1 : Int32).toInt64 ≤ 1 := by decide
theorem m_set0 (d : Nat) (h : RI (X, Z, t, N, rf) A I) {x : Nat} (h1 : 1 ≤ x) (h9 : x ≤ 100) : sp (d + 2) 144 [.ref 38, .int 0, .int (nI x)] (gm L xs A I F P) (mQ L xs A I F P (stH X x, Z, t, N, rf) (.int (nI (xH X)))) := by
  obtain ⟨⟨a1, a2, a3, a4, a5, a6, a7⟩, h2⟩ := h
  refine ⟨⟨_, rfl⟩, rfl, mm_WP.go [] 60 (cy (m_in d _ _ _ _) (fun _ => n1 ⟨fun _ => ⟨fun _ => n0 (n0 ⟨trivial, ⟨fun _ => ⟨trivial, ?_⟩, fun c => absurd c (by decide)⟩⟩), fun c => absurd ?_ c⟩, fun c => absurd ?_ c⟩) (fun z => absurd in_00 z))⟩
  · exact ⟨congrArg (fun z => some (Value.int z)) a6, A, uI (uI I 38 8 (nI x)) 38 9 (I 38 9), rfl, ⟨⟨a1, a2, a3, a4, a5, rfl, a7⟩, h2⟩, sC.rf, (tC.rf.i (by decide) _ _).i (by decide) _ _⟩
  · exact (nI_leI (b := 100) (by omega) (by omega)).mpr h9
  · rw [show (1 : Int32) - 0 = nI 1 from by decide]
    exact (nI_leI (a := 1) (by omega) (by omega)).mpr h1
theorem m_set1 (d : Nat) (h : RI (X, Z, t, N, rf) A I) {x : Nat} (h9 : x ≤ 100) : sp (d + 2) 144 [.ref 38, .int 1, .int (nI x)] (gm L xs A I F P) (mQ L xs A I F P (stM X x, Z, t, N, rf) (.int (nI (xM X)))) := by
  obtain ⟨⟨a1, a2, a3, a4, a5, a6, a7, a8⟩, h2⟩ := h
  refine ⟨⟨_, rfl⟩, rfl, mm_WP.go [] 60 (cy (m_in d _ _ _ _) (fun _ => n1 ⟨fun _ => ⟨fun _ => n1 (n1 ⟨trivial, ⟨fun c => absurd rfl c, fun _ => ⟨trivial, ?_⟩⟩⟩), fun c => absurd ?_ c⟩, fun c => absurd ?_ c⟩) (fun z => absurd in_11 z))⟩
  · exact ⟨congrArg (fun z => some (Value.int z)) a7, A, uI (uI I 38 8 (I 38 8)) 38 9 (nI x), rfl, ⟨⟨a1, a2, a3, a4, a5, a6, rfl, a8⟩, h2⟩, sC.rf, (tC.rf.i (by decide) _ _).i (by decide) _ _⟩
  · exact (nI_leI (b := 100) (by omega) (by omega)).mpr h9
  · rw [show (1 : Int32) - 1 = nI 0 from by decide]
    exact (nI_leI (a := 0) (by omega) (by omega)).mpr (Nat.zero_le _)
theorem m_set_2 (d : Nat) {w v : Int32} (hw : ¬ vp_in w 2) : sp (d + 2) 144 [.ref 38, .int w, .int v] (gm L xs A I F P) (rM L xs A I F P 2 (-2)) :=
  ⟨⟨_, rfl⟩, rfl, mm_WP.go [] 60 (cy (m_in d _ _ _ _) (fun z => absurd (in_01.mp z) hw) (fun _ => n0 (ca (m_rf2 d) ⟨rfl, rfl⟩)))⟩
theorem m_set0_4 (d : Nat) {v : Int32} (hv : v < 1) : sp (d + 2) 144 [.ref 38, .int 0, .int v] (gm L xs A I F P) (rM L xs A I F P 4 (-4)) :=
  ⟨⟨_, rfl⟩, rfl, mm_WP.go [] 60 (cy (m_in d _ _ _ _) (fun _ => n1 ⟨fun c => absurd (show (1 : Int32) - 0 ≤ v from c) (by rw [show (1 : Int32) - 0 = 1 from by decide]; exact Int32.not_le.mpr hv), fun _ => ca (m_rf4 d) ⟨rfl, rfl⟩⟩) (fun z => absurd in_00 z))⟩
theorem m_set1_4 (d : Nat) {v : Int32} (hv : v < 0) : sp (d + 2) 144 [.ref 38, .int 1, .int v] (gm L xs A I F P) (rM L xs A I F P 4 (-4)) :=
  ⟨⟨_, rfl⟩, rfl, mm_WP.go [] 60 (cy (m_in d _ _ _ _) (fun _ => n1 ⟨fun c => absurd (show (1 : Int32) - 1 ≤ v from c) (by rw [show (1 : Int32) - 1 = 0 from by decide]; exact Int32.not_le.mpr hv), fun _ => ca (m_rf4 d) ⟨rfl, rfl⟩⟩) (fun z => absurd in_11 z))⟩
theorem m_set0_6 (d : Nat) {v : Int32} (hv : ¬ v < 1) (h9 : 100 < v) : sp (d + 2) 144 [.ref 38, .int 0, .int v] (gm L xs A I F P) (rM L xs A I F P 6 (-6)) :=
  ⟨⟨_, rfl⟩, rfl, mm_WP.go [] 60 (cy (m_in d _ _ _ _) (fun _ => n1 ⟨fun _ => ⟨fun c => absurd c (Int32.not_le.mpr h9), fun _ => ca (m_rf6 d) ⟨rfl, rfl⟩⟩, fun c => absurd (show (1 : Int32) - 0 ≤ v by rw [show (1 : Int32) - 0 = 1 from by decide]; exact Int32.not_lt.mp hv) c⟩) (fun z => absurd in_00 z))⟩
theorem m_set1_6 (d : Nat) {v : Int32} (hv : ¬ v < 0) (h9 : 100 < v) : sp (d + 2) 144 [.ref 38, .int 1, .int v] (gm L xs A I F P) (rM L xs A I F P 6 (-6)) :=
  ⟨⟨_, rfl⟩, rfl, mm_WP.go [] 60 (cy (m_in d _ _ _ _) (fun _ => n1 ⟨fun _ => ⟨fun c => absurd c (Int32.not_le.mpr h9), fun _ => ca (m_rf6 d) ⟨rfl, rfl⟩⟩, fun c => absurd (show (1 : Int32) - 1 ≤ v by rw [show (1 : Int32) - 1 = 0 from by decide]; exact Int32.not_lt.mp hv) c⟩) (fun z => absurd in_11 z))⟩
-- give
theorem c_give (d : Nat) (h : CI (X, Z, t, N, rf) A I F P) {w : Nat} (hw : w < 6) {g : Option Nat} (hg : ∀ m, g = some m → m < 90) : sp (d + 2) 99 [.ref 6, .int (nI w), .int (oM g)] (gm L xs A I F P) (cQ L xs A I (stG X w g, Z, t, N, rf) (.int (oN (xG X w)))) := by
  obtain ⟨⟨a1, a2, a3, a4, a5, a6, a7, a8, a9⟩, h2⟩ := h
  have ix := ix_n (w := w) (N := 6) (by decide) hw
  have fin : cQ L xs A I (stG X w g, Z, t, N, rf) (.int (oN (xG X w))) (some (.int (A 29 ((nI w).toNatClampNeg)))) (gm L xs (uR A 29 (upd (A 29) ((nI w).toNatClampNeg) (oN g))) I F P) := by
    rw [ix.2]
    refine ⟨congrArg (fun z => some (Value.int z)) (a8 w hw), _, I, F, P, rfl, ⟨⟨a1, a2, a3, a4, a5, a6, a7, fun j hj => ?_, a9⟩, h2⟩, sR.rf.r (by decide) _, tR.rf⟩
    show upd (A 29) w (oN g) j = oN (if j = w then g else xG X j)
    rw [upd_at]
    by_cases c : j = w
    · rw [if_pos c, if_pos c]
    · rw [if_neg c, if_neg c]
      exact a8 j hj
  cases g with
  | none => exact ⟨⟨_, rfl⟩, rfl, mm_WP.go [] 60 (cy (c_noWord d _ _) (fun z => absurd ix.1 z) (fun _ => n0 ⟨fun _ => ⟨ix.1, ⟨fun c => absurd rfl c, fun _ => ⟨ix.1, fin⟩⟩⟩, fun c => absurd rfl c⟩))⟩
  | some m =>
    have hm := hg m rfl
    have im := ix_n (w := m) (N := 90) (by decide) hm
    exact ⟨⟨_, rfl⟩, rfl, mm_WP.go [] 60 (cy (c_noWord d _ _) (fun z => absurd ix.1 z) (fun _ => n0 ⟨fun c => absurd c (nI_m1 (by omega)), fun _ => cy (c_noMeaning d _ _) (fun z => absurd im.1 z) (fun _ => e0 ⟨ix.1, ⟨fun _ => ⟨ix.1, fin⟩, fun c => absurd c (nI_m1 (by omega))⟩⟩)⟩))⟩
theorem c_give_r (d : Nat) {w m : Int32} (hh : ¬ (vp_in w 6 ∧ (m = -1 ∨ vp_in m 90))) : sp (d + 2) 99 [.ref 6, .int w, .int m] (gm L xs A I F P) (rC L xs A I F P 1 (-1)) :=
  ⟨⟨_, rfl⟩, rfl, mm_WP.go [] 60 (cy (c_noWord d _ _) (fun _ => n1 (ca (c_rf1 d) ⟨rfl, rfl⟩)) (fun z => n0 ⟨fun c => absurd ⟨Classical.not_not.mp z, Or.inl c⟩ hh, fun _ => cy (c_noMeaning d _ _) (fun _ => e1 (ca (c_rf1 d) ⟨rfl, rfl⟩)) (fun z2 => absurd ⟨Classical.not_not.mp z, Or.inr (Classical.not_not.mp z2)⟩ hh)⟩))⟩
theorem m_give (d : Nat) (ho : okT X) (h : RI (X, Z, t, N, rf) A I) {w : Nat} (hw : w < 6) {g : Option Nat} (hg : ∀ m, g = some m → m < 90) : sp (d + 3) 160 [.ref 38, .int (nI w), .int (oM g)] (gm L xs A I F P) (mQ L xs A I F P (stG X w g, Z, t, N, rf) (.int (oN (xG X w)))) := by
  obtain ⟨⟨a1, a2, a3, a4, a5, a6, a7, a8, a9⟩, h2⟩ := h
  have ix := ix_n (w := w) (N := 6) (by decide) hw
  have v : A 46 ((nI w).toNatClampNeg) = oM (xG X w) := by
    rw [ix.2]
    exact a8 w hw
  have fin : ∀ v : Int32, v = oN (xG X w) → mQ L xs A I F P (stG X w g, Z, t, N, rf) (.int (oN (xG X w))) (some (.int v)) (gm L xs (uR A 46 (upd (A 46) ((nI w).toNatClampNeg) (oM g))) I F P) := by
    rintro v rfl
    rw [ix.2]
    refine ⟨rfl, _, I, rfl, ⟨⟨a1, a2, a3, a4, a5, a6, a7, fun j hj => ?_, a9⟩, h2⟩, sC.rf.r (by decide) _, tC.rf⟩
    show upd (A 46) w (oM g) j = oM (if j = w then g else xG X j)
    rw [upd_at]
    by_cases c : j = w
    · rw [if_pos c, if_pos c]
    · rw [if_neg c, if_neg c]
      exact a8 j hj
  have tail : (0 ≤ A 46 ((nI w).toNatClampNeg) → mQ L xs A I F P (stG X w g, Z, t, N, rf) (.int (oN (xG X w))) (some (.int (A 46 ((nI w).toNatClampNeg)))) (gm L xs (uR A 46 (upd (A 46) ((nI w).toNatClampNeg) (oM g))) I F P)) ∧ (¬ 0 ≤ A 46 ((nI w).toNatClampNeg) → mQ L xs A I F P (stG X w g, Z, t, N, rf) (.int (oN (xG X w))) (some (.int (-9))) (gm L xs (uR A 46 (upd (A 46) ((nI w).toNatClampNeg) (oM g))) I F P)) := by
    have hgw := ho.2.2.2.2.2.1 w hw
    refine ⟨fun c => fin _ ?_, fun c => fin _ ?_⟩
    · rw [v] at c ⊢
      cases e : xG X w with
      | none => rw [e] at c; exact absurd c (by decide)
      | some m => rfl
    · rw [v] at c
      cases e : xG X w with
      | none => rfl
      | some m =>
        rw [e] at c
        exact absurd (nI_pos' (by have := hgw m e; omega)) c
  cases g with
  | none => exact ⟨⟨_, rfl⟩, rfl, mm_WP.go [] 60 (cy (m_isWord d _ _) (fun _ => e1 ⟨fun _ => ⟨ix.1, ix.1, tail⟩, fun c => absurd rfl c⟩) (fun z => absurd ix.1 z))⟩
  | some m =>
    have hm := hg m rfl
    have im := ix_n (w := m) (N := 90) (by decide) hm
    exact ⟨⟨_, rfl⟩, rfl, mm_WP.go [] 60 (cy (m_isWord d _ _) (fun _ => e1 ⟨fun c => absurd c (nI_m1 (by omega)), fun _ => cy (m_isMeaning d _ _) (fun _ => n1 ⟨ix.1, ix.1, tail⟩) (fun z => absurd im.1 z)⟩) (fun z => absurd ix.1 z))⟩
theorem m_give_r (d : Nat) {w m : Int32} (hh : ¬ (vp_in w 6 ∧ (m = -1 ∨ vp_in m 90))) : sp (d + 3) 160 [.ref 38, .int w, .int m] (gm L xs A I F P) (rM L xs A I F P 1 (-1)) :=
  ⟨⟨_, rfl⟩, rfl, mm_WP.go [] 60 (cy (m_isWord d _ _) (fun z => e1 ⟨fun c => absurd ⟨z, Or.inl c⟩ hh, fun _ => cy (m_isMeaning d _ _) (fun z2 => absurd ⟨z, Or.inr z2⟩ hh) (fun _ => n0 (ca (m_rf1 (d + 1)) ⟨rfl, rfl⟩))⟩) (fun _ => e0 (ca (m_rf1 (d + 1)) ⟨rfl, rfl⟩)))⟩
end M38
theorem bo_weight (d : Nat) {E : St} (hE : okE E) (k v : Int32) : ∃ u E2, bo (d + 2) 85 138 [.int k, .int v] E (.int u) E2 := by
  obtain ⟨X, Z, t, N, rf⟩ := E
  have ho : okT X := hE.1
  by_cases hk : vp_in k 8
  · by_cases h1 : v < 1
    · exact bo_rf (k := 4) hE (by decide) (fun L xs A I F P h => c_weight_4 d hk h1) (fun L xs A I F P h => m_weight_4 d hk h1)
    by_cases h9 : 99 < v
    · exact bo_rf (k := 6) hE (by decide) (fun L xs A I F P h => c_weight_6 d hk h1 h9) (fun L xs A I F P h => m_weight_6 d hk h1 h9)
    obtain ⟨x, x1, x9, rfl⟩ := i_rng (lo := 1) (hi := 99) h1 h9 (by decide) (by decide)
    obtain ⟨j, hj, rfl⟩ := vp_in_of hk (by decide)
    refine ⟨_, (stW X j x, Z, t, N, rf), ⟨⟨ho.1, ho.2.1, fun i hi => ?_, ho.2.2.2⟩, hE.2⟩, fun L xs A I F P h => c_weight d h hj x1 x9, fun L xs A I F P h => m_weight d h hj x1 x9⟩
    show 1 ≤ (if i = j then x else xW X i) ∧ (if i = j then x else xW X i) ≤ 99
    by_cases c : i = j
    · rw [if_pos c]
      exact ⟨x1, x9⟩
    · rw [if_neg c]
      exact ho.2.2.1 i hi
  · exact bo_rf (k := 1) hE (by decide) (fun L xs A I F P h => c_weight_1 d hk) (fun L xs A I F P h => m_weight_1 d hk)
theorem bo_set (d : Nat) {E : St} (hE : okE E) (w v : Int32) : ∃ u E2, bo (d + 2) 91 144 [.int w, .int v] E (.int u) E2 := by
  obtain ⟨X, Z, t, N, rf⟩ := E
  have ho : okT X := hE.1
  by_cases hw : vp_in w 2
  · rcases vp2.mp hw with rfl | rfl
    · by_cases h1 : v < 1
      · exact bo_rf (k := 4) hE (by decide) (fun L xs A I F P h => c_set0_4 d h1) (fun L xs A I F P h => m_set0_4 d h1)
      by_cases h9 : 100 < v
      · exact bo_rf (k := 6) hE (by decide) (fun L xs A I F P h => c_set0_6 d h1 h9) (fun L xs A I F P h => m_set0_6 d h1 h9)
      obtain ⟨x, x1, x9, rfl⟩ := i_rng (lo := 1) (hi := 100) h1 h9 (by decide) (by decide)
      exact ⟨_, (stH X x, Z, t, N, rf), ⟨⟨ho.1, ho.2.1, ho.2.2.1, x9, ho.2.2.2.2⟩, hE.2⟩, fun L xs A I F P h => c_set0 d h x1 x9, fun L xs A I F P h => m_set0 d h x1 x9⟩
    · by_cases h1 : v < 0
      · exact bo_rf (k := 4) hE (by decide) (fun L xs A I F P h => c_set1_4 d h1) (fun L xs A I F P h => m_set1_4 d h1)
      by_cases h9 : 100 < v
      · exact bo_rf (k := 6) hE (by decide) (fun L xs A I F P h => c_set1_6 d h1 h9) (fun L xs A I F P h => m_set1_6 d h1 h9)
      obtain ⟨x, x1, x9, rfl⟩ := i_rng (lo := 0) (hi := 100) h1 h9 (by decide) (by decide)
      exact ⟨_, (stM X x, Z, t, N, rf), ⟨⟨ho.1, ho.2.1, ho.2.2.1, ho.2.2.2.1, x9, ho.2.2.2.2.2⟩, hE.2⟩, fun L xs A I F P h => c_set1 d h x9, fun L xs A I F P h => m_set1 d h x9⟩
  · exact bo_rf (k := 2) hE (by decide) (fun L xs A I F P h => c_set_2 d hw) (fun L xs A I F P h => m_set_2 d hw)
theorem bo_give (d : Nat) {E : St} (hE : okE E) (w m : Int32) : ∃ u E2, bo (d + 3) 99 160 [.int w, .int m] E (.int u) E2 := by
  obtain ⟨X, Z, t, N, rf⟩ := E
  have ho : okT X := hE.1
  by_cases hh : vp_in w 6 ∧ (m = -1 ∨ vp_in m 90)
  · obtain ⟨j, hj, rfl⟩ := vp_in_of hh.1 (by decide)
    obtain ⟨g, rfl, hg⟩ : ∃ g : Option Nat, m = oM g ∧ ∀ x, g = some x → x < 90 := by
      rcases hh.2 with rfl | h
      · exact ⟨none, rfl, fun x hx => by cases hx⟩
      · obtain ⟨k, hk, rfl⟩ := vp_in_of h (by decide)
        exact ⟨some k, rfl, fun x hx => by cases hx; exact hk⟩
    refine ⟨_, (stG X j g, Z, t, N, rf), ⟨⟨ho.1, ho.2.1, ho.2.2.1, ho.2.2.2.1, ho.2.2.2.2.1, fun i hi x hx => ?_, ho.2.2.2.2.2.2⟩, hE.2⟩, fun L xs A I F P h => c_give (d + 1) h hj hg, fun L xs A I F P h => m_give d ho h hj hg⟩
    have hx : (if i = j then g else xG X i) = some x := hx
    by_cases c : i = j
    · rw [if_pos c] at hx
      exact hg x hx
    · rw [if_neg c] at hx
      exact ho.2.2.2.2.2.1 i hi x hx
  · exact bo_rf (k := 1) hE (by decide) (fun L xs A I F P h => c_give_r (d + 1) hh) (fun L xs A I F P h => m_give_r d hh)
