/-! takeBack, of both -/
theorem sb_cutlast {k : Nat} (hk : k < 24) (q : Nat → Bool) : nI (sb (k + 1) q) &&& (((1 : Int32) <<< (nI k &&& 31)) ^^^ (-1)) = nI (sb k q) := by
  rw [sh_one k (by omega), ← sb_one (Nat.lt_succ_self k), sb_andn (by omega)]
  congr 1
  show 2 ^ k * (if (q k && !decide (k = k)) = true then 1 else 0) + sb k _ = _
  rw [decide_eq_true rfl, Bool.not_true, Bool.and_false, if_neg (by decide), Nat.mul_zero, Nat.zero_add]
  refine sb_cong (fun i hi => ?_)
  rw [decide_eq_false (by omega), Bool.not_false, Bool.and_true]
/-- sayings without those of a scene -/
def dr (ya yb : Nat → Nat) (s : Nat) : Nat → Nat × (Nat → Nat) × (Nat → Nat)
  | 0 => (0, ya, yb)
  | i + 1 => if ya i = s then dr ya yb s i else ((dr ya yb s i).1 + 1, fun j => if j = (dr ya yb s i).1 then ya i else (dr ya yb s i).2.1 j, fun j => if j = (dr ya yb s i).1 then yb i else (dr ya yb s i).2.2 j)
theorem dr_le {ya yb : Nat → Nat} {s : Nat} : ∀ i, (dr ya yb s i).1 ≤ i
  | 0 => Nat.le_refl _
  | i + 1 => by
    have := dr_le (ya := ya) (yb := yb) (s := s) i
    rw [dr]
    split
    · omega
    · show (dr ya yb s i).1 + 1 ≤ i + 1
      omega
theorem dr_of {ya yb : Nat → Nat} {s : Nat} : ∀ i j, j < (dr ya yb s i).1 → ∃ k, k < i ∧ ya k ≠ s ∧ (dr ya yb s i).2.1 j = ya k ∧ (dr ya yb s i).2.2 j = yb k
  | 0, j, h => absurd h (Nat.not_lt_zero j)
  | i + 1, j, h => by
    rw [dr] at h ⊢
    by_cases c : ya i = s
    · rw [if_pos c] at h ⊢
      obtain ⟨k, h1, h2⟩ := dr_of i j h
      exact ⟨k, by omega, h2⟩
    · rw [if_neg c] at h ⊢
      have h : j < (dr ya yb s i).1 + 1 := h
      by_cases e : j = (dr ya yb s i).1
      · exact ⟨i, by omega, c, if_pos e, if_pos e⟩
      · obtain ⟨k, h1, h2, h3, h4⟩ := dr_of (ya := ya) (yb := yb) (s := s) i j (by omega)
        exact ⟨k, by omega, h2, (if_neg e).trans h3, (if_neg e).trans h4⟩
def bkX (X : Tl) (k : Nat) : Tl := (k, X.2.1, X.2.2.1, X.2.2.2.1, X.2.2.2.2.1, X.2.2.2.2.2.1, X.2.2.2.2.2.2.1, dr (xA X) (xB X) k (xY X))
/-- both arrays on the way -/
def drA (ya yb : Nat → Nat) (s i : Nat) (f0 g0 f g : Nat → Int32) : Prop := (∀ j, j < (dr ya yb s i).1 → f j = nI ((dr ya yb s i).2.1 j) ∧ g j = nI ((dr ya yb s i).2.2 j)) ∧ ∀ j, i ≤ j → f j = f0 j ∧ g j = g0 j
theorem drA_no {ya yb : Nat → Nat} {s i : Nat} {f0 g0 f g : Nat → Int32} (h : drA ya yb s i f0 g0 f g) (e : ya i = s) : drA ya yb s (i + 1) f0 g0 f g := by
  unfold drA
  rw [dr, if_pos e]
  exact ⟨h.1, fun j hj => h.2 j (by omega)⟩
theorem drA_yes {ya yb : Nat → Nat} {s i : Nat} {f0 g0 f g : Nat → Int32} (h : drA ya yb s i f0 g0 f g) (e : ¬ ya i = s) (h1 : f0 i = nI (ya i)) (h2 : g0 i = nI (yb i)) : drA ya yb s (i + 1) f0 g0 (upd f (dr ya yb s i).1 (f i)) (upd g (dr ya yb s i).1 (g i)) := by
  have hle := dr_le (ya := ya) (yb := yb) (s := s) i
  obtain ⟨e1, e2⟩ := h.2 i (Nat.le_refl _)
  unfold drA
  rw [dr, if_neg e]
  refine ⟨fun j hj => ?_, fun j hj => ?_⟩
  · have hj : j < (dr ya yb s i).1 + 1 := hj
    show upd f (dr ya yb s i).1 (f i) j = nI (if j = (dr ya yb s i).1 then ya i else (dr ya yb s i).2.1 j) ∧ upd g (dr ya yb s i).1 (g i) j = nI (if j = (dr ya yb s i).1 then yb i else (dr ya yb s i).2.2 j)
    rw [upd_at, upd_at]
    by_cases c : j = (dr ya yb s i).1
    · rw [if_pos c, if_pos c, if_pos c, if_pos c, e1, e2]
      exact ⟨h1, h2⟩
    · rw [if_neg c, if_neg c, if_neg c, if_neg c]
      exact h.1 j (by omega)
  · rw [upd_at, upd_at, if_neg (by omega), if_neg (by omega)]
    exact h.2 j (by omega)
section M39
variable {L : Nat} {xs : Nat → Int32} {A I : Nat → Nat → Int32} {F : Nat → Nat → Option Nat} {P : mm_M} {X : Tl} {Z : Option Tl} {t : Nat → Nat} {N : Nat} {rf : Nat → Int32}
theorem c_dropSayings (d : Nat) {ya yb : Nat → Nat} {y s : Nat} (hI : I 21 11 = nI y) (hy : y ≤ 20) (hs : s < 24) (hA : ∀ i, i < y → A 30 i = nI (ya i) ∧ A 31 i = nI (yb i)) (hl : ∀ i, i < y → ya i < 24) : sp (d + 1) 52 [.ref 21, .int (nI s)] (gm L xs A I F P) (fun r m => r = none ∧ ∃ f g, (∀ j, j < (dr ya yb s y).1 → f j = nI ((dr ya yb s y).2.1 j) ∧ g j = nI ((dr ya yb s y).2.2 j)) ∧ m = gm L xs (uR (uR A 30 f) 31 g) (uI I 21 11 (nI (dr ya yb s y).1)) F P) := by
  have key : ∀ i, i ≤ y → ∀ (x c : Int32) (f g : Nat → Int32), x = nI i → c = nI (dr ya yb s i).1 → drA ya yb s i (A 30) (A 31) f g → wp d (mm_Al 52) cd_Told_dropSayingsOf (fun r m => r = none ∧ ∃ f g, (∀ j, j < (dr ya yb s y).1 → f j = nI ((dr ya yb s y).2.1 j) ∧ g j = nI ((dr ya yb s y).2.2 j)) ∧ m = gm L xs (uR (uR A 30 f) 31 g) (uI I 21 11 (nI (dr ya yb s y).1)) F P) 4 [some (.ref 21), some (.int (nI s)), some (.int c), some (.int x)] [] (gm L xs (uR (uR A 30 f) 31 g) I F P) := by
    refine rep y ?_ ?_
    · intro x c f g hx hc hd
      subst hc
      exact mm_WP.go [4] 40 (lp_ge hx hI (by omega) (Nat.le_refl _) (fun _ => ⟨trivial, rfl, f, g, hd.1, rfl⟩) (fun h => absurd h (by omega)))
    · intro i hi ih x c f g hx hc hd
      subst hx
      subst hc
      have hle := dr_le (ya := ya) (yb := yb) (s := s) i
      have ii := ix_n (w := i) (N := 20) (by decide) (by omega)
      have ic := ix_n (w := (dr ya yb s i).1) (N := 20) (by decide) (by omega)
      obtain ⟨h1, h2⟩ := hA i hi
      have v : f ((nI i).toNatClampNeg) = nI (ya i) := by rw [ii.2, (hd.2 i (Nat.le_refl _)).1, h1]
      have e : nI (ya i) = nI s ↔ ya i = s := nI_eq (by have := hl i hi; omega) (by omega)
      refine mm_WP.go [4] 60 (lp_ge (k := i) rfl hI (by omega) (by omega) (fun h => absurd h (by omega)) (fun _ => ⟨ii.1, fun c => ?_, fun c => ⟨ii.1, ic.1, ii.1, ic.1, ?_⟩⟩))
      · have c2 := e.mp (v.symm.trans c)
        refine ih _ _ f g (nI_1 i) ?_ (drA_no hd c2)
        rw [dr, if_pos c2]
      · have c2 : ¬ ya i = s := fun z => c (v.trans (e.mpr z))
        show wp d (mm_Al 52) cd_Told_dropSayingsOf _ 4 [some (.ref 21), some (.int (nI s)), some (.int (nI (dr ya yb s i).1 + 1)), some (.int (nI i + 1))] [] (gm L xs (uR (uR A 30 (upd f ((nI (dr ya yb s i).1).toNatClampNeg) (f ((nI i).toNatClampNeg)))) 31 (upd g ((nI (dr ya yb s i).1).toNatClampNeg) (g ((nI i).toNatClampNeg)))) I F P)
        rw [ii.2, ic.2]
        refine ih _ _ _ _ (nI_1 i) ?_ (drA_yes hd c2 h1 h2)
        rw [dr, if_neg c2]
        exact nI_1 _
  refine ⟨⟨_, rfl⟩, rfl, mm_WP.go [4] 40 ?_⟩
  exact key 0 (Nat.zero_le _) 0 0 (A 30) (A 31) rfl rfl ⟨fun j hj => absurd hj (Nat.not_lt_zero j), fun j _ => ⟨rfl, rfl⟩⟩
theorem c_takeBack (d : Nat) {k : Nat} (ho : okT X) (h : CI (X, Z, t, N, rf) A I F P) (hk : xN X = k + 1) : sp (d + 3) 75 [.ref 6] (gm L xs A I F P) (cQ L xs A I (bkX X k, Z, t, N, rf) (.int (nI k))) := by
  obtain ⟨⟨a1, a2, a3, a4, a5, a6, a7, a8, a9, a10⟩, h2, h3, h4⟩ := h
  have hn := ho.1
  have hI : I 21 2 = nI (k + 1) := by rw [← hk]; exact a1
  have i24 := ix_n (w := k) (N := 24) (by decide) (by omega)
  have es : I 21 2 - 1 = nI k := by
    rw [hI, show (1 : Int32) = nI 1 from rfl, pk_sub (by omega), Nat.add_sub_cancel]
  have hpos : ¬ I 21 2 ≤ 0 := by
    rw [hI, show (0 : Int32) = nI 0 from rfl, nI_leI (by omega) (by omega)]
    omega
  have key2 : ∀ w, w ≤ 6 → ∀ (x : Int32) (f5 f : Nat → Int32), x = nI w → (∀ m, m < 90 → f5 m = nI (sb k (fun s => hX X s m))) → (∀ m, m < w → f m = nI (sb k (fun s => xS X s m))) → (∀ m, w ≤ m → f m = A 27 m) → wp (d + 1) (mm_Al 51) cd_Told_dropLatest (cQ L xs A I (bkX X k, Z, t, N, rf) (.int (nI k))) 65 [some (.ref 21), some (.int (((1 : Int32) <<< (nI k &&& 31)) ^^^ (-1))), some (.int x)] [] (gm L xs (uR (uR A 26 f5) 27 f) (uI I 21 2 (nI k)) (uF F 25 k (some 22)) P) := by
    refine rep 6 ?_ ?_
    · intro x f5 f hx hf5 hf1 hf2
      refine mm_WP.go [65] 40 (lp_ge (N := 6) hx rfl (by decide) (by decide) (fun _ => ⟨_, c_dropSayings (A := uR (uR A 26 f5) 27 f) (I := uI I 21 2 (nI k)) (F := uF F 25 k (some 22)) d a9 ho.2.2.2.2.2.2.1 (by omega) a10 (fun i hi => Nat.lt_of_lt_of_le (ho.2.2.2.2.2.2.2 i hi).1 hn), ?_⟩) (fun h => absurd h (by decide)))
      rintro r m ⟨rfl, f9, g9, hfg, rfl⟩
      refine ⟨rfl, uR (uR (uR (uR A 26 f5) 27 f) 30 f9) 31 g9, uI (uI I 21 2 (nI k)) 21 11 (nI (dr (xA X) (xB X) k (xY X)).1), uF F 25 k (some 22), P, rfl, ⟨⟨rfl, fun s hs => ?_, hf5, hf1, a5, a6, a7, a8, rfl, hfg⟩, fsc_up h2 (Or.inr (Or.inl rfl)), h3, h4⟩, ((((sR.rf.r (by decide) _).r (by decide) _).r (by decide) _).r (by decide) _), (tR.rf.i (by decide) _ _).i (by decide) _ _⟩
      have hs : s < k := hs
      obtain ⟨p, e, g⟩ := a2 s (show s < xN X by omega)
      exact ⟨p, (if_neg (by omega)).trans e, g⟩
    · intro w hw ih x f5 f hx hf5 hf1 hf2
      subst hx
      have iw := ix_n (w := w) (N := 6) (by decide) hw
      refine mm_WP.go [65] 40 (lp_ge (k := w) (N := 6) rfl rfl (by decide) (by omega) (fun h => absurd h (by omega)) (fun _ => ⟨iw.1, iw.1, ?_⟩))
      show wp (d + 1) (mm_Al 51) cd_Told_dropLatest _ 65 [some (.ref 21), some (.int (((1 : Int32) <<< (nI k &&& 31)) ^^^ (-1))), some (.int (nI w + 1))] [] (gm L xs (uR (uR A 26 f5) 27 (upd f ((nI w).toNatClampNeg) (f ((nI w).toNatClampNeg) &&& (((1 : Int32) <<< (nI k &&& 31)) ^^^ (-1))))) (uI I 21 2 (nI k)) (uF F 25 k (some 22)) P)
      rw [iw.2]
      refine ih _ _ _ (nI_1 w) hf5 (fun m hm => ?_) (fun m hm => ?_)
      · rw [upd_at]
        by_cases c : m = w
        · subst c
          have e := a4 m hw
          rw [if_pos rfl, hf2 m (Nat.le_refl _), e, show xN (X, Z, t, N, rf).1 = k + 1 from hk]
          exact sb_cutlast (by omega) _
        · rw [if_neg c]
          exact hf1 m (by omega)
      · rw [upd_at, if_neg (by omega)]
        exact hf2 m (by omega)
  have key1 : ∀ w, w ≤ 90 → ∀ (x : Int32) (f : Nat → Int32), x = nI w → (∀ m, m < w → f m = nI (sb k (fun s => hX X s m))) → (∀ m, w ≤ m → f m = A 26 m) → wp (d + 1) (mm_Al 51) cd_Told_dropLatest (cQ L xs A I (bkX X k, Z, t, N, rf) (.int (nI k))) 41 [some (.ref 21), some (.int (((1 : Int32) <<< (nI k &&& 31)) ^^^ (-1))), some (.int x)] [] (gm L xs (uR A 26 f) (uI I 21 2 (nI k)) (uF F 25 k (some 22)) P) := by
    refine rep 90 ?_ ?_
    · intro x f hx hf1 hf2
      exact mm_WP.go [41, 65] 40 (lp_ge (N := 90) hx rfl (by decide) (by decide) (fun _ => key2 0 (by decide) 0 f (A 27) rfl hf1 (fun m hm => absurd hm (Nat.not_lt_zero m)) (fun m _ => rfl)) (fun h => absurd h (by decide)))
    · intro w hw ih x f hx hf1 hf2
      subst hx
      have iw := ix_n (w := w) (N := 90) (by decide) hw
      refine mm_WP.go [41] 40 (lp_ge (k := w) (N := 90) rfl rfl (by decide) (by omega) (fun h => absurd h (by omega)) (fun _ => ⟨iw.1, iw.1, ?_⟩))
      show wp (d + 1) (mm_Al 51) cd_Told_dropLatest _ 41 [some (.ref 21), some (.int (((1 : Int32) <<< (nI k &&& 31)) ^^^ (-1))), some (.int (nI w + 1))] [] (gm L xs (uR A 26 (upd f ((nI w).toNatClampNeg) (f ((nI w).toNatClampNeg) &&& (((1 : Int32) <<< (nI k &&& 31)) ^^^ (-1))))) (uI I 21 2 (nI k)) (uF F 25 k (some 22)) P)
      rw [iw.2]
      refine ih _ _ (nI_1 w) (fun m hm => ?_) (fun m hm => ?_)
      · rw [upd_at]
        by_cases c : m = w
        · subst c
          have e := a3 m hw
          rw [if_pos rfl, hf2 m (Nat.le_refl _), e, show xN (X, Z, t, N, rf).1 = k + 1 from hk]
          exact sb_cutlast (by omega) _
        · rw [if_neg c]
          exact hf1 m (by omega)
      · rw [upd_at, if_neg (by omega)]
        exact hf2 m (by omega)
  have drop : sp (d + 2) 51 [.ref 21] (gm L xs A I F P) (cQ L xs A I (bkX X k, Z, t, N, rf) (.int (nI k))) := by
    refine ⟨⟨_, rfl⟩, rfl, mm_WP.go [17] 40 ⟨fun c => absurd c hpos, fun _ => ⟨trivial, ?_⟩⟩⟩
    show wp (d + 1) (mm_Al 51) cd_Told_dropLatest _ 17 [some (.ref 21), none, none] [] (gm L xs A (uI I 21 2 (I 21 2 - 1)) F P)
    rw [es]
    refine mm_WP.go [41] 40 ⟨i24.1, ⟨_, rfl⟩, ?_⟩
    show wp (d + 1) (mm_Al 51) cd_Told_dropLatest _ 41 [some (.ref 21), some (.int (((1 : Int32) <<< (nI k &&& 31)) ^^^ (-1))), some (.int 0)] [] (gm L xs A (uI I 21 2 (nI k)) (uF F 25 ((nI k).toNatClampNeg) (some 22)) P)
    rw [i24.2]
    exact key1 0 (by decide) 0 (A 26) rfl (fun m hm => absurd hm (Nat.not_lt_zero m)) (fun m _ => rfl)
  have hne : ¬ I 21 2 = 0 := by
    rw [hI]
    exact nI_ne0 (by omega) (by omega)
  refine ⟨⟨_, rfl⟩, rfl, mm_WP.go [] 40 ⟨fun _ => ⟨_, drop, ?_⟩, fun c => absurd c hne⟩⟩
  rintro r m ⟨rfl, hq⟩
  exact ⟨rfl, hq⟩
theorem c_takeBack_r (d : Nat) (h : CI (X, Z, t, N, rf) A I F P) (hk : xN X = 0) : sp (d + 3) 75 [.ref 6] (gm L xs A I F P) (rC L xs A I F P 3 (-3)) := by
  have hI : I 21 2 = nI (xN X) := h.1.1
  rw [hk] at hI
  exact ⟨⟨_, rfl⟩, rfl, mm_WP.go [] 40 ⟨fun c => absurd hI c, fun _ => ca (c_rf3 (d + 1)) ⟨rfl, rfl⟩⟩⟩
theorem m_takeBack (d : Nat) {k : Nat} (ho : okT X) (h : RI (X, Z, t, N, rf) A I) (hk : xN X = k + 1) : sp (d + 3) 127 [.ref 38] (gm L xs A I F P) (mQ L xs A I F P (bkX X k, Z, t, N, rf) (.int (nI k))) := by
  obtain ⟨⟨a1, a2, a3, a4, a5, a6, a7, a8, a9, a10⟩, h2⟩ := h
  have a9 : I 38 11 = nI (xY X) := a9
  have hn := ho.1
  have hI : I 38 0 = nI (k + 1) := by rw [← hk]; exact a1
  have es : I 38 0 - 1 = nI k := by
    rw [hI, show (1 : Int32) = nI 1 from rfl, pk_sub (by omega), Nat.add_sub_cancel]
  have hy : xY X ≤ 20 := ho.2.2.2.2.2.2.1
  have key : ∀ i, i ≤ xY X → ∀ (x c : Int32) (f g : Nat → Int32), x = nI i → c = nI (dr (xA X) (xB X) k i).1 → drA (xA X) (xB X) k i (A 47) (A 48) f g → wp (d + 2) (mm_Al 127) cd_Model_takeBack (mQ L xs A I F P (bkX X k, Z, t, N, rf) (.int (nI k))) 28 [some (.ref 38), some (.int c), some (.int x)] [] (gm L xs (uR (uR A 47 f) 48 g) (uI I 38 0 (nI k)) F P) := by
    refine rep (xY X) ?_ ?_
    · intro x c f g hx hc hd
      subst hc
      refine mm_WP.go [28] 40 (lp_ge hx a9 (by omega) (Nat.le_refl _) (fun _ => ⟨trivial, rfl, uR (uR A 47 f) 48 g, uI (uI I 38 0 (nI k)) 38 11 (nI (dr (xA X) (xB X) k (xY X)).1), rfl, ⟨⟨rfl, fun s hs => a2 s ?_, fun s w hs hw => a3 s w ?_ hw, fun s m hs hm => a4 s m ?_ hm, a5, a6, a7, a8, rfl, hd.1⟩, h2⟩, (sC.rf.r (by decide) _).r (by decide) _, (tC.rf.i (by decide) _ _).i (by decide) _ _⟩) (fun h => absurd h (by omega)))
      · have hs : s < k := hs
        show s < xN X
        omega
      · have hs : s < k := hs
        show s < xN X
        omega
      · have hs : s < k := hs
        show s < xN X
        omega
    · intro i hi ih x c f g hx hc hd
      subst hx
      subst hc
      have hle := dr_le (ya := xA X) (yb := xB X) (s := k) i
      have ii := ix_n (w := i) (N := 20) (by decide) (by omega)
      have ic := ix_n (w := (dr (xA X) (xB X) k i).1) (N := 20) (by decide) (by omega)
      obtain ⟨h1, h2⟩ := a10 i hi
      have v : f ((nI i).toNatClampNeg) = nI (xA X i) := by rw [ii.2, (hd.2 i (Nat.le_refl _)).1]; exact h1
      have e : nI (xA X i) = nI k ↔ xA X i = k := nI_eq (by have := (ho.2.2.2.2.2.2.2 i hi).1; omega) (by omega)
      refine mm_WP.go [28] 60 (lp_ge (k := i) rfl a9 (by omega) (by omega) (fun h => absurd h (by omega)) (fun _ => ⟨ii.1, fun c => ?_, fun c => ⟨ii.1, ic.1, ii.1, ic.1, ?_⟩⟩))
      · have c2 := e.mp (v.symm.trans c)
        refine ih _ _ f g (nI_1 i) ?_ (drA_no hd c2)
        rw [dr, if_pos c2]
      · have c2 : ¬ xA X i = k := fun z => c (v.trans (e.mpr z))
        show wp (d + 2) (mm_Al 127) cd_Model_takeBack _ 28 [some (.ref 38), some (.int (nI (dr (xA X) (xB X) k i).1 + 1)), some (.int (nI i + 1))] [] (gm L xs (uR (uR A 47 (upd f ((nI (dr (xA X) (xB X) k i).1).toNatClampNeg) (f ((nI i).toNatClampNeg)))) 48 (upd g ((nI (dr (xA X) (xB X) k i).1).toNatClampNeg) (g ((nI i).toNatClampNeg)))) (uI I 38 0 (nI k)) F P)
        rw [ii.2, ic.2]
        refine ih _ _ _ _ (nI_1 i) ?_ (drA_yes hd c2 h1 h2)
        rw [dr, if_neg c2]
        exact nI_1 _
  have hne : ¬ I 38 0 = 0 := by
    rw [hI]
    exact nI_ne0 (by omega) (by omega)
  refine ⟨⟨_, rfl⟩, rfl, mm_WP.go [24] 40 ⟨fun _ => ⟨trivial, ?_⟩, fun c => absurd c hne⟩⟩
  show wp (d + 2) (mm_Al 127) cd_Model_takeBack _ 24 [some (.ref 38), none, none] [] (gm L xs A (uI I 38 0 (I 38 0 - 1)) F P)
  rw [es]
  refine mm_WP.go [28] 40 ?_
  exact key 0 (Nat.zero_le _) 0 0 (A 47) (A 48) rfl rfl ⟨fun j hj => absurd hj (Nat.not_lt_zero j), fun j _ => ⟨rfl, rfl⟩⟩
theorem m_takeBack_r (d : Nat) (h : RI (X, Z, t, N, rf) A I) (hk : xN X = 0) : sp (d + 3) 127 [.ref 38] (gm L xs A I F P) (rM L xs A I F P 3 (-3)) := by
  have hI : I 38 0 = nI (xN X) := h.1.1
  rw [hk] at hI
  exact ⟨⟨_, rfl⟩, rfl, mm_WP.go [28] 40 ⟨fun c => absurd hI c, fun _ => ca (m_rf3 (d + 1)) ⟨rfl, rfl⟩⟩⟩
end M39
theorem okT_back {X : Tl} {k : Nat} (ho : okT X) (hk : xN X = k + 1) : okT (bkX X k) := by
  obtain ⟨h1, h2, h3, h4, h5, h6, h7, h8⟩ := ho
  refine ⟨by show k ≤ 24; omega, fun s hs => h2 s (by have : s < k := hs; omega), h3, h4, h5, h6, Nat.le_trans (dr_le _) h7, fun i hi => ?_⟩
  obtain ⟨j, j1, j2, j3, j4⟩ := dr_of (ya := xA X) (yb := xB X) (s := k) (xY X) i hi
  obtain ⟨q1, q2⟩ := h8 j j1
  refine ⟨?_, ?_⟩
  · show (dr (xA X) (xB X) k (xY X)).2.1 i < k
    rw [j3]
    omega
  · show W3 ((dr (xA X) (xB X) k (xY X)).2.2 i)
    rw [j4]
    exact q2
theorem bo_takeBack (d : Nat) {E : St} (hE : okE E) : ∃ u E2, bo (d + 3) 75 127 [] E (.int u) E2 := by
  obtain ⟨X, Z, t, N, rf⟩ := E
  have ho : okT X := hE.1
  by_cases h0 : xN X = 0
  · exact bo_rf (k := 3) hE (by decide) (fun L xs A I F P h => c_takeBack_r d h h0) (fun L xs A I F P h => m_takeBack_r d h h0)
  · obtain ⟨k, hk⟩ : ∃ k, xN X = k + 1 := ⟨xN X - 1, by omega⟩
    exact ⟨_, (bkX X k, Z, t, N, rf), ⟨okT_back ho hk, hE.2⟩, fun L xs A I F P h => c_takeBack d ho h hk, fun L xs A I F P h => m_takeBack d ho h hk⟩
