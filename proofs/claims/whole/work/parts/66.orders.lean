/-! orders, of both -/
def pWh (o : Nat) : Nat := [0, 0, 1, 2, 1, 2].getD o 0
def pDo (o : Nat) : Nat := [1, 2, 0, 0, 2, 1].getD o 0
def pWm (o : Nat) : Nat := [2, 1, 2, 1, 0, 0].getD o 0
theorem p_t : ∀ o, o < 6 → mm_t3.getD o 0 = nI (pWh o) ∧ mm_t4.getD o 0 = nI (pDo o) ∧ mm_t5.getD o 0 = nI (pWm o) ∧ pWh o < 3 ∧ pDo o < 3 ∧ pWm o < 3 := by decide +kernel
def dB (D : Sc) (v a b i : Nat) : Bool := decide (dvO D i = v) && (mkb D (dwO D i) a && mkb D (dmO D i) b)
def fitB (D : Sc) (gw gd gm : Option Nat) : Bool := match gw with
  | none => false
  | some a => match gm with
    | none => false
    | some b => match gd with
      | none => false
      | some v => (decide (a < 6) && decide (b < 6) && decide (39 ≤ v ∧ v < 42)) && orb (dB D (v - 39) a b) (dcO D)
theorem fit_yes {D : Sc} {a v b : Nat} (ha : a < 6) (hb : b < 6) (hv : 39 ≤ v ∧ v < 42) : fitB D (some a) (some v) (some b) = orb (dB D (v - 39) a b) (dcO D) := by
  unfold fitB
  dsimp only
  rw [decide_eq_true ha, decide_eq_true hb, decide_eq_true hv]
  rfl
theorem fit_w {D : Sc} {gw gd gm : Option Nat} (h : ¬ ∃ a, gw = some a ∧ a < 6) : fitB D gw gd gm = false := by
  cases gw with
  | none => rfl
  | some a =>
    cases gm with
    | none => rfl
    | some b =>
      cases gd with
      | none => rfl
      | some v =>
        unfold fitB
        dsimp only
        rw [decide_eq_false (fun z => h ⟨a, rfl, z⟩)]
        simp
theorem fit_m {D : Sc} {gw gd gm : Option Nat} (h : ¬ ∃ a, gm = some a ∧ a < 6) : fitB D gw gd gm = false := by
  cases gw with
  | none => rfl
  | some a =>
    cases gm with
    | none => rfl
    | some b =>
      cases gd with
      | none => rfl
      | some v =>
        unfold fitB
        dsimp only
        rw [decide_eq_false (fun z => h ⟨b, rfl, z⟩)]
        simp
theorem fit_d {D : Sc} {gw gd gm : Option Nat} (h : ¬ ∃ v, gd = some v ∧ 39 ≤ v ∧ v < 42) : fitB D gw gd gm = false := by
  cases gw with
  | none => rfl
  | some a =>
    cases gm with
    | none => rfl
    | some b =>
      cases gd with
      | none => rfl
      | some v =>
        unfold fitB
        dsimp only
        rw [decide_eq_false (fun z => h ⟨v, rfl, z⟩)]
        simp
/-- a given meaning as a number -/
def g90 (g : Option Nat) : Prop := ∀ m, g = some m → m < 90
theorem vp_nI {k n : Nat} (hk : k < 2 ^ 31) : vp_in (nI k) n ↔ k < n := by
  rw [vp_in_iff, nI_toInt hk]
  omega
theorem oN_6 {g : Option Nat} (hg : g90 g) : vp_in (oN g) 6 ↔ ∃ a, g = some a ∧ a < 6 := by
  cases g with
  | none => exact ⟨fun h => absurd (vp_in_iff.mp h).1 (by decide), fun ⟨a, e, _⟩ => by cases e⟩
  | some m =>
    have := hg m rfl
    show vp_in (nI m) 6 ↔ _
    rw [vp_nI (by omega)]
    exact ⟨fun h => ⟨m, rfl, h⟩, fun ⟨a, e, h⟩ => by cases e; exact h⟩
theorem oM_6 {g : Option Nat} (hg : g90 g) : vp_in (oM g) 6 ↔ ∃ a, g = some a ∧ a < 6 := by
  cases g with
  | none => exact ⟨fun h => absurd (vp_in_iff.mp h).1 (by decide), fun ⟨a, e, _⟩ => by cases e⟩
  | some m =>
    have := hg m rfl
    show vp_in (nI m) 6 ↔ _
    rw [vp_nI (by omega)]
    exact ⟨fun h => ⟨m, rfl, h⟩, fun ⟨a, e, h⟩ => by cases e; exact h⟩
theorem oN_39 {g : Option Nat} (hg : g90 g) : vp_in (oN g - 39) 3 ↔ ∃ v, g = some v ∧ 39 ≤ v ∧ v < 42 := by
  cases g with
  | none => exact ⟨fun h => absurd (vp_in_iff.mp h).1 (by decide), fun ⟨a, e, _⟩ => by cases e⟩
  | some m =>
    have := hg m rfl
    show vp_in (nI m - nI 39) 3 ↔ _
    rw [vp_in_iff, pk_sub_toInt (by omega) (by omega)]
    exact ⟨fun h => ⟨m, rfl, by omega, by omega⟩, fun ⟨a, e, h⟩ => by cases e; omega⟩
theorem oM_39 {g : Option Nat} (hg : g90 g) : ((39 : Int64) ≤ (oM g).toInt64 ∧ (oM g).toInt64 ≤ 41) ↔ ∃ v, g = some v ∧ 39 ≤ v ∧ v < 42 := by
  rw [show (39 : Int64) = (nI 39).toInt64 from by decide, show (41 : Int64) = (nI 41).toInt64 from by decide, in_32, nI_toInt (by decide), nI_toInt (by decide)]
  cases g with
  | none => exact ⟨fun h => absurd h.1 (by decide), fun ⟨a, e, _⟩ => by cases e⟩
  | some m =>
    have := hg m rfl
    show ((39 : Nat) : Int) ≤ (nI m).toInt ∧ (nI m).toInt ≤ ((41 : Nat) : Int) ↔ _
    rw [nI_toInt (by omega)]
    exact ⟨fun h => ⟨m, rfl, by omega, by omega⟩, fun ⟨a, e, h⟩ => by cases e; omega⟩
theorem c_isMark (d : Nat) (x : Int32) (mem : mm_M) : sp (d + 1) 64 [.int x] mem (yes mem (vp_in x 6)) := by
  have h := vp_nlt (x := x) (n := 6) (by decide)
  refine ⟨trivial, rfl, mm_WP.go [] 100 ⟨fun c => ?_, fun c => ⟨fun c2 => ?_, fun c2 => ?_⟩⟩⟩
  · exact ⟨rfl, rfl, Or.inr ⟨fun z => (h.mp z).1 c, rfl⟩⟩
  · exact ⟨rfl, rfl, Or.inr ⟨fun z => Int32.not_le.mpr (h.mp z).2 c2, rfl⟩⟩
  · exact ⟨rfl, rfl, Or.inl ⟨h.mpr ⟨c, Int32.not_le.mp c2⟩, rfl⟩⟩
theorem wA_lt {w p : Nat} (hw : W3 w) : wA w p < 6 := by
  obtain ⟨h1, h2, h3⟩ := hw
  unfold wA
  split
  · omega
  · split <;> omega
section M41
variable {L : Nat} {xs : Nat → Int32} {A I : Nat → Nat → Int32} {F : Nat → Nat → Option Nat} {P : mm_M}
theorem c_fits (d : Nat) {r w o : Nat} {D : Sc} {g : Nat → Option Nat} (hs : SO (gm L xs A I F P) r D) (ho : okS D) (hw : W3 w) (hoo : o < 6) (hA : ∀ j, j < 6 → A 29 j = oN (g j)) (hg : ∀ j, j < 6 → g90 (g j)) : sp (d + 3) 63 [.ref 21, .ref r, .int (nI w), .int (nI o)] (gm L xs A I F P) (ans (gm L xs A I F P) (bI (fitB D (g (wA w (pWh o))) (g (wA w (pDo o))) (g (wA w (pWm o)))))) := by
  obtain ⟨t3, t4, t5, l3, l4, l5⟩ := p_t o hoo
  have hw6 : w < 600 := hw.1
  have io := ix_n (w := o) (N := 6) (by decide) hoo
  have i3 := ix_n (w := wA w (pWh o)) (N := 6) (by decide) (wA_lt hw)
  have i4 := ix_n (w := wA w (pDo o)) (N := 6) (by decide) (wA_lt hw)
  have i5 := ix_n (w := wA w (pWm o)) (N := 6) (by decide) (wA_lt hw)
  have c3 := c_wordAt (d + 1) (w := w) (p := pWh o) (by omega) l3 (gm L xs A I F P)
  rw [← show mm_t3.getD ((nI o).toNatClampNeg) 0 = nI (pWh o) by rw [io.2]; exact t3] at c3
  have c4 := c_wordAt (d + 1) (w := w) (p := pDo o) (by omega) l4 (gm L xs A I F P)
  rw [← show mm_t4.getD ((nI o).toNatClampNeg) 0 = nI (pDo o) by rw [io.2]; exact t4] at c4
  have c5 := c_wordAt (d + 1) (w := w) (p := pWm o) (by omega) l5 (gm L xs A I F P)
  rw [← show mm_t5.getD ((nI o).toNatClampNeg) 0 = nI (pWm o) by rw [io.2]; exact t5] at c5
  refine ⟨⟨_, rfl⟩, rfl, mm_WP.go [51] 80 ⟨io.1, ca c3 ⟨i3.1, io.1, ca c4 ⟨i4.1, io.1, ca c5 ⟨i5.1, ?_⟩⟩⟩⟩⟩
  show wp (d + 2) (mm_Al 63) cd_Told_fits _ 51 [some (.ref 21), some (.ref r), some (.int (nI w)), some (.int (nI o)), some (.int (A 29 ((nI (wA w (pWh o))).toNatClampNeg))), some (.int (A 29 ((nI (wA w (pDo o))).toNatClampNeg) - 39)), some (.int (A 29 ((nI (wA w (pWm o))).toNatClampNeg)))] [] (gm L xs A I F P)
  rw [i3.2, i4.2, i5.2, hA _ (wA_lt hw), hA _ (wA_lt hw), hA _ (wA_lt hw)]
  have q3 := hg _ (wA_lt (p := pWh o) hw)
  have q4 := hg _ (wA_lt (p := pDo o) hw)
  have q5 := hg _ (wA_lt (p := pWm o) hw)
  generalize g (wA w (pWh o)) = gw at *
  generalize g (wA w (pDo o)) = gd at *
  generalize g (wA w (pWm o)) = gq at *
  have no : fitB D gw gd gq = false → fits .boolean (.int 0) = true ∧ ans (gm L xs A I F P) (bI (fitB D gw gd gq)) (some (.int 0)) (gm L xs A I F P) := fun h => by
    rw [h]
    exact ⟨rfl, rfl, rfl⟩
  refine mm_WP.go [] 80 (cy (c_isMark (d + 1) _ _) (fun h => e1 (cy (c_isMark (d + 1) _ _) (fun h2 => e1 ⟨fun c => no (fit_d ?_), fun c => ⟨fun c2 => no (fit_d ?_), fun c2 => ?_⟩⟩) (fun h2 => e0 (no (fit_m (fun z => h2 ((oN_6 q5).mpr z))))))) (fun h => e0 (no (fit_w (fun z => h ((oN_6 q3).mpr z))))))
  · exact fun z => (vp_nlt (by decide)).mp ((oN_39 q4).mpr z) |>.1 c
  · exact fun z => Int32.not_le.mpr ((vp_nlt (n := 3) (by decide)).mp ((oN_39 q4).mpr z)).2 c2
  · obtain ⟨a, rfl, ha⟩ := (oN_6 q3).mp h
    obtain ⟨b, rfl, hb⟩ := (oN_6 q5).mp h2
    obtain ⟨v, rfl, hv⟩ := (oN_39 q4).mp ((vp_nlt (n := 3) (by decide)).mpr ⟨c, Int32.not_le.mp c2⟩)
    have pa := p64 a ha
    have pb := p64 b hb
    have hd := s_isDone (v := v - 39) (a := 2 ^ a) (b := 2 ^ b) d hs ho (by omega) (by omega) (by omega)
    rw [← sh_one a (by omega), ← sh_one b (by omega), ← show nI v - 39 = nI (v - 39) from pk_sub hv.1] at hd
    have eq : orb (dnb D (v - 39) (2 ^ a) (2 ^ b)) (dcO D) = fitB D (some a) (some v) (some b) := by
      rw [fit_yes ha hb hv]
      refine orb_cong (fun i hi => ?_)
      obtain ⟨o1, o2, o3⟩ := ho.2.2.2 i hi
      unfold dnb dB mkb
      rw [bw_1 _ (ho.2.2.1 _ o1) a ha, bw_1 _ (ho.2.2.1 _ o3) b hb]
    rw [eq] at hd
    refine ca hd ⟨fun c => no (bI_0 c), fun c => ?_⟩
    rw [bI_1 c]
    exact ⟨rfl, rfl, rfl⟩
theorem m_id_loop {d : Nat} {B : Nat × Nat} {Q : mm_Q} {s : Nat} {D : Sc} (hs : s < 24) (hR : RD A s D) (ho : okS D) {a v b : Nat} (ha : a < 6) (hb : b < 6) (hv : 39 ≤ v ∧ v < 42) (hq : Q (some (.int (bI (orb (dB D (v - 39) a b) (dcO D))))) (gm L xs A I F P)) :
    ∀ i, i ≤ dcO D → ∀ x y : Int32, x = nI (9 * s + 3 * i) → y = bI (orb (dB D (v - 39) a b) i) → wp (d + 1) B cd_Model_isDone Q 50 [some (.ref 38), some (.int (nI s)), some (.int (nI a)), some (.int (nI v)), some (.int (nI b)), some (.int y), some (.int x)] [] (gm L xs A I F P) := by
  have h3 := ho.2.1
  have i1 := ix_n (w := s) (N := 24) (by decide) hs
  have e41 : 9 * nI s + 3 * A 41 ((nI s).toNatClampNeg) = nI (9 * s + 3 * dcO D) := by
    rw [i1.2, hR.2.2.1, show (9 : Int32) = nI 9 from rfl, show (3 : Int32) = nI 3 from rfl, pk_mul, pk_mul, nI_add]
  refine rep (dcO D) ?_ ?_
  · intro x y hx hy
    subst hy
    exact mm_WP.go [50] 40 ⟨i1.1, lp_ge hx e41 (by omega) (Nat.le_refl _) (fun _ => ⟨bI_fit _, hq⟩) (fun h => absurd h (by omega))⟩
  · intro i hi ih x y hx hy
    subst hx
    obtain ⟨o1, o2, o3⟩ := ho.2.2.2 i hi
    obtain ⟨a1, a2, a3⟩ := hR.2.2.2 i hi
    have j0 := ix_n (w := 9 * s + 3 * i) (N := 216) (by decide) (by omega)
    have j1 : vp_in (nI (9 * s + 3 * i) + 1) 216 ∧ (nI (9 * s + 3 * i) + 1).toNatClampNeg = 9 * s + 3 * i + 1 := ix_e (nI_1 _) (by decide) (by omega)
    have j2 : vp_in (nI (9 * s + 3 * i) + 2) 216 ∧ (nI (9 * s + 3 * i) + 2).toNatClampNeg = 9 * s + 3 * i + 2 := ix_e (nI_add _ 2) (by decide) (by omega)
    have fin : ∀ u : Int32, u = bI (orb (dB D (v - 39) a b) i || dB D (v - 39) a b i) → wp (d + 1) B cd_Model_isDone Q 129 [some (.ref 38), some (.int (nI s)), some (.int (nI a)), some (.int (nI v)), some (.int (nI b)), some (.int y), some (.int (nI (9 * s + 3 * i)))] [.int u] (gm L xs A I F P) := by
      intro u hu
      refine mm_WP.go [50] 40 (ih _ _ ?_ hu)
      rw [show (3 : Int32) = nI 3 from rfl, nI_add]
      rfl
    have hc1 := m_hasMark (L := L) (xs := xs) (I := I) (F := F) (P := P) d hs hR ho o1 ha
    rw [← show A 42 ((nI (9 * s + 3 * i)).toNatClampNeg) = nI (dwO D i) by rw [j0.2]; exact a1] at hc1
    have hc2 := m_hasMark (L := L) (xs := xs) (I := I) (F := F) (P := P) d hs hR ho o3 hb
    rw [← show A 42 ((nI (9 * s + 3 * i) + 2).toNatClampNeg) = nI (dmO D i) by rw [j2.2]; exact a3] at hc2
    have ev : A 42 ((nI (9 * s + 3 * i) + 1).toNatClampNeg) = nI v - 39 ↔ dvO D i = v - 39 := by
      rw [j1.2, a2, show nI v - 39 = nI (v - 39) from pk_sub hv.1, nI_eq (by omega) (by omega)]
    refine mm_WP.go [50, 129] 60 ⟨i1.1, lp_ge (k := 9 * s + 3 * i) rfl e41 (by omega) (by omega) (fun h => absurd h (by omega)) (fun _ => ⟨fun c => fin 1 ?_, fun c => ⟨j1.1, ?_⟩⟩)⟩
    · rw [hy] at c
      rw [bI_1 c]
      rfl
    · rw [hy] at c
      have hf := bI_0 c
      unfold dB at fin
      refine ⟨fun c1 => fin 0 ?_, fun c1 => ⟨j0.1, cy hc1 (fun h => e1 ⟨j2.1, cy hc2 (fun h2 => e1 (fin 1 ?_)) (fun h2 => e0 (fin 0 ?_))⟩) (fun h => e0 (fin 0 ?_))⟩⟩
      · rw [show orb (fun i => decide (dvO D i = v - 39) && (mkb D (dwO D i) a && mkb D (dmO D i) b)) i = false from hf, decide_eq_false (fun z => c1 (ev.mpr z))]
        rfl
      · rw [h, h2, decide_eq_true (ev.mp c1)]
        simp
        rfl
      · rw [show orb (fun i => decide (dvO D i = v - 39) && (mkb D (dwO D i) a && mkb D (dmO D i) b)) i = false from hf, h, ff_of h2]
        simp
        rfl
      · rw [show orb (fun i => decide (dvO D i = v - 39) && (mkb D (dwO D i) a && mkb D (dmO D i) b)) i = false from hf, ff_of h]
        simp
        rfl
theorem m_isDone (d : Nat) {s : Nat} {D : Sc} (hs : s < 24) (hR : RD A s D) (ho : okS D) {gw gd gq : Option Nat} (q3 : g90 gw) (q4 : g90 gd) (q5 : g90 gq) : sp (d + 2) 164 [.ref 38, .int (nI s), .int (oM gw), .int (oM gd), .int (oM gq)] (gm L xs A I F P) (ans (gm L xs A I F P) (bI (fitB D gw gd gq))) := by
  have no : fitB D gw gd gq = false → fits .boolean (.int 0) = true ∧ ans (gm L xs A I F P) (bI (fitB D gw gd gq)) (some (.int 0)) (gm L xs A I F P) := fun h => by
    rw [h]
    exact ⟨rfl, rfl, rfl⟩
  have iw : ∀ x : Int32, ((0 : Int64) ≤ x.toInt64 ∧ x.toInt64 ≤ 5) ↔ vp_in x 6 := fun x => in_vp (b := 5) (n := 6) rfl
  refine ⟨⟨_, rfl⟩, rfl, mm_WP.go [50] 80 (cy (m_in d _ _ _ _) (fun h => e1 (cy (m_in d _ _ _ _) (fun h2 => e1 (cy (m_in d _ _ _ _) (fun h3 => n1 ?_) (fun h3 => n0 (no (fit_d (fun z => h3 ((oM_39 q4).mpr z))))))) (fun h2 => e0 (no (fit_m (fun z => h2 ((iw _).mpr ((oM_6 q5).mpr z)))))))) (fun h => e0 (no (fit_w (fun z => h ((iw _).mpr ((oM_6 q3).mpr z)))))))⟩
  obtain ⟨a, rfl, ha⟩ := (oM_6 q3).mp ((iw _).mp h)
  obtain ⟨b, rfl, hb⟩ := (oM_6 q5).mp ((iw _).mp h2)
  obtain ⟨v, rfl, hv⟩ := (oM_39 q4).mp h3
  refine m_id_loop hs hR ho ha hb hv ?_ 0 (Nat.zero_le _) _ _ ?_ rfl
  · rw [fit_yes ha hb hv]
    exact ⟨rfl, rfl⟩
  · rw [show (9 : Int32) = nI 9 from rfl, pk_mul]
    rfl
end M41
