/-! the reference: enough -/
def oM : Option Nat → Int32
  | none => -1
  | some c => nI c
theorem k24_od {T : Nat} (hT : T < 2 ^ 24) : od 31 T = k24 T := by
  rw [od_ct]
  unfold k24
  rw [show (31 : Nat) = 24 + 7 from rfl, fb_ct_split, fb_ct_zero.mpr (fun k _ => Nat.testBit_lt_two_pow (Nat.lt_of_lt_of_le hT (Nat.pow_le_pow_right (by decide) (Nat.le_add_right 24 k)))), Nat.add_zero]
/-- of nine unlike no three part all -/
theorem pw_8 {U : List Nat} {T : Nat} (hT : T < 2 ^ 24) (h3 : k24 T ≤ 3) (h : pw U T) : U.length ≤ 8 := by
  have hx : ∀ i, ∃ y, y < 8 ∧ U.getD i 0 &&& T = sc 24 (tB T) y := by
    intro i
    obtain ⟨y, hy, he⟩ := sc_all (q := tB T) 24 (U.getD i 0 &&& T) (Nat.lt_of_le_of_lt Nat.and_le_right hT) (fun j hj => by
      rw [Nat.testBit_and, Bool.and_eq_true] at hj
      exact hj.2)
    exact ⟨y, Nat.lt_of_lt_of_le hy (show 2 ^ fb_ct (tB T) 24 ≤ 2 ^ 3 from Nat.pow_le_pow_right (by decide) h3), he⟩
  refine fb_holes 8 U.length (fun i => (hx i).choose) (fun i _ => (hx i).choose_spec.1) (fun i j hij hj he => ?_)
  have e1 := (hx i).choose_spec.2
  have e2 := (hx j).choose_spec.2
  refine h j hj i hij ?_
  rw [e1, e2]
  exact congrArg _ he.symm
section M22
variable {L : Nat} {xs : Nat → Int32} {A I : Nat → Nat → Int32} {F : Nat → Nat → Option Nat} {P : mm_M} {n : Nat} {H S : Nat → Nat → Bool} {K : Nat} {sh : Nat → Nat}
theorem m_pa_in {d : Nat} {B : Nat × Nat} {Q : mm_Q} {U : List Nat} {X i : Nat} (hU : ∀ y, y ∈ U → y < 2 ^ 24) (hA : lrw (A 54) U) (h90 : U.length ≤ 90) (hi : i < U.length)
    (hf : ∀ j, j < i → U.getD i 0 &&& X = U.getD j 0 &&& X → Q (some (.int 0)) (gm L xs A I F P))
    (hq : ∀ x, (∀ j, j < i → ¬ U.getD i 0 &&& X = U.getD j 0 &&& X) → wp d B cd_Model_partsAll Q 44 [some (.ref 38), some (.int (nI X)), some (.int (nI i)), some (.int x)] [] (gm L xs A I F P)) :
    ∀ (j k : Nat) (x : Int32), j + k = i → x = nI k → (∀ j, j < k → ¬ U.getD i 0 &&& X = U.getD j 0 &&& X) → wp d B cd_Model_partsAll Q 12 [some (.ref 38), some (.int (nI X)), some (.int (nI i)), some (.int x)] [] (gm L xs A I F P) := by
  intro j
  induction j with
  | zero =>
    intro k x hk hx hno
    refine mm_WP.go [12, 44] 100 (lp_ge (N := i) hx rfl (by omega) (by omega) (fun h => ?_) (fun h => absurd h (by omega)))
    subst h
    exact hq _ hno
  | succ j ih =>
    intro k x hk hx hno
    refine mm_WP.go [12, 44] 100 (lp_ge (N := i) hx rfl (by omega) (by omega) (fun h => absurd h (by omega)) (fun hki => ?_))
    subst hx
    have i1 := ix_n (w := i) (N := 90) (by decide) (by omega)
    have i2 := ix_n (w := k) (N := 90) (by decide) (by omega)
    have ya := hU _ (getD_mem hi)
    have yb := hU _ (getD_mem (show k < U.length by omega))
    have la : U.getD i 0 &&& X < 2 ^ 31 := Nat.lt_of_le_of_lt Nat.and_le_left (Nat.lt_of_lt_of_le ya (by decide))
    have lb : U.getD k 0 &&& X < 2 ^ 31 := Nat.lt_of_le_of_lt Nat.and_le_left (Nat.lt_of_lt_of_le yb (by decide))
    have ez : A 54 ((nI i).toNatClampNeg) &&& nI X = A 54 ((nI k).toNatClampNeg) &&& nI X ↔ U.getD i 0 &&& X = U.getD k 0 &&& X := by
      rw [i1.2, i2.2, hA i hi, hA k (by omega), fa_and, fa_and, nI_eq la lb]
    refine ⟨i1.1, i2.1, fun c => ?_, fun c => ?_⟩
    · refine ih (k + 1) _ (by omega) (nI_1 k) (fun j2 h2 => ?_)
      rcases Nat.lt_or_ge j2 k with h3 | h3
      · exact hno j2 h3
      · have : j2 = k := by omega
        subst this
        exact fun z => c (ez.mpr z)
    · exact ⟨rfl, hf k hki (ez.mp c)⟩
theorem m_pa_loop {d : Nat} {B : Nat × Nat} {Q : mm_Q} {U : List Nat} {X : Nat} (hU : ∀ y, y ∈ U → y < 2 ^ 24) (hA : lrw (A 54) U) (hI : I 38 26 = nI U.length) (h90 : U.length ≤ 90)
    (h0 : ¬ pw U X → Q (some (.int 0)) (gm L xs A I F P)) (h1 : pw U X → Q (some (.int 1)) (gm L xs A I F P)) :
    ∀ (j k : Nat) (x : Int32) (u : Option Value), j + k = U.length → x = nI k → (∀ i, i < k → ∀ j, j < i → ¬ U.getD i 0 &&& X = U.getD j 0 &&& X) → wp d B cd_Model_partsAll Q 2 [some (.ref 38), some (.int (nI X)), some (.int x), u] [] (gm L xs A I F P) := by
  intro j
  induction j with
  | zero =>
    intro k x u hk hx hno
    refine mm_WP.go [2] 100 (lp_ge hx hI (by omega) (by omega) (fun h => ?_) (fun h => absurd h (by omega)))
    subst h
    exact ⟨rfl, h1 hno⟩
  | succ j ih =>
    intro k x u hk hx hno
    refine mm_WP.go [2, 12] 100 (lp_ge hx hI (by omega) (by omega) (fun h => absurd h (by omega)) (fun hki => ?_))
    subst hx
    refine m_pa_in hU hA h90 hki (fun j2 h2 h3 => h0 (fun z => z k hki j2 h2 h3)) (fun x hno2 => ?_) k 0 _ rfl rfl (fun j2 h2 => absurd h2 (Nat.not_lt_zero j2))
    refine mm_WP.go [2] 100 (ih (k + 1) _ _ (by omega) (nI_1 k) (fun i h2 => ?_))
    rcases Nat.lt_or_ge i k with h3 | h3
    · exact hno i h3
    · have : i = k := by omega
      subst this
      exact hno2
theorem m_partsAll (d : Nat) {U : List Nat} {X : Nat} (hU : ∀ y, y ∈ U → y < 2 ^ 24) (hA : lrw (A 54) U) (hI : I 38 26 = nI U.length) (h90 : U.length ≤ 90) : sp (d + 1) 169 [.ref 38, .int (nI X)] (gm L xs A I F P) (yes (gm L xs A I F P) (pw U X)) := by
  refine ⟨⟨_, rfl⟩, rfl, mm_WP.go [2] 100 ?_⟩
  exact m_pa_loop hU hA hI h90 (fun h => ⟨rfl, Or.inr ⟨h, rfl⟩⟩) (fun h => ⟨rfl, Or.inl ⟨h, rfl⟩⟩) U.length 0 _ _ rfl rfl (fun i hi => absurd hi (Nat.not_lt_zero i))
theorem m_so_loop {d : Nat} {B : Nat × Nat} {Q : mm_Q} {q : Nat → Bool} {T : Nat} (hs : SHN n (fb_ct q 24) (shn q 24) A I) (hT : T < 2 ^ fb_ct q 24) (hq : Q (some (.int (nI (sc 24 q T)))) (gm L xs A I F P)) :
    ∀ (j k : Nat) (x y : Int32), j + k = fb_ct q 24 → x = nI k → y = nI (sc 24 q (T % 2 ^ k)) → wp d B cd_Model_scenesOf Q 4 [some (.ref 38), some (.int (nI T)), some (.int y), some (.int x)] [] (gm L xs A I F P) := by
  obtain ⟨hK, hn, hI, hA⟩ := hs
  intro j
  induction j with
  | zero =>
    intro k x y hk hx hy
    refine mm_WP.go [4] 100 (lp_ge hx hI (by omega) (by omega) (fun h => ?_) (fun h => absurd h (by omega)))
    rw [hy, h, Nat.mod_eq_of_lt hT]
    exact hq
  | succ j ih =>
    intro k x y hk hx hy
    refine mm_WP.go [4] 100 (lp_ge hx hI (by omega) (by omega) (fun h => absurd h (by omega)) (fun hkK => ?_))
    subst hx
    obtain ⟨a1, a2⟩ := hA k hkK
    have hi := ix_n (w := k) (N := 12) (by decide) (by omega)
    have hT2 : T < 2 ^ 31 := Nat.lt_of_lt_of_le hT (Nat.pow_le_pow_right (by decide) (by omega))
    refine ⟨hi.1, ih (k + 1) _ _ (by omega) (nI_1 k) ?_⟩
    rw [hi.2, a1, sr_b hT2 (by omega), sh_b (by omega), hy, fa_or, sc_step hkK]
theorem m_scenesOf (d : Nat) {q : Nat → Bool} {T : Nat} (hs : SHN n (fb_ct q 24) (shn q 24) A I) (hT : T < 2 ^ fb_ct q 24) : sp (d + 1) 170 [.ref 38, .int (nI T)] (gm L xs A I F P) (ans (gm L xs A I F P) (nI (sc 24 q T))) := by
  refine ⟨⟨_, rfl⟩, rfl, mm_WP.go [4] 100 ?_⟩
  refine m_so_loop hs hT ⟨rfl, rfl⟩ (fb_ct q 24) 0 _ _ rfl rfl ?_
  rw [Nat.pow_zero, Nat.mod_one]
  have : sc 24 q 0 = 0 := by
    unfold sc
    rw [sb_0]
    intro i _
    rw [Nat.zero_testBit, Bool.and_false]
  rw [this]
  rfl
/-- the set that stands for the class's -/
def oS (q : Nat → Bool) (b : Option Nat) : Option Nat := b.map (sc 24 q)
noncomputable def pR (U : List Nat) (T : Nat) : Bool := bp (k24 T ≤ 3 ∧ pw U T)
theorem pow_K {k : Nat} (h : k ≤ 12) : 2 ^ k ≤ 4096 := show 2 ^ k ≤ 2 ^ 12 from Nat.pow_le_pow_right (by decide) h
theorem k24_le (T : Nat) : k24 T ≤ 24 := fb_ct_le _ _
theorem m_en_loop {d : Nat} {B : Nat × Nat} {Q : mm_Q} {q : Nat → Bool} {w : Int32} {U : List Nat} (hs : SHN n (fb_ct q 24) (shn q 24) A I) (hU : ∀ y, y ∈ U → y < 2 ^ 24) (hA : lrw (A 54) U) (hI : I 38 26 = nI U.length) (h8 : U.length ≤ 8) :
    ∀ (j k : Nat) (x y : Int32) (b : Option Nat), j + k = 2 ^ fb_ct q 24 → x = nI k → y = oM b → (∀ c, b = some c → c < 2 ^ fb_ct q 24) → (∀ b2, (∀ c, b2 = some c → c < 2 ^ fb_ct q 24) → b2 = ns (pR U) k24 j k b → Q (some (.int (oN (oS q b2)))) (gm L xs A I F P)) →
      wp (d + 1) B cd_Model_enough Q 27 [some (.ref 38), some (.int w), some (.int y), some (.int x)] [] (gm L xs A I F P) := by
  have hs0 := hs
  obtain ⟨hK, hn, hI2, hA2⟩ := hs
  have hp := pow_K hK
  have hsh : (1 : Int32) <<< (I 38 24 &&& 31) = nI (2 ^ fb_ct q 24) := by rw [hI2, sh_one _ (by omega)]
  intro j
  induction j with
  | zero =>
    intro k x y b hk hx hy hb hq
    refine mm_WP.go [27] 100 (lp_ge hx hsh (by omega) (by omega) (fun h => ?_) (fun h => absurd h (by omega)))
    cases b with
    | none =>
      subst hy
      exact ⟨fun c => absurd c (by decide), fun _ => hq none hb rfl⟩
    | some c0 =>
      have hc := hb c0 rfl
      subst hy
      refine ⟨fun _ => ca (m_scenesOf d hs0 hc) (hq (some c0) hb rfl), fun c => absurd (nI_pos' (by omega)) c⟩
  | succ j ih =>
    intro k x y b hk hx hy hb hq
    refine mm_WP.go [27] 100 (lp_ge hx hsh (by omega) (by omega) (fun h => absurd h (by omega)) (fun hk2 => ?_))
    subst hx
    have hk24 : k < 2 ^ 24 := Nat.lt_of_lt_of_le (show k < 4096 by omega) (by decide)
    refine ⟨fun c => ?_, fun _ => ?_⟩
    · rw [hI] at c
      exact absurd ((nI_ltI (a := 8) (by omega) (by omega)).mp c) (by omega)
    have l1 := k24_le k
    have key : pw U k ∧ k24 k ≤ 3 ∧ (∀ c, b = some c → k24 k < k24 c) → wp (d + 1) B cd_Model_enough Q 27 [some (.ref 38), some (.int w), some (.int (nI k)), some (.int (nI k + 1))] [] (gm L xs A I F P) := by
      rintro ⟨p1, p2, p3⟩
      refine ih (k + 1) _ _ (some k) (by omega) (nI_1 k) rfl (fun c hc => by cases hc; omega) (fun b2 h2 h3 => hq b2 h2 ?_)
      rw [h3]
      have hpR : pR U k = true := bp_iff.mpr ⟨p2, p1⟩
      cases b with
      | none => rw [ns, if_pos hpR]
      | some c0 => rw [ns, if_pos ⟨hpR, p3 c0 rfl⟩]
    have key2 : (pR U k = false ∨ ∃ c, b = some c ∧ ¬ k24 k < k24 c) → wp (d + 1) B cd_Model_enough Q 27 [some (.ref 38), some (.int w), some (.int y), some (.int (nI k + 1))] [] (gm L xs A I F P) := by
      intro h
      refine ih (k + 1) _ _ b (by omega) (nI_1 k) hy hb (fun b2 h2 h3 => hq b2 h2 ?_)
      rw [h3]
      rcases h with h | ⟨c0, rfl, h⟩
      · rw [ns_no h]
      · rw [ns, if_neg (fun z => h z.2)]
    have hpa := m_partsAll (L := L) (xs := xs) (A := A) (I := I) (F := F) (P := P) d (X := k) hU hA hI (by omega)
    refine ca (m_ones d (by omega) _) ?_
    rw [k24_od hk24]
    refine ⟨fun c => ?_, fun c => ?_⟩
    · have c2 : 3 < k24 k := (nI_ltI (a := 3) (b := k24 k) (by omega) (by omega)).mp c
      exact key2 (Or.inl (bp_false.mpr (fun z => by omega)))
    · have c2 : ¬ 3 < k24 k := fun z => c ((nI_ltI (a := 3) (b := k24 k) (by omega) (by omega)).mpr z)
      cases b with
      | none =>
        subst hy
        refine ⟨fun _ => cy hpa (fun h => e1 (key ⟨h, by omega, fun c hc => by cases hc⟩)) (fun h => e0 (key2 (Or.inl (bp_false.mpr (fun z => h z.2))))), fun c => absurd (by decide) c⟩
      | some c0 =>
        have hc := hb c0 rfl
        have hc24 : c0 < 2 ^ 24 := Nat.lt_of_lt_of_le (show c0 < 4096 by omega) (by decide)
        have l2 := k24_le c0
        subst hy
        refine ⟨fun c => absurd c (nI_pos (by omega)), fun _ => ca (m_ones d (by omega) _) (ca (m_ones d (by omega) _) ?_)⟩
        rw [k24_od hk24, k24_od hc24]
        refine ⟨fun c => ?_, fun c => ?_⟩
        · have c3 : k24 c0 ≤ k24 k := (nI_leI (a := k24 c0) (b := k24 k) (by omega) (by omega)).mp c
          exact key2 (Or.inr ⟨c0, rfl, by omega⟩)
        · have c3 : ¬ k24 c0 ≤ k24 k := fun z => c ((nI_leI (a := k24 c0) (b := k24 k) (by omega) (by omega)).mpr z)
          exact cy hpa (fun h => e1 (key ⟨h, by omega, fun c hc => by cases hc; omega⟩)) (fun h => e0 (key2 (Or.inl (bp_false.mpr (fun z => h z.2)))))
/-! the two numberings -/
theorem au_map {g : Nat → Nat} {l : List Nat} {x : Nat} (h : ∀ y, y ∈ l → g y = g x → y = x) : au (l.map g) (g x) = (au l x).map g := by
  unfold au
  by_cases c : x ∈ l
  · rw [if_pos c, if_pos (List.mem_map.mpr ⟨x, c, rfl⟩)]
  · rw [if_neg c, if_neg (fun z => by
      obtain ⟨y, hy, he⟩ := List.mem_map.mp z
      exact c (h y hy he ▸ hy)), List.map_append, List.map_singleton]
theorem ul_map {p : Nat → Bool} {u v : Nat → Nat} {g : Nat → Nat} (huv : ∀ m, v m = g (u m)) (hg : ∀ a b, g (u a) = g (u b) → u a = u b) : ∀ k, ul p v k = (ul p u k).map g
  | 0 => rfl
  | k + 1 => by
    rw [ul, ul, ul_map huv hg k]
    by_cases c : p k = true
    · rw [if_pos c, if_pos c, huv]
      refine au_map (fun y hy he => ?_)
      obtain ⟨m, _, _, rfl⟩ := (ul_mem k).mp hy
      exact hg _ _ he
    · rw [if_neg c, if_neg c]
theorem uX_tm {w m : Nat} : uX n H S w m = sc 24 (am n S w) (tm (fb_ct (am n S w) 24) (shn (am n S w) 24) H m) := by
  apply Nat.eq_of_testBit_eq
  intro i
  unfold uX sc
  rw [sb_tb, sb_tb]
  by_cases hi : i < 24
  · unfold tm
    rw [sb_tb]
    cases h : am n S w i
    · rfl
    · have h2 : fb_ct (am n S w) i < fb_ct (am n S w) 24 := by
        have := fb_ct_mono (am n S w) (show i + 1 ≤ 24 by omega)
        rw [fb_ct_succ, h] at this
        simp at this
        omega
      rw [decide_eq_true h2, shn_of 24 hi h]
      simp
  · rw [decide_eq_false hi]
    rfl
theorem tm_K {w m : Nat} : tm (fb_ct (am n S w) 24) (shn (am n S w) 24) H m < 2 ^ fb_ct (am n S w) 24 := sb_lt _ _
theorem getD_map {g : Nat → Nat} {l : List Nat} {i : Nat} (hi : i < l.length) : (l.map g).getD i 0 = g (l.getD i 0) := by
  rw [List.getD_eq_getElem?_getD, List.getD_eq_getElem?_getD, List.getElem?_map, List.getElem?_eq_getElem hi]
  rfl
theorem pw_sc {q : Nat → Bool} {U : List Nat} {T : Nat} (hU : ∀ y, y ∈ U → y < 2 ^ fb_ct q 24) : pw (U.map (sc 24 q)) (sc 24 q T) ↔ pw U T := by
  unfold pw
  rw [List.length_map]
  constructor
  · intro h i hi j hj he
    refine h i hi j hj ?_
    rw [getD_map hi, getD_map (show j < U.length by omega), sc_and, sc_and, he]
  · intro h i hi j hj he
    refine h i hi j hj ?_
    rw [getD_map hi, getD_map (show j < U.length by omega), sc_and, sc_and] at he
    exact sc_inj (Nat.lt_of_le_of_lt Nat.and_le_left (hU _ (getD_mem hi))) (Nat.lt_of_le_of_lt Nat.and_le_left (hU _ (getD_mem (show j < U.length by omega)))) he
theorem k24_sc {q : Nat → Bool} {T : Nat} (hT : T < 2 ^ fb_ct q 24) (hK : fb_ct q 24 ≤ 12) : k24 (sc 24 q T) = k24 T := by
  unfold k24
  rw [sc_ones]
  generalize fb_ct q 24 = K at *
  rw [show (24 : Nat) = K + (24 - K) by omega, fb_ct_split (tB T) K (24 - K), fb_ct_zero.mpr (fun k _ => Nat.testBit_lt_two_pow (Nat.lt_of_lt_of_le hT (Nat.pow_le_pow_right (by decide) (Nat.le_add_right K k)))), Nat.add_zero]
theorem mn_en {w : Nat} {b : Option Nat} (h : mn (pR (ul (L0 n H S w) (tm (fb_ct (am n S w) 24) (shn (am n S w) 24) H) 90)) k24 (2 ^ fb_ct (am n S w) 24) b) : mn (pE (sb 24 (am n S w)) (ul (L0 n H S w) (uX n H S w) 90)) k24 (2 ^ 24) (oS (am n S w) b) := by
  have hK := am_12 (n := n) (S := S) (w := w) (s := 24)
  have hu : ul (L0 n H S w) (uX n H S w) 90 = (ul (L0 n H S w) (tm (fb_ct (am n S w) 24) (shn (am n S w) 24) H) 90).map (sc 24 (am n S w)) := ul_map (fun m => uX_tm) (fun a b he => sc_inj tm_K tm_K he) 90
  have hU : ∀ y, y ∈ ul (L0 n H S w) (tm (fb_ct (am n S w) 24) (shn (am n S w) 24) H) 90 → y < 2 ^ fb_ct (am n S w) 24 := fun y hy => by
    obtain ⟨m, _, _, rfl⟩ := (ul_mem 90).mp hy
    exact tm_K
  refine mn_map h (fun T hT => ⟨sc_lt _ _ _, ?_, k24_sc hT hK⟩) (fun X hX hp => ?_) (fun i k hi hk hik => sc_le hi hk hik)
  · unfold pE pR
    refine bp_congr ?_
    rw [hu, pw_sc hU]
    have hk := k24_sc hT hK
    unfold k24 at hk ⊢
    rw [hk]
    refine ⟨fun z => z.2, fun z => ⟨fun i hi => ?_, z⟩⟩
    obtain ⟨a, b⟩ := sc_sub hi
    rw [sb_tb, decide_eq_true b, a]
    rfl
  · obtain ⟨h1, _, _⟩ := bp_iff.mp hp
    exact sc_all 24 X hX (fun i hi => by
      have := h1 i hi
      rw [sb_tb, Bool.and_eq_true] at this
      exact this.2)
theorem m_enough (d : Nat) (hR : RS n H S A I) {w : Nat} (hw : w < 6) : sp (d + 8) 166 [.ref 38, .int (nI w)] (gm L xs A I F P) (fun r m => ∃ b, mn (pE (sb 24 (am n S w)) (ul (L0 n H S w) (uX n H S w) 90)) k24 (2 ^ 24) b ∧ an L xs A I F P (oN b) r m) := by
  refine ⟨⟨_, rfl⟩, rfl, mm_WP.go [27] 100 (cy (m_isWord (d + 5) _ _) (fun _ => n1 ?_) (fun h => absurd (ix_n (N := 6) (by decide) hw).1 h))⟩
  refine ⟨_, m_findShown (d + 6) hR hw, ?_⟩
  rintro r m ⟨rfl, f, hs, rfl⟩
  refine ⟨_, m_findUnlike (A := uR A 53 f) (I := uI I 38 24 (nI (fb_ct (am n S w) 24))) (d + 5) hR hs hw, ?_⟩
  rintro r m ⟨rfl, f2, hf2, rfl⟩
  have hU : ∀ y, y ∈ ul (L0 n H S w) (tm (fb_ct (am n S w) 24) (shn (am n S w) 24) H) 90 → y < 2 ^ 24 := fun y hy => Nat.lt_of_lt_of_le (utm_lt hs.1 hy) (by decide)
  have hlen := ul_len (p := L0 n H S w) (u := tm (fb_ct (am n S w) 24) (shn (am n S w) 24) H) 90
  have hfin : ∀ b : Option Nat, mn (pR (ul (L0 n H S w) (tm (fb_ct (am n S w) 24) (shn (am n S w) 24) H) 90)) k24 (2 ^ fb_ct (am n S w) 24) b → ∃ b2, mn (pE (sb 24 (am n S w)) (ul (L0 n H S w) (uX n H S w) 90)) k24 (2 ^ 24) b2 ∧ an L xs A I F P (oN b2) (some (.int (oN (oS (am n S w) b)))) (g54 L xs (uR A 53 f) (uI I 38 24 (nI (fb_ct (am n S w) 24))) F P f2 (ul (L0 n H S w) (tm (fb_ct (am n S w) 24) (shn (am n S w) 24) H) 90).length) := fun b hb => ⟨_, mn_en hb, rfl, _, _, by rw [ob_R rfl, ob_R rfl], by rw [oi_I rfl, oi_I rfl], rfl⟩
  rcases Nat.lt_or_ge 8 (ul (L0 n H S w) (tm (fb_ct (am n S w) 24) (shn (am n S w) 24) H) 90).length with h8 | h8
  · have hK := am_12 (n := n) (S := S) (w := w) (s := 24)
    have hp := pow_K hK
    have hp0 : 0 < 2 ^ fb_ct (am n S w) 24 := Nat.two_pow_pos _
    have hsh : (1 : Int32) <<< ((nI (fb_ct (am n S w) 24)) &&& 31) = nI (2 ^ fb_ct (am n S w) 24) := sh_one _ (by omega)
    refine mm_WP.go [27] 100 (lp_ge (k := 0) rfl hsh (by omega) (by omega) (fun h => absurd h (by omega)) (fun _ => ⟨fun _ => ⟨fun c => absurd c (by decide), fun _ => ?_⟩, fun c => absurd (nI_lt (a := 8) h8 (by omega)) c⟩))
    exact hfin none (fun T hT => bp_false.mpr (fun z => absurd (pw_8 (Nat.lt_of_lt_of_le hT (Nat.le_trans hp (by decide))) z.1 z.2) (by omega)))
  · refine m_en_loop (A := uR (uR A 53 f) 54 f2) (I := uI (uI I 38 24 (nI (fb_ct (am n S w) 24))) 38 26 (nI (ul (L0 n H S w) (tm (fb_ct (am n S w) 24) (shn (am n S w) 24) H) 90).length)) (q := am n S w) (n := n) (d := d + 6) hs hU hf2 rfl h8 (2 ^ fb_ct (am n S w) 24) 0 _ _ none rfl rfl rfl (fun c hc => by cases hc) (fun b2 _ h2 => ?_)
    rw [h2]
    exact hfin _ (ns_mn0 _ _ _)
theorem m_enough_r (d : Nat) {w : Int32} (hw : ¬ vp_in w 6) : sp (d + 8) 166 [.ref 38, .int w] (gm L xs A I F P) (rM L xs A I F P 1 (-1)) := by
  refine ⟨⟨_, rfl⟩, rfl, mm_WP.go [27] 100 (cy (m_isWord (d + 5) _ _) (fun h => absurd h hw) (fun h => n0 ?_))⟩
  exact ca (m_rf1 (d + 6)) ⟨rfl, rfl⟩
end M22
