/-! the reference: givings, giving -/
theorem sr_bit : ∀ v, v < 64 → ∀ k, k < 6 → (nI v >>> (nI k &&& 31)) &&& 1 = bI (v.testBit k) := by decide +kernel
theorem wl_at : ∀ v, v < 64 → ∀ k, k < 6 → v.testBit k = true → (wl v).getD (fb_ct (fun i => v.testBit i) k) 0 = k := by decide +kernel
theorem wl_ct : ∀ v, v < 64 → fb_ct (fun i => v.testBit i) 6 = (wl v).length := by decide +kernel
theorem wl_nd : ∀ v, v < 64 → (wl v).Nodup := by decide +kernel
theorem upd_at (f : Nat → Int32) (i : Nat) (x : Int32) (k : Nat) : upd f i x k = if k = i then x else f k := by
  unfold upd
  rfl
section M14
variable {L : Nat} {xs : Nat → Int32} {A I : Nat → Nat → Int32} {F : Nat → Nat → Option Nat} {P : mm_M} {n : Nat} {H S : Nat → Nat → Bool}
theorem m_isSet (d : Nat) (x : Int32) (L : Nat) (xs : Nat → Int32) (A I : Nat → Nat → Int32) (F : Nat → Nat → Option Nat) (P : mm_M) : sp (d + 3) 151 [.ref 38, .int x] (gm L xs A I F P) (yes (gm L xs A I F P) (GS x)) := by
  have e : ((1 : Int64) ≤ x.toInt64 ∧ x.toInt64 ≤ 63) ↔ (1 ≤ x.toInt ∧ x.toInt ≤ 63) := in_32 1 x 63
  rcases GS_or x with ⟨v, h1, h2, rfl⟩ | ⟨h, hg⟩
  · have o := (wl_od v h2).2
    have h6 : (wl v).length ≤ 6 := by
      have := List.length_filter_le (fun i => v.testBit i) (List.range 6)
      simpa [wl] using this
    refine ⟨⟨_, rfl⟩, rfl, mm_WP.go [] 100 (cy (m_in (d + 1) _ _ _ _) (fun _ => ?_) (fun h => ?_))⟩
    · refine e1 (ca (m_ones (d + 1) (x := v) (by omega) _) ?_)
      rw [o]
      refine ⟨fun c => ?_, fun c => ?_⟩
      · refine ⟨rfl, rfl, Or.inr ⟨fun z => ?_, rfl⟩⟩
        have h5 := (GS_iff h1 h2).mp z
        rw [fa_lt, nI_toInt (by omega), show (3 : Int32).toInt = 3 from rfl] at c
        omega
      · refine ⟨rfl, rfl, Or.inl ⟨(GS_iff h1 h2).mpr ?_, rfl⟩⟩
        rw [fa_lt, nI_toInt (by omega), show (3 : Int32).toInt = 3 from rfl] at c
        omega
    · refine absurd (e.mpr ?_) h
      rw [nI_toInt (by omega)]
      omega
  · refine ⟨⟨_, rfl⟩, rfl, mm_WP.go [] 100 (cy (m_in (d + 1) _ _ _ _) (fun h2 => ?_) (fun _ => ?_))⟩
    · have h3 := e.mp h2
      rw [fa_le, fa_le, show (0 : Int32).toInt = 0 from rfl, show (64 : Int32).toInt = 64 from rfl] at h
      omega
    · exact e0 ⟨rfl, rfl, Or.inr ⟨hg, rfl⟩⟩
theorem m_fw_loop {d : Nat} {B : Nat × Nat} {Q : mm_Q} {v : Nat} (hv : v < 64) (h3 : (wl v).length ≤ 3) (hq : ∀ f, (∀ i, i < (wl v).length → f i = nI ((wl v).getD i 0)) → Q none (gm L xs (uR A 51 f) (uI I 38 21 (nI (wl v).length)) F P)) :
    ∀ (j k : Nat) (x : Int32) (f : Nat → Int32), j + k = 6 → x = nI k → (∀ i, i < fb_ct (fun i => v.testBit i) k → f i = nI ((wl v).getD i 0)) →
      wp d B cd_Model_findWords Q 7 [some (.ref 38), some (.int (nI v)), some (.int x)] [] (gm L xs (uR A 51 f) (uI I 38 21 (nI (fb_ct (fun i => v.testBit i) k))) F P) := by
  intro j
  induction j with
  | zero =>
    intro k x f hk hx hf
    refine mm_WP.go [7] 100 (lp_ge (N := 6) hx rfl (by omega) (by omega) (fun h => ?_) (fun h => absurd h (by omega)))
    subst h
    rw [wl_ct v hv] at hf ⊢
    exact hq f hf
  | succ j ih =>
    intro k x f hk hx hf
    refine mm_WP.go [7] 100 (lp_ge (N := 6) hx rfl (by omega) (by omega) (fun h => absurd h (by omega)) (fun _ => ?_))
    subst hx
    have hb := sr_bit v hv k (by omega)
    have hm : fb_ct (fun i => v.testBit i) (k + 1) ≤ (wl v).length := by
      rw [← wl_ct v hv]
      exact fb_ct_mono _ (by omega)
    refine ⟨fun c => ?_, fun c => ?_⟩
    · have ht : v.testBit k = false := by
        cases ht : v.testBit k
        · rfl
        · exact absurd (by rw [hb, ht]; rfl) c
      have h2 := ih (k + 1) _ f (by omega) (nI_1 k)
      rw [fb_ct_succ, ht] at h2
      exact h2 hf
    · have ht : v.testBit k = true := by
        cases ht : v.testBit k
        · rw [hb, ht] at c
          exact absurd c (by decide)
        · rfl
      rw [fb_ct_succ, ht, if_pos rfl] at hm
      have hi := ix_n (w := fb_ct (fun i => v.testBit i) k) (N := 3) (by decide) (by omega)
      refine ⟨hi.1, ?_⟩
      have h2 := ih (k + 1) _ (upd f (fb_ct (fun i => v.testBit i) k) (nI k)) (by omega) (nI_1 k) (fun i hi2 => by
        rw [fb_ct_succ, ht, if_pos rfl] at hi2
        rw [upd_at]
        by_cases he : i = fb_ct (fun i => v.testBit i) k
        · rw [if_pos he, he, wl_at v hv k (by omega) ht]
        · rw [if_neg he]
          exact hf i (by omega))
      rw [fb_ct_succ, ht, if_pos rfl, ← nI_1] at h2
      have e2 : (uI I 38 21 (nI (fb_ct (fun i => v.testBit i) k)) 38 21).toNatClampNeg = fb_ct (fun i => v.testBit i) k := hi.2
      rw [e2]
      exact ⟨trivial, h2⟩
theorem m_findWords (d : Nat) {v : Nat} (hv : v < 64) (h3 : (wl v).length ≤ 3) : sp (d + 1) 153 [.ref 38, .int (nI v)] (gm L xs A I F P) (fun r m => r = none ∧ ∃ f, (∀ i, i < (wl v).length → f i = nI ((wl v).getD i 0)) ∧ m = gm L xs (uR A 51 f) (uI I 38 21 (nI (wl v).length)) F P) := by
  refine ⟨⟨_, rfl⟩, rfl, mm_WP.go [7] 100 ⟨trivial, ?_⟩⟩
  have h := m_fw_loop (L := L) (xs := xs) (A := A) (I := I) (F := F) (P := P) (d := d) (B := mm_Al 153) (Q := fun r m => r = none ∧ ∃ f, (∀ i, i < (wl v).length → f i = nI ((wl v).getD i 0)) ∧ m = gm L xs (uR A 51 f) (uI I 38 21 (nI (wl v).length)) F P) hv h3 (fun f hf => ⟨rfl, f, hf, rfl⟩) 6 0 _ (A 51) rfl rfl (fun i hi => absurd hi (Nat.not_lt_zero i))
  rw [uR_self] at h
  exact h
/-- all the words of some places have it left -/
def ck (f : Nat → Nat → Bool) (ws : Nat → Nat) (pl : Nat) : Nat → Nat → Bool
  | 0, _ => true
  | k + 1, m => ck f ws pl k m && (!pl.testBit k || f (ws k) m)
theorem m_ct_in {d : Nat} {B : Nat × Nat} {Q : mm_Q} (hR : RS n H S A I) {len pl : Nat} {ws : Nat → Nat} (hl : len ≤ 3) (hI : I 38 21 = nI len) (hA : ∀ i, i < len → A 51 i = nI (ws i) ∧ ws i < 6) (hpl : pl < 64) {m : Nat} (hm : m < 90) {c : Int32}
    (hq : ∀ x : Int32, wp (d + 1) B cd_Model_commonTo Q 68 [some (.ref 38), some (.int (nI pl)), some (.int c), some (.int (nI m)), some (.int (bI (ck (L0 n H S) ws pl len m))), some (.int x)] [] (gm L xs A I F P)) :
    ∀ (j k : Nat) (x y : Int32), j + k = len → x = nI k → y = bI (ck (L0 n H S) ws pl k m) → wp (d + 1) B cd_Model_commonTo Q 16 [some (.ref 38), some (.int (nI pl)), some (.int c), some (.int (nI m)), some (.int y), some (.int x)] [] (gm L xs A I F P) := by
  intro j
  induction j with
  | zero =>
    intro k x y hk hx hy
    refine mm_WP.go [16, 68] 100 (lp_ge hx hI (by omega) (by omega) (fun h => ?_) (fun h => absurd h (by omega)))
    subst h
    rw [hy]
    exact hq _
  | succ j ih =>
    intro k x y hk hx hy
    have hkl : k < len := by omega
    refine mm_WP.go [16, 68] 100 (lp_ge hx hI (by omega) (by omega) (fun h => absurd h (by omega)) (fun _ => ?_))
    subst hx
    have hb := sr_bit pl hpl k (by omega)
    obtain ⟨a1, a2⟩ := hA k hkl
    have hi := ix_n (w := k) (N := 3) (by decide) (by omega)
    refine ⟨fun c => ?_, fun c => ⟨fun c2 => ?_, fun c2 => ⟨hi.1, ?_⟩⟩⟩
    · refine ih (k + 1) _ _ (by omega) (nI_1 k) ?_
      have h0 := bI_0 (hy ▸ c)
      rw [ck, h0]
      rfl
    · refine ih (k + 1) _ _ (by omega) (nI_1 k) ?_
      have h0 := bI_1 (hy ▸ c)
      have h1 := bI_0 (hb ▸ c2)
      rw [ck, h0, h1]
      rfl
    · have h0 := bI_1 (hy ▸ c)
      have h1 := bI_1 (hb ▸ c2)
      rw [show A 51 ((nI k).toNatClampNeg) = nI (ws k) by rw [hi.2, a1]]
      refine cy (m_isLeft d hR a2 hm 0) (fun h => ?_) (fun h => ?_)
      · refine e1 (ih (k + 1) _ _ (by omega) (nI_1 k) ?_)
        rw [ck, h0, h1, show L0 n H S (ws k) m = true from Lp_iff.mpr h]
        rfl
      · refine e0 (ih (k + 1) _ _ (by omega) (nI_1 k) ?_)
        have e : L0 n H S (ws k) m = false := by
          cases hh : L0 n H S (ws k) m
          · rfl
          · exact absurd (Lp_iff.mp hh) h
        rw [ck, h0, h1, e]
        rfl
theorem m_ct_loop {d : Nat} {B : Nat × Nat} {Q : mm_Q} (hR : RS n H S A I) {len pl : Nat} {ws : Nat → Nat} (hl : len ≤ 3) (hI : I 38 21 = nI len) (hA : ∀ i, i < len → A 51 i = nI (ws i) ∧ ws i < 6) (hpl : pl < 64) (hq : Q (some (.int (nI (fb_ct (ck (L0 n H S) ws pl len) 90)))) (gm L xs A I F P)) :
    ∀ (j k : Nat) (x y : Int32) (u u2 : Option Value), j + k = 90 → x = nI k → y = nI (fb_ct (ck (L0 n H S) ws pl len) k) → wp (d + 1) B cd_Model_commonTo Q 4 [some (.ref 38), some (.int (nI pl)), some (.int y), some (.int x), u, u2] [] (gm L xs A I F P) := by
  intro j
  induction j with
  | zero =>
    intro k x y u u2 hk hx hy
    refine mm_WP.go [4] 100 (lp_ge (N := 90) hx rfl (by omega) (by omega) (fun h => ?_) (fun h => absurd h (by omega)))
    subst h
    rw [hy]
    exact hq
  | succ j ih =>
    intro k x y u u2 hk hx hy
    refine mm_WP.go [4, 16] 100 (lp_ge (N := 90) hx rfl (by omega) (by omega) (fun h => absurd h (by omega)) (fun _ => ?_))
    subst hx
    refine m_ct_in hR hl hI hA hpl (by omega) (fun z => ?_) len 0 _ _ rfl rfl rfl
    cases hc : ck (L0 n H S) ws pl len k
    · refine mm_WP.go [4] 100 (e0 (ih (k + 1) _ _ _ _ (by omega) (nI_1 k) ?_))
      rw [hy, fb_ct_succ, hc]
      exact Int32.add_zero _
    · refine mm_WP.go [4] 100 (e1 (ih (k + 1) _ _ _ _ (by omega) (nI_1 k) ?_))
      rw [hy, fb_ct_succ, hc]
      exact nI_1 _
theorem m_commonTo (d : Nat) (hR : RS n H S A I) {len pl : Nat} {ws : Nat → Nat} (hl : len ≤ 3) (hI : I 38 21 = nI len) (hA : ∀ i, i < len → A 51 i = nI (ws i) ∧ ws i < 6) (hpl : pl < 64) : sp (d + 2) 154 [.ref 38, .int (nI pl)] (gm L xs A I F P) (ans (gm L xs A I F P) (nI (fb_ct (ck (L0 n H S) ws pl len) 90))) := by
  refine ⟨⟨_, rfl⟩, rfl, mm_WP.go [4] 100 ?_⟩
  exact m_ct_loop hR hl hI hA hpl ⟨rfl, rfl⟩ 90 0 _ _ _ _ rfl rfl rfl
theorem I_sub1 {a b c : Nat} (h : a + b = c) : nI c - nI b = nI a := by
  subst h
  rw [← nI_add, Int32.add_sub_cancel]
theorem I_sub3 {x y z u v w : Int32} (h : x + y = z + u + v + w) : x - u - v - w + y = z := by grind
theorem tb7 : Nat.testBit 1 1 = false ∧ Nat.testBit 1 2 = false ∧ Nat.testBit 2 1 = true ∧ Nat.testBit 2 2 = false ∧ Nat.testBit 3 1 = true ∧ Nat.testBit 3 2 = false ∧ Nat.testBit 4 1 = false ∧ Nat.testBit 4 2 = true ∧ Nat.testBit 5 1 = false ∧ Nat.testBit 5 2 = true ∧ Nat.testBit 6 1 = true ∧ Nat.testBit 6 2 = true ∧ Nat.testBit 7 1 = true ∧ Nat.testBit 7 2 = true := by decide
/-- the reference's givings, not refused -/
theorem m_givings (d : Nat) {v : Nat} (hR : RS n H S A I) (h1 : 1 ≤ v) (hv : v < 64) (h3 : (wl v).length ≤ 3) : sp (d + 10) 150 [.ref 38, .int (nI v)] (gm L xs A I F P) (fun r m => r = some (.int (nI (WW ((wl v).map (L0 n H S)) (-9) (-9)))) ∧ ∃ f, m = gm L xs (uR A 51 f) (uI I 38 21 (nI (wl v).length)) F P) := by
  refine ⟨⟨_, rfl⟩, rfl, mm_WP.go [] 100 (cy (m_isSet (d + 6) _ _ _ _ _ _ _) (fun _ => ?_) (fun h => absurd ((GS_iff h1 hv).mpr h3) h))⟩
  refine n1 ⟨_, m_findWords (d + 8) hv h3, ?_⟩
  rintro r m ⟨rfl, f, hf, rfl⟩
  have hA : ∀ i, i < (wl v).length → (uR A 51 f) 51 i = nI ((wl v).getD i 0) ∧ (wl v).getD i 0 < 6 := fun i hi => ⟨hf i hi, wl_lt v hv _ (by
    rw [List.getD_eq_getElem?_getD, List.getElem?_eq_getElem hi]
    exact List.getElem_mem hi)⟩
  have hc := fun pl (hpl : pl < 64) => m_commonTo (L := L) (xs := xs) (A := uR A 51 f) (I := uI I 38 21 (nI (wl v).length)) (F := F) (P := P) (n := n) (H := H) (S := S) (d + 7) hR (ws := fun i => (wl v).getD i 0) h3 rfl hA hpl
  have h0 : (wl v).length ≠ 0 := fun h => by
    have := (wl_0 v hv).mpr (List.eq_nil_of_length_eq_zero h)
    omega
  refine ca (hc 1 (by decide)) ?_
  match hw : wl v, h3, h0 with
  | [], _, h0 => exact absurd rfl h0
  | [a], _, _ =>
    refine ⟨fun c => absurd rfl c, fun _ => ⟨?_, f, rfl⟩⟩
    show some (Value.int (nI (fb_ct _ 90))) = some (.int (nI (WW [L0 n H S a] (-9) (-9))))
    rw [WW_1, fb_ct_cong (q := q1 (L0 n H S a) (-9) (-9)) (fun m hm => ?_)]
    rw [q1_9 hm]
    rfl
  | [a, b], _, _ =>
    rw [hw] at hc
    refine ⟨fun _ => ca (hc 2 (by decide)) ⟨fun c => absurd rfl c, fun _ => ca (hc 3 (by decide)) ⟨?_, f, rfl⟩⟩, fun c => absurd c (show ¬ (2 : Int32) = 1 by decide)⟩
    have h2 := WW_2 (L0 n H S a) (L0 n H S b)
    have g1 : fb_ct (ck (L0 n H S) (fun i => [a, b].getD i 0) 1 2) 90 = fb_ct (L0 n H S a) 90 := fb_ct_cong (fun m _ => by simp [ck, tb7])
    have g2 : fb_ct (ck (L0 n H S) (fun i => [a, b].getD i 0) 2 2) 90 = fb_ct (L0 n H S b) 90 := fb_ct_cong (fun m _ => by simp [ck, tb7])
    have g3 : fb_ct (ck (L0 n H S) (fun i => [a, b].getD i 0) 3 2) 90 = fb_ct (pa (L0 n H S a) (L0 n H S b)) 90 := fb_ct_cong (fun m _ => by simp [ck, tb7, pa])
    show some (Value.int (nI (fb_ct (ck (L0 n H S) (fun i => [a, b].getD i 0) 1 2) 90) * nI (fb_ct (ck (L0 n H S) (fun i => [a, b].getD i 0) 2 2) 90) - nI (fb_ct (ck (L0 n H S) (fun i => [a, b].getD i 0) 3 2) 90))) = some (.int (nI (WW [L0 n H S a, L0 n H S b] (-9) (-9))))
    rw [g1, g2, g3, pk_mul, I_sub1 (a := WW [L0 n H S a, L0 n H S b] (-9) (-9))]
    have := Int.natCast_mul (fb_ct (L0 n H S a) 90) (fb_ct (L0 n H S b) 90)
    omega
  | [a, b, c], _, _ =>
    rw [hw] at hc
    refine ⟨fun _ => ca (hc 2 (by decide)) ⟨fun _ => ca (hc 4 (by decide)) (ca (hc 3 (by decide)) (ca (hc 5 (by decide)) (ca (hc 6 (by decide)) (ca (hc 7 (by decide)) ⟨?_, f, rfl⟩)))), fun c => absurd c (show ¬ (3 : Int32) = 2 by decide)⟩, fun c => absurd c (show ¬ (3 : Int32) = 1 by decide)⟩
    have h2 := WW_3 (L0 n H S a) (L0 n H S b) (L0 n H S c)
    have g1 : fb_ct (ck (L0 n H S) (fun i => [a, b, c].getD i 0) 1 3) 90 = fb_ct (L0 n H S a) 90 := fb_ct_cong (fun m _ => by simp [ck, tb7])
    have g2 : fb_ct (ck (L0 n H S) (fun i => [a, b, c].getD i 0) 2 3) 90 = fb_ct (L0 n H S b) 90 := fb_ct_cong (fun m _ => by simp [ck, tb7])
    have g4 : fb_ct (ck (L0 n H S) (fun i => [a, b, c].getD i 0) 4 3) 90 = fb_ct (L0 n H S c) 90 := fb_ct_cong (fun m _ => by simp [ck, tb7])
    have g3 : fb_ct (ck (L0 n H S) (fun i => [a, b, c].getD i 0) 3 3) 90 = fb_ct (pa (L0 n H S a) (L0 n H S b)) 90 := fb_ct_cong (fun m _ => by simp [ck, tb7, pa])
    have g5 : fb_ct (ck (L0 n H S) (fun i => [a, b, c].getD i 0) 5 3) 90 = fb_ct (pa (L0 n H S a) (L0 n H S c)) 90 := fb_ct_cong (fun m _ => by simp [ck, tb7, pa])
    have g6 : fb_ct (ck (L0 n H S) (fun i => [a, b, c].getD i 0) 6 3) 90 = fb_ct (pa (L0 n H S b) (L0 n H S c)) 90 := fb_ct_cong (fun m _ => by simp [ck, tb7, pa])
    have g7 : fb_ct (ck (L0 n H S) (fun i => [a, b, c].getD i 0) 7 3) 90 = fb_ct (pa (L0 n H S a) (pa (L0 n H S b) (L0 n H S c))) 90 := fb_ct_cong (fun m _ => by simp [ck, tb7, pa, Bool.and_assoc])
    show some (Value.int (nI (fb_ct (ck (L0 n H S) (fun i => [a, b, c].getD i 0) 1 3) 90) * nI (fb_ct (ck (L0 n H S) (fun i => [a, b, c].getD i 0) 2 3) 90) * nI (fb_ct (ck (L0 n H S) (fun i => [a, b, c].getD i 0) 4 3) 90) - nI (fb_ct (ck (L0 n H S) (fun i => [a, b, c].getD i 0) 3 3) 90) * nI (fb_ct (ck (L0 n H S) (fun i => [a, b, c].getD i 0) 4 3) 90) - nI (fb_ct (ck (L0 n H S) (fun i => [a, b, c].getD i 0) 5 3) 90) * nI (fb_ct (ck (L0 n H S) (fun i => [a, b, c].getD i 0) 2 3) 90) - nI (fb_ct (ck (L0 n H S) (fun i => [a, b, c].getD i 0) 6 3) 90) * nI (fb_ct (ck (L0 n H S) (fun i => [a, b, c].getD i 0) 1 3) 90) + nI 2 * nI (fb_ct (ck (L0 n H S) (fun i => [a, b, c].getD i 0) 7 3) 90))) = some (.int (nI (WW [L0 n H S a, L0 n H S b, L0 n H S c] (-9) (-9))))
    rw [g1, g2, g3, g4, g5, g6, g7]
    generalize fb_ct (L0 n H S a) 90 = na at *
    generalize fb_ct (L0 n H S b) 90 = nb at *
    generalize fb_ct (L0 n H S c) 90 = nc at *
    generalize fb_ct (pa (L0 n H S a) (L0 n H S b)) 90 = nab at *
    generalize fb_ct (pa (L0 n H S a) (L0 n H S c)) 90 = nac at *
    generalize fb_ct (pa (L0 n H S b) (L0 n H S c)) 90 = nbc at *
    generalize fb_ct (pa (L0 n H S a) (pa (L0 n H S b) (L0 n H S c))) 90 = nabc at *
    generalize WW [L0 n H S a, L0 n H S b, L0 n H S c] (-9) (-9) = W at *
    have h5 : na * nb * nc + 2 * nabc = W + nab * nc + nac * nb + nbc * na := by
      have e1 := Int.natCast_mul (na * nb) nc
      have e2 := Int.natCast_mul na nb
      have e3 := Int.natCast_mul nab nc
      have e4 := Int.natCast_mul nac nb
      have e5 := Int.natCast_mul nbc na
      rw [e2] at e1
      omega
    rw [pk_mul, pk_mul, pk_mul, pk_mul, pk_mul, pk_mul, I_sub3 (z := nI W)]
    rw [nI_add, h5, nI_add, nI_add, nI_add]
theorem m_givings_r (d : Nat) {x : Int32} (h : ¬ GS x) : sp (d + 10) 150 [.ref 38, .int x] (gm L xs A I F P) (rM L xs A I F P 1 (-1)) := by
  refine ⟨⟨_, rfl⟩, rfl, mm_WP.go [] 100 (cy (m_isSet (d + 6) _ _ _ _ _ _ _) (fun h2 => absurd h2 h) (fun _ => ?_))⟩
  exact n0 (ca (m_rf1 (d + 8)) ⟨rfl, rfl⟩)
end M14
