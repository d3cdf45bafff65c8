/-! what both hold: the state, the class's cells, the reference's cells -/
/-- scenes, said, weights, hit, miss, given, sayings -/
abbrev Tl : Type := Nat × (Nat → Sc) × (Nat → Nat → Bool) × (Nat → Nat) × Nat × Nat × (Nat → Option Nat) × Nat × (Nat → Nat) × (Nat → Nat)
abbrev xN (X : Tl) : Nat := X.1
abbrev xD (X : Tl) : Nat → Sc := X.2.1
abbrev xS (X : Tl) : Nat → Nat → Bool := X.2.2.1
abbrev xW (X : Tl) : Nat → Nat := X.2.2.2.1
abbrev xH (X : Tl) : Nat := X.2.2.2.2.1
abbrev xM (X : Tl) : Nat := X.2.2.2.2.2.1
abbrev xG (X : Tl) : Nat → Option Nat := X.2.2.2.2.2.2.1
abbrev xY (X : Tl) : Nat := X.2.2.2.2.2.2.2.1
abbrev xA (X : Tl) : Nat → Nat := X.2.2.2.2.2.2.2.2.1
abbrev xB (X : Tl) : Nat → Nat := X.2.2.2.2.2.2.2.2.2
abbrev hX (X : Tl) : Nat → Nat → Bool := fun s => HS (xD X s)
/-- three words -/
def W3 (w : Nat) : Prop := w < 600 ∧ w / 10 % 10 < 6 ∧ w % 10 < 6
def okT (X : Tl) : Prop := xN X ≤ 24 ∧ (∀ s, s < xN X → okS (xD X s)) ∧ (∀ k, k < 8 → 1 ≤ xW X k ∧ xW X k ≤ 99) ∧ xH X ≤ 100 ∧ xM X ≤ 100 ∧ (∀ w, w < 6 → ∀ m, xG X w = some m → m < 90) ∧ xY X ≤ 20 ∧ ∀ i, i < xY X → xA X i < xN X ∧ W3 (xB X i)
/-- a scene behind the fixed cells -/
def SP (P : mm_M) (p : Nat) (D : Sc) : Prop := ∃ f g, mm_nth P p = some (.inr (3, [.ref (p + 57), .ref (p + 58), .int (nI (tcO D)), .int (nI (dcO D))])) ∧ mm_nth P (p + 1) = some (.inl (0, 4, .inl f)) ∧ mm_nth P (p + 2) = some (.inl (0, 3, .inl g)) ∧ (∀ i, i < tcO D → f i = nI (thO D i)) ∧ ∀ i, i < dcO D → g i = nI (100 * dwO D i + 10 * dvO D i + dmO D i)
def scn (P : mm_M) (r : Nat) : Prop := r = 10 ∨ r = 22 ∨ ∃ p fs, r = p + 56 ∧ mm_nth P p = some (.inr (3, fs))
theorem SP_SO {L : Nat} {xs : Nat → Int32} {A I : Nat → Nat → Int32} {F : Nat → Nat → Option Nat} {P : mm_M} {p : Nat} {D : Sc} (h : SP P p D) : SO (gm L xs A I F P) (p + 56) D := by
  obtain ⟨f, g, h1, h2, h3, h4, h5⟩ := h
  exact ⟨p + 57, p + 58, f, g, h1, h2, h3, h4, h5⟩
theorem scn_at {L : Nat} {xs : Nat → Int32} {A I : Nat → Nat → Int32} {F : Nat → Nat → Option Nat} {P : mm_M} {r : Nat} (h : scn P r) : ∃ fs : List Value, mm_nth (gm L xs A I F P) r = some (.inr (3, fs)) := by
  rcases h with rfl | rfl | ⟨p, fs, rfl, h⟩
  · exact ⟨_, rfl⟩
  · exact ⟨_, rfl⟩
  · exact ⟨fs, h⟩
theorem nth_left {α : Type} {X : List α} {v : α} : ∀ {P : List α} {i : Nat}, mm_nth P i = some v → mm_nth (P ++ X) i = some v
  | [], i, h => by cases h
  | a :: P, 0, h => h
  | a :: P, i + 1, h => nth_left (P := P) h
theorem SP_app {P X : mm_M} {p : Nat} {D : Sc} (h : SP P p D) : SP (P ++ X) p D := by
  obtain ⟨f, g, h1, h2, h3, h4, h5⟩ := h
  exact ⟨f, g, nth_left h1, nth_left h2, nth_left h3, h4, h5⟩
theorem scn_app {P X : mm_M} {r : Nat} (h : scn P r) : scn (P ++ X) r := by
  rcases h with h | h | ⟨p, fs, h, h2⟩
  · exact Or.inl h
  · exact Or.inr (Or.inl h)
  · exact Or.inr (Or.inr ⟨p, fs, h, nth_left h2⟩)
theorem SP_scn {P : mm_M} {p : Nat} {D : Sc} (h : SP P p D) : scn P (p + 56) := by
  obtain ⟨f, g, h1, -⟩ := h
  exact Or.inr (Or.inr ⟨p, _, rfl, h1⟩)
/-- the class's cells of all that is told -/
def CT (X : Tl) (i2 i6 i7 i11 : Int32) (fs : Nat → Option Nat) (a5 a6 a7 a8 a9 a10 : Nat → Int32) (P : mm_M) : Prop :=
  i2 = nI (xN X) ∧ (∀ s, s < xN X → ∃ p, fs s = some (p + 56) ∧ SP P p (xD X s)) ∧ (∀ m, m < 90 → a5 m = nI (sb (xN X) (fun s => hX X s m))) ∧ (∀ w, w < 6 → a6 w = nI (sb (xN X) (fun s => xS X s w))) ∧ (∀ k, k < 8 → a7 k = nI (xW X k)) ∧ i6 = nI (xH X) ∧ i7 = nI (xM X) ∧ (∀ w, w < 6 → a8 w = oN (xG X w)) ∧ i11 = nI (xY X) ∧ ∀ i, i < xY X → a9 i = nI (xA X i) ∧ a10 i = nI (xB X i)
def fsc (fs : Nat → Option Nat) (P : mm_M) : Prop := ∀ s, s < 24 → ∃ r, fs s = some r ∧ scn P r
/-- the reference's image -/
def IM (X : Tl) (f : Nat → Int32) : Prop :=
  f 0 = nI (xN X) ∧ (∀ s, s < xN X → f (1 + 21 * s) = nI (tcO (xD X s)) ∧ f (2 + 21 * s) = nI (dcO (xD X s)) ∧ (∀ i, i < tcO (xD X s) → f (3 + 21 * s + i) = nI (thO (xD X s) i)) ∧ (∀ i, i < dcO (xD X s) → f (7 + 21 * s + 3 * i) = nI (dwO (xD X s) i) ∧ f (7 + 21 * s + 3 * i + 1) = nI (dvO (xD X s) i) ∧ f (7 + 21 * s + 3 * i + 2) = nI (dmO (xD X s) i)) ∧ ∀ w, w < 6 → f (16 + 21 * s + w) = bI (xS X s w)) ∧ (∀ k, k < 8 → f (505 + k) = nI (xW X k)) ∧ f 513 = nI (xH X) ∧ f 514 = nI (xM X) ∧ (∀ w, w < 6 → f (515 + w) = oM (xG X w)) ∧ f 521 = nI (xY X) ∧ ∀ i, i < xY X → f (522 + 2 * i) = nI (xA X i) ∧ f (523 + 2 * i) = nI (xB X i)
/-- what is told, the image, the text, refusals -/
abbrev St : Type := Tl × Option Tl × (Nat → Nat) × Nat × (Nat → Int32)
def okE (E : St) : Prop := okT E.1 ∧ (∀ Y, E.2.1 = some Y → okT Y) ∧ E.2.2.2.1 ≤ 40 ∧ ∀ i, i < E.2.2.2.1 → E.2.2.1 i < 256
def CI (E : St) (A I : Nat → Nat → Int32) (F : Nat → Nat → Option Nat) (P : mm_M) : Prop :=
  CT E.1 (I 21 2) (I 21 6) (I 21 7) (I 21 11) (F 25) (A 26) (A 27) (A 28) (A 29) (A 30) (A 31) P ∧ fsc (F 25) P ∧ fsc (F 13) P ∧
  I 6 3 = bI E.2.1.isSome ∧ (∀ Y, E.2.1 = some Y → CT Y (I 9 2) (I 9 6) (I 9 7) (I 9 11) (F 13) (A 14) (A 15) (A 16) (A 17) (A 18) (A 19) P) ∧
  I 7 1 = nI E.2.2.2.1 ∧ (∀ i, i < E.2.2.2.1 → A 8 i = nI (E.2.2.1 i)) ∧ ∀ k, k < 7 → A 20 k = E.2.2.2.2 k
def RT (X : Tl) (A I : Nat → Nat → Int32) : Prop :=
  I 38 0 = nI (xN X) ∧ (∀ s, s < xN X → RD A s (xD X s)) ∧ (∀ s w, s < xN X → w < 6 → A 43 (6 * s + w) = bI (xS X s w)) ∧ (∀ s m, s < xN X → m < 90 → A 44 (90 * s + m) = bI (hX X s m)) ∧ (∀ k, k < 8 → A 45 k = nI (xW X k)) ∧ I 38 8 = nI (xH X) ∧ I 38 9 = nI (xM X) ∧ (∀ w, w < 6 → A 46 w = oM (xG X w)) ∧ I 38 11 = nI (xY X) ∧ ∀ i, i < xY X → A 47 i = nI (xA X i) ∧ A 48 i = nI (xB X i)
def RI (E : St) (A I : Nat → Nat → Int32) : Prop :=
  RT E.1 A I ∧ I 38 27 = bI E.2.1.isSome ∧ (∀ Y, E.2.1 = some Y → IM Y (A 55)) ∧ I 38 15 = nI E.2.2.2.1 ∧ (∀ i, i < E.2.2.2.1 → A 49 i = nI (E.2.2.1 i)) ∧ ∀ k, k < 7 → A 50 k = E.2.2.2.2 k
/-! the same, but for what is behind them -/
def sR (A2 A : Nat → Nat → Int32) : Prop := ∀ a, 38 ≤ a → ob A2 a = ob A a
def sC (A2 A : Nat → Nat → Int32) : Prop := ∀ a, a < 38 → ob A2 a = ob A a
def tR (I2 I : Nat → Nat → Int32) : Prop := ∀ a, 38 ≤ a → oi I2 a = oi I a
def tC (I2 I : Nat → Nat → Int32) : Prop := ∀ a, a < 38 → oi I2 a = oi I a
theorem ob_ne {A : Nat → Nat → Int32} {a c : Nat} {f : Nat → Int32} (h : a ≠ c) : ob (uR A c f) a = ob A a := by
  unfold ob
  rw [uR_ne h]
theorem oi_ne {I : Nat → Nat → Int32} {a c i : Nat} {v : Int32} (h : a ≠ c) : oi (uI I c i v) a = oi I a := by
  funext j
  unfold oi
  rw [uI_ne (Or.inl h)]
theorem sR.rf {A : Nat → Nat → Int32} : sR A A := fun _ _ => rfl
theorem sC.rf {A : Nat → Nat → Int32} : sC A A := fun _ _ => rfl
theorem tR.rf {I : Nat → Nat → Int32} : tR I I := fun _ _ => rfl
theorem tC.rf {I : Nat → Nat → Int32} : tC I I := fun _ _ => rfl
theorem sR.r {A2 A : Nat → Nat → Int32} (h : sR A2 A) {c : Nat} (hc : c < 38) (f : Nat → Int32) : sR (uR A2 c f) A := fun a ha => (ob_ne (by omega)).trans (h a ha)
theorem sC.r {A2 A : Nat → Nat → Int32} (h : sC A2 A) {c : Nat} (hc : 38 ≤ c) (f : Nat → Int32) : sC (uR A2 c f) A := fun a ha => (ob_ne (by omega)).trans (h a ha)
theorem sR.a {A2 A : Nat → Nat → Int32} (h : sR A2 A) {c : Nat} (hc : c < 38) (i : Nat) (v : Int32) : sR (uA A2 c i v) A := by
  rw [uA_as]
  exact h.r hc _
theorem sC.a {A2 A : Nat → Nat → Int32} (h : sC A2 A) {c : Nat} (hc : 38 ≤ c) (i : Nat) (v : Int32) : sC (uA A2 c i v) A := by
  rw [uA_as]
  exact h.r hc _
theorem tR.i {I2 I : Nat → Nat → Int32} (h : tR I2 I) {c : Nat} (hc : c < 38) (i : Nat) (v : Int32) : tR (uI I2 c i v) I := fun a ha => (oi_ne (by omega)).trans (h a ha)
theorem tC.i {I2 I : Nat → Nat → Int32} (h : tC I2 I) {c : Nat} (hc : 38 ≤ c) (i : Nat) (v : Int32) : tC (uI I2 c i v) I := fun a ha => (oi_ne (by omega)).trans (h a ha)
theorem tC_c {I2 I : Nat → Nat → Int32} (h : tC I2 I) {a i : Nat} (ha : a < 38) (hs : scri a i = false) : I2 a i = I a i := by
  have h2 := congrFun (h a ha) i
  unfold oi at h2
  rw [hs] at h2
  exact h2
theorem tR_c {I2 I : Nat → Nat → Int32} (h : tR I2 I) {a i : Nat} (ha : 38 ≤ a) (hs : scri a i = false) : I2 a i = I a i := by
  have h2 := congrFun (h a ha) i
  unfold oi at h2
  rw [hs] at h2
  exact h2
theorem sC_c {A2 A : Nat → Nat → Int32} (h : sC A2 A) {a : Nat} (ha : a < 38) (hs : scr a = false) : A2 a = A a := by
  have h2 := h a ha
  unfold ob at h2
  rw [hs] at h2
  exact h2
theorem sR_c {A2 A : Nat → Nat → Int32} (h : sR A2 A) {a : Nat} (ha : 38 ≤ a) (hs : scr a = false) : A2 a = A a := by
  have h2 := h a ha
  unfold ob at h2
  rw [hs] at h2
  exact h2
theorem CI_of {E : St} {A A2 I I2 : Nat → Nat → Int32} {F : Nat → Nat → Option Nat} {P : mm_M} (hA : sC A2 A) (hI : tC I2 I) (h : CI E A I F P) : CI E A2 I2 F P := by
  unfold CI at h ⊢
  rw [sC_c hA (a := 26) (by decide) rfl, sC_c hA (a := 27) (by decide) rfl, sC_c hA (a := 28) (by decide) rfl, sC_c hA (a := 29) (by decide) rfl, sC_c hA (a := 30) (by decide) rfl, sC_c hA (a := 31) (by decide) rfl, sC_c hA (a := 14) (by decide) rfl, sC_c hA (a := 15) (by decide) rfl, sC_c hA (a := 16) (by decide) rfl, sC_c hA (a := 17) (by decide) rfl, sC_c hA (a := 18) (by decide) rfl, sC_c hA (a := 19) (by decide) rfl, sC_c hA (a := 8) (by decide) rfl, sC_c hA (a := 20) (by decide) rfl]
  rw [tC_c hI (a := 21) (i := 2) (by decide) rfl, tC_c hI (a := 21) (i := 6) (by decide) rfl, tC_c hI (a := 21) (i := 7) (by decide) rfl, tC_c hI (a := 21) (i := 11) (by decide) rfl, tC_c hI (a := 9) (i := 2) (by decide) rfl, tC_c hI (a := 9) (i := 6) (by decide) rfl, tC_c hI (a := 9) (i := 7) (by decide) rfl, tC_c hI (a := 9) (i := 11) (by decide) rfl, tC_c hI (a := 6) (i := 3) (by decide) rfl, tC_c hI (a := 7) (i := 1) (by decide) rfl]
  exact h
theorem RI_of {E : St} {A A2 I I2 : Nat → Nat → Int32} (hA : sR A2 A) (hI : tR I2 I) (h : RI E A I) : RI E A2 I2 := by
  unfold RI RT RD at h ⊢
  rw [sR_c hA (a := 39) (by decide) rfl, sR_c hA (a := 40) (by decide) rfl, sR_c hA (a := 41) (by decide) rfl, sR_c hA (a := 42) (by decide) rfl, sR_c hA (a := 43) (by decide) rfl, sR_c hA (a := 44) (by decide) rfl, sR_c hA (a := 45) (by decide) rfl, sR_c hA (a := 46) (by decide) rfl, sR_c hA (a := 47) (by decide) rfl, sR_c hA (a := 48) (by decide) rfl, sR_c hA (a := 49) (by decide) rfl, sR_c hA (a := 50) (by decide) rfl, sR_c hA (a := 55) (by decide) rfl]
  rw [tR_c hI (a := 38) (i := 0) (by decide) rfl, tR_c hI (a := 38) (i := 8) (by decide) rfl, tR_c hI (a := 38) (i := 9) (by decide) rfl, tR_c hI (a := 38) (i := 11) (by decide) rfl, tR_c hI (a := 38) (i := 15) (by decide) rfl, tR_c hI (a := 38) (i := 27) (by decide) rfl]
  exact h
/-! what was shown of each, out of these -/
theorem CT_CS {X : Tl} {A I : Nat → Nat → Int32} {F : Nat → Nat → Option Nat} {P : mm_M} (ho : okT X) (h : CT X (I 21 2) (I 21 6) (I 21 7) (I 21 11) (F 25) (A 26) (A 27) (A 28) (A 29) (A 30) (A 31) P) : CS (xN X) (hX X) (xS X) A I := ⟨ho.1, h.1, h.2.2.2.1, h.2.2.1⟩
theorem RT_RS {X : Tl} {A I : Nat → Nat → Int32} (ho : okT X) (h : RT X A I) : RS (xN X) (hX X) (xS X) A I := ⟨ho.1, h.1, h.2.2.1, h.2.2.2.1⟩
theorem CT_WT {X : Tl} {i2 i6 i7 i11 : Int32} {fs : Nat → Option Nat} {a5 a6 a7 a8 a9 a10 : Nat → Int32} {P : mm_M} (ho : okT X) (h : CT X i2 i6 i7 i11 fs a5 a6 a7 a8 a9 a10 P) : WT (xW X) a7 := fun k hk => ⟨h.2.2.2.2.1 k hk, ho.2.2.1 k hk⟩
theorem RT_WT {X : Tl} {A I : Nat → Nat → Int32} (ho : okT X) (h : RT X A I) : WT (xW X) (A 45) := fun k hk => ⟨h.2.2.2.2.1 k hk, ho.2.2.1 k hk⟩
/-! both calls of one row of the law -/
def cQ (L : Nat) (xs : Nat → Int32) (A I : Nat → Nat → Int32) (E : St) (v : Value) : mm_Q := fun r m => r = some v ∧ ∃ A2 I2 F2 P2, m = gm L xs A2 I2 F2 P2 ∧ CI E A2 I2 F2 P2 ∧ sR A2 A ∧ tR I2 I
def mQ (L : Nat) (xs : Nat → Int32) (A I : Nat → Nat → Int32) (F : Nat → Nat → Option Nat) (P : mm_M) (E : St) (v : Value) : mm_Q := fun r m => r = some v ∧ ∃ A2 I2, m = gm L xs A2 I2 F P ∧ RI E A2 I2 ∧ sC A2 A ∧ tC I2 I
/-- the class's call, the reference's call: one answer, one state behind it -/
def bo (D j k : Nat) (as : List Value) (E : St) (v : Value) (E2 : St) : Prop := okE E2 ∧ (∀ (L : Nat) (xs : Nat → Int32) A I F P, CI E A I F P → sp D j (.ref 6 :: as) (gm L xs A I F P) (cQ L xs A I E2 v)) ∧ ∀ (L : Nat) (xs : Nat → Int32) A I F P, RI E A I → sp D k (.ref 38 :: as) (gm L xs A I F P) (mQ L xs A I F P E2 v)
/-- a refusal -/
def rfE (E : St) (k : Nat) : St := (E.1, E.2.1, E.2.2.1, E.2.2.2.1, upd E.2.2.2.2 k (E.2.2.2.2 k + 1))
theorem CI_rf {E : St} {A I : Nat → Nat → Int32} {F : Nat → Nat → Option Nat} {P : mm_M} {k : Nat} (hk : k < 7) (h : CI E A I F P) : CI (rfE E k) (uA A 20 k (A 20 k + 1)) I F P := by
  obtain ⟨h1, h2, h3, h4, h5, h6, h7, h8⟩ := h
  refine ⟨h1, h2, h3, h4, h5, h6, h7, fun i hi => ?_⟩
  show upd (A 20) k (A 20 k + 1) i = upd E.2.2.2.2 k (E.2.2.2.2 k + 1) i
  rw [upd_at, upd_at, h8 i hi, h8 k hk]
theorem RI_rf {E : St} {A I : Nat → Nat → Int32} {k : Nat} (hk : k < 7) (h : RI E A I) : RI (rfE E k) (uA A 50 k (A 50 k + 1)) I := by
  obtain ⟨h1, h2, h3, h4, h5, h6⟩ := h
  refine ⟨h1, h2, h3, h4, h5, fun i hi => ?_⟩
  show upd (A 50) k (A 50 k + 1) i = upd E.2.2.2.2 k (E.2.2.2.2 k + 1) i
  rw [upd_at, upd_at, h6 i hi, h6 k hk]
theorem bo_rf {D j j2 k : Nat} {as : List Value} {E : St} {w : Int32} (hE : okE E) (hk : k < 7) (hc : ∀ (L : Nat) (xs : Nat → Int32) A I F P, CI E A I F P → sp D j (.ref 6 :: as) (gm L xs A I F P) (rC L xs A I F P k w)) (hm : ∀ (L : Nat) (xs : Nat → Int32) A I F P, RI E A I → sp D j2 (.ref 38 :: as) (gm L xs A I F P) (rM L xs A I F P k w)) : ∃ v E2, bo D j j2 as E (.int v) E2 := by
  refine ⟨w, rfE E k, hE, fun L xs A I F P h => mm_Sp.post (hc L xs A I F P h) ?_, fun L xs A I F P h => mm_Sp.post (hm L xs A I F P h) ?_⟩
  · rintro r m ⟨rfl, rfl⟩
    exact ⟨rfl, _, _, _, _, rfl, CI_rf hk h, sR.rf.a (by decide) _ _, tR.rf⟩
  · rintro r m ⟨rfl, rfl⟩
    exact ⟨rfl, _, _, rfl, RI_rf hk h, sC.rf.a (by decide) _ _, tC.rf⟩
theorem bo_rfl {D j j2 k : Nat} {as : List Value} {E : St} {w : Int32} (hE : okE E) (hk : k < 7) (hc : ∀ (L : Nat) (xs : Nat → Int32) A I F P, CI E A I F P → sp D j (.ref 6 :: as) (gm L xs A I F P) (rCL L xs A I F P k w)) (hm : ∀ (L : Nat) (xs : Nat → Int32) A I F P, RI E A I → sp D j2 (.ref 38 :: as) (gm L xs A I F P) (rML L xs A I F P k w)) : ∃ v E2, bo D j j2 as E (.long v) E2 := by
  refine ⟨-4000000000000000000 + w.toInt64, rfE E k, hE, fun L xs A I F P h => mm_Sp.post (hc L xs A I F P h) ?_, fun L xs A I F P h => mm_Sp.post (hm L xs A I F P h) ?_⟩
  · rintro r m ⟨rfl, rfl⟩
    exact ⟨rfl, _, _, _, _, rfl, CI_rf hk h, sR.rf.a (by decide) _ _, tR.rf⟩
  · rintro r m ⟨rfl, rfl⟩
    exact ⟨rfl, _, _, rfl, RI_rf hk h, sC.rf.a (by decide) _ _, tC.rf⟩
/-- nothing changes -/
theorem bo_ans {D j j2 : Nat} {as : List Value} {E : St} (v : Value) (hE : okE E) (hc : ∀ (L : Nat) (xs : Nat → Int32) A I F P, CI E A I F P → sp D j (.ref 6 :: as) (gm L xs A I F P) (fun r m => r = some v ∧ m = gm L xs A I F P)) (hm : ∀ (L : Nat) (xs : Nat → Int32) A I F P, RI E A I → sp D j2 (.ref 38 :: as) (gm L xs A I F P) (fun r m => r = some v ∧ m = gm L xs A I F P)) : bo D j j2 as E v E := by
  refine ⟨hE, fun L xs A I F P h => mm_Sp.post (hc L xs A I F P h) ?_, fun L xs A I F P h => mm_Sp.post (hm L xs A I F P h) ?_⟩
  · rintro r m ⟨rfl, rfl⟩
    exact ⟨rfl, _, _, _, _, rfl, h, sR.rf, tR.rf⟩
  · rintro r m ⟨rfl, rfl⟩
    exact ⟨rfl, _, _, rfl, h, sC.rf, tC.rf⟩
