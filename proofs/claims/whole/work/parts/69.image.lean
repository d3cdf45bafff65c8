/-! image, restore: the class -/
def uG (F : Nat → Nat → Option Nat) (a : Nat) (f : Nat → Option Nat) : Nat → Nat → Option Nat := fun x => match Nat.beq x a with
  | true => f
  | false => F x
theorem cpy_at {f g : Nat → Int32} {n i : Nat} (hi : i < n) : va_cpy f g 0 0 n i = f i := by
  show (if 0 ≤ i ∧ i < 0 + n then f (0 + (i - 0)) else g i) = f i
  rw [if_pos ⟨Nat.zero_le _, by omega⟩, Nat.zero_add, Nat.sub_zero]
theorem CT_cp {X : Tl} {i2 i6 i7 i11 : Int32} {fs gs : Nat → Option Nat} {a5 a6 a7 a8 a9 a10 b5 b6 b7 b8 b9 b10 : Nat → Int32} {P : mm_M} (ho : okT X) (h : CT X i2 i6 i7 i11 fs a5 a6 a7 a8 a9 a10 P) (e4 : ∀ i, i < 24 → gs i = fs i) (e5 : ∀ i, i < 90 → b5 i = a5 i) (e6 : ∀ i, i < 6 → b6 i = a6 i) (e7 : ∀ i, i < 8 → b7 i = a7 i) (e8 : ∀ i, i < 6 → b8 i = a8 i) (e9 : ∀ i, i < 20 → b9 i = a9 i) (e10 : ∀ i, i < 20 → b10 i = a10 i) : CT X i2 i6 i7 i11 gs b5 b6 b7 b8 b9 b10 P := by
  obtain ⟨h1, h2, h3, h4, h5, h6, h7, h8, h9, h10⟩ := h
  have hn := ho.1
  have hy : xY X ≤ 20 := ho.2.2.2.2.2.2.1
  refine ⟨h1, fun s hs => ?_, fun m hm => (e5 m hm).trans (h3 m hm), fun w hw => (e6 w hw).trans (h4 w hw), fun k hk => (e7 k hk).trans (h5 k hk), h6, h7, fun w hw => (e8 w hw).trans (h8 w hw), h9, fun i hi => ⟨(e9 i (by omega)).trans (h10 i hi).1, (e10 i (by omega)).trans (h10 i hi).2⟩⟩
  obtain ⟨p, e, q⟩ := h2 s hs
  exact ⟨p, (e4 s (by omega)).trans e, q⟩
theorem fsc_cp {fs gs : Nat → Option Nat} {P : mm_M} (h : fsc fs P) (e : ∀ i, i < 24 → gs i = fs i) : fsc gs P := fun s hs => by
  obtain ⟨r, e2, q⟩ := h s hs
  exact ⟨r, (e s hs).trans e2, q⟩
section M44
variable {L : Nat} {xs : Nat → Int32} {A I : Nat → Nat → Int32} {F : Nat → Nat → Option Nat} {P : mm_M} {X : Tl} {Z : Option Tl} {t : Nat → Nat} {N : Nat} {rf : Nat → Int32}
theorem c_copyTo (d : Nat) (hs : fsc (F 25) P) : sp (d + 1) 66 [.ref 9, .ref 21] (gm L xs A I F P) (fun r m => r = none ∧ ∃ f4 f5 f6 f7 f8 f9 f10, (∀ i, i < 24 → f4 i = F 25 i) ∧ (∀ i, i < 90 → f5 i = A 26 i) ∧ (∀ i, i < 6 → f6 i = A 27 i) ∧ (∀ i, i < 8 → f7 i = A 28 i) ∧ (∀ i, i < 6 → f8 i = A 29 i) ∧ (∀ i, i < 20 → f9 i = A 30 i) ∧ (∀ i, i < 20 → f10 i = A 31 i) ∧ m = gm L xs (uR (uR (uR (uR (uR (uR A 14 f5) 15 f6) 16 f7) 17 f8) 18 f9) 19 f10) (uI (uI (uI (uI I 9 2 (I 21 2)) 9 6 (I 21 6)) 9 7 (I 21 7)) 9 11 (I 21 11)) (uG F 13 f4) P) := by
  have key : ∀ k, k ≤ 24 → ∀ (x : Int32) (f : Nat → Option Nat), x = nI k → (∀ i, i < k → f i = F 25 i) → wp d (mm_Al 66) cd_Told_copyFrom (fun r m => r = none ∧ ∃ f4 f5 f6 f7 f8 f9 f10, (∀ i, i < 24 → f4 i = F 25 i) ∧ (∀ i, i < 90 → f5 i = A 26 i) ∧ (∀ i, i < 6 → f6 i = A 27 i) ∧ (∀ i, i < 8 → f7 i = A 28 i) ∧ (∀ i, i < 6 → f8 i = A 29 i) ∧ (∀ i, i < 20 → f9 i = A 30 i) ∧ (∀ i, i < 20 → f10 i = A 31 i) ∧ m = gm L xs (uR (uR (uR (uR (uR (uR A 14 f5) 15 f6) 16 f7) 17 f8) 18 f9) 19 f10) (uI (uI (uI (uI I 9 2 (I 21 2)) 9 6 (I 21 6)) 9 7 (I 21 7)) 9 11 (I 21 11)) (uG F 13 f4) P) 2 [some (.ref 9), some (.ref 21), some (.int x)] [] (gm L xs A I (uG F 13 f) P) := by
    refine rep 24 ?_ ?_
    · intro x f hx hf
      refine mm_WP.go [2] 100 (lp_ge (N := 24) hx rfl (by decide) (by decide) (fun _ => ?_) (fun h => absurd h (by decide)))
      have D : ∀ {p q : Prop}, p → q → p ∧ q := fun a b => ⟨a, b⟩
      refine D trivial (D ⟨⟨by decide, by decide, by decide, by decide⟩, by decide, by decide, by decide⟩ (D ⟨⟨by decide, by decide, by decide, by decide⟩, by decide, by decide, by decide⟩ (D ⟨⟨by decide, by decide, by decide, by decide⟩, by decide, by decide, by decide⟩ (D trivial (D trivial (D ⟨⟨by decide, by decide, by decide, by decide⟩, by decide, by decide, by decide⟩ (D ⟨⟨by decide, by decide, by decide, by decide⟩, by decide, by decide, by decide⟩ (D ⟨⟨by decide, by decide, by decide, by decide⟩, by decide, by decide, by decide⟩ (D trivial ?_)))))))))
      exact ⟨rfl, f, va_cpy (A 26) (A 14) 0 0 90, va_cpy (A 27) (A 15) 0 0 6, va_cpy (A 28) (A 16) 0 0 8, va_cpy (A 29) (A 17) 0 0 6, va_cpy (A 30) (A 18) 0 0 20, va_cpy (A 31) (A 19) 0 0 20, hf, fun i hi => cpy_at hi, fun i hi => cpy_at hi, fun i hi => cpy_at hi, fun i hi => cpy_at hi, fun i hi => cpy_at hi, fun i hi => cpy_at hi, rfl⟩
    · intro k hk ih x f hx hf
      subst hx
      have ik := ix_n (w := k) (N := 24) (by decide) hk
      obtain ⟨r, hr, hsc⟩ := hs k hk
      have hr2 : F 25 ((nI k).toNatClampNeg) = some r := by
        rw [ik.2]
        exact hr
      refine mm_WP.go [2] 60 (lp_ge (k := k) (N := 24) rfl rfl (by decide) (by omega) (fun h => absurd h (by omega)) (fun _ => ⟨ik.1, r, hr2, ik.1, scn_at hsc, ?_⟩))
      show wp d (mm_Al 66) cd_Told_copyFrom _ 2 [some (.ref 9), some (.ref 21), some (.int (nI k + 1))] [] (gm L xs A I (uG F 13 (va_up f ((nI k).toNatClampNeg) (some r))) P)
      rw [ik.2]
      refine ih _ _ (nI_1 k) (fun i hi => ?_)
      show (if i = k then some r else f i) = F 25 i
      by_cases e : i = k
      · rw [if_pos e, e, hr]
      · rw [if_neg e]
        exact hf i (by omega)
  refine ⟨⟨_, rfl⟩, rfl, mm_WP.go [2] 40 ?_⟩
  exact key 0 (by decide) 0 (F 13) rfl (fun i hi => absurd hi (Nat.not_lt_zero i))
theorem c_copyBack (d : Nat) (hs : fsc (F 13) P) : sp (d + 1) 66 [.ref 21, .ref 9] (gm L xs A I F P) (fun r m => r = none ∧ ∃ f4 f5 f6 f7 f8 f9 f10, (∀ i, i < 24 → f4 i = F 13 i) ∧ (∀ i, i < 90 → f5 i = A 14 i) ∧ (∀ i, i < 6 → f6 i = A 15 i) ∧ (∀ i, i < 8 → f7 i = A 16 i) ∧ (∀ i, i < 6 → f8 i = A 17 i) ∧ (∀ i, i < 20 → f9 i = A 18 i) ∧ (∀ i, i < 20 → f10 i = A 19 i) ∧ m = gm L xs (uR (uR (uR (uR (uR (uR A 26 f5) 27 f6) 28 f7) 29 f8) 30 f9) 31 f10) (uI (uI (uI (uI I 21 2 (I 9 2)) 21 6 (I 9 6)) 21 7 (I 9 7)) 21 11 (I 9 11)) (uG F 25 f4) P) := by
  have key : ∀ k, k ≤ 24 → ∀ (x : Int32) (f : Nat → Option Nat), x = nI k → (∀ i, i < k → f i = F 13 i) → wp d (mm_Al 66) cd_Told_copyFrom (fun r m => r = none ∧ ∃ f4 f5 f6 f7 f8 f9 f10, (∀ i, i < 24 → f4 i = F 13 i) ∧ (∀ i, i < 90 → f5 i = A 14 i) ∧ (∀ i, i < 6 → f6 i = A 15 i) ∧ (∀ i, i < 8 → f7 i = A 16 i) ∧ (∀ i, i < 6 → f8 i = A 17 i) ∧ (∀ i, i < 20 → f9 i = A 18 i) ∧ (∀ i, i < 20 → f10 i = A 19 i) ∧ m = gm L xs (uR (uR (uR (uR (uR (uR A 26 f5) 27 f6) 28 f7) 29 f8) 30 f9) 31 f10) (uI (uI (uI (uI I 21 2 (I 9 2)) 21 6 (I 9 6)) 21 7 (I 9 7)) 21 11 (I 9 11)) (uG F 25 f4) P) 2 [some (.ref 21), some (.ref 9), some (.int x)] [] (gm L xs A I (uG F 25 f) P) := by
    refine rep 24 ?_ ?_
    · intro x f hx hf
      refine mm_WP.go [2] 100 (lp_ge (N := 24) hx rfl (by decide) (by decide) (fun _ => ?_) (fun h => absurd h (by decide)))
      have D : ∀ {p q : Prop}, p → q → p ∧ q := fun a b => ⟨a, b⟩
      refine D trivial (D ⟨⟨by decide, by decide, by decide, by decide⟩, by decide, by decide, by decide⟩ (D ⟨⟨by decide, by decide, by decide, by decide⟩, by decide, by decide, by decide⟩ (D ⟨⟨by decide, by decide, by decide, by decide⟩, by decide, by decide, by decide⟩ (D trivial (D trivial (D ⟨⟨by decide, by decide, by decide, by decide⟩, by decide, by decide, by decide⟩ (D ⟨⟨by decide, by decide, by decide, by decide⟩, by decide, by decide, by decide⟩ (D ⟨⟨by decide, by decide, by decide, by decide⟩, by decide, by decide, by decide⟩ (D trivial ?_)))))))))
      exact ⟨rfl, f, va_cpy (A 14) (A 26) 0 0 90, va_cpy (A 15) (A 27) 0 0 6, va_cpy (A 16) (A 28) 0 0 8, va_cpy (A 17) (A 29) 0 0 6, va_cpy (A 18) (A 30) 0 0 20, va_cpy (A 19) (A 31) 0 0 20, hf, fun i hi => cpy_at hi, fun i hi => cpy_at hi, fun i hi => cpy_at hi, fun i hi => cpy_at hi, fun i hi => cpy_at hi, fun i hi => cpy_at hi, rfl⟩
    · intro k hk ih x f hx hf
      subst hx
      have ik := ix_n (w := k) (N := 24) (by decide) hk
      obtain ⟨r, hr, hsc⟩ := hs k hk
      have hr2 : F 13 ((nI k).toNatClampNeg) = some r := by
        rw [ik.2]
        exact hr
      refine mm_WP.go [2] 60 (lp_ge (k := k) (N := 24) rfl rfl (by decide) (by omega) (fun h => absurd h (by omega)) (fun _ => ⟨ik.1, r, hr2, ik.1, scn_at hsc, ?_⟩))
      show wp d (mm_Al 66) cd_Told_copyFrom _ 2 [some (.ref 21), some (.ref 9), some (.int (nI k + 1))] [] (gm L xs A I (uG F 25 (va_up f ((nI k).toNatClampNeg) (some r))) P)
      rw [ik.2]
      refine ih _ _ (nI_1 k) (fun i hi => ?_)
      show (if i = k then some r else f i) = F 13 i
      by_cases e : i = k
      · rw [if_pos e, e, hr]
      · rw [if_neg e]
        exact hf i (by omega)
  refine ⟨⟨_, rfl⟩, rfl, mm_WP.go [2] 40 ?_⟩
  exact key 0 (by decide) 0 (F 25) rfl (fun i hi => absurd hi (Nat.not_lt_zero i))
theorem c_image (d : Nat) (ho : okT X) (h : CI (X, Z, t, N, rf) A I F P) : sp (d + 2) 110 [.ref 6] (gm L xs A I F P) (cQ L xs A I (X, some X, t, N, rf) (.int (nI (xN X)))) := by
  obtain ⟨h1, h2, h3, h4, h5, h6⟩ := h
  refine ⟨⟨_, rfl⟩, rfl, mm_WP.go [11] 40 ⟨_, c_copyTo d h2, ?_⟩⟩
  rintro r m ⟨rfl, f4, f5, f6, f7, f8, f9, f10, e4, e5, e6, e7, e8, e9, e10, rfl⟩
  refine mm_WP.go [] 40 ⟨rfl, congrArg (fun z => some (Value.int z)) (show I 21 2 = _ from h1.1), uR (uR (uR (uR (uR (uR A 14 f5) 15 f6) 16 f7) 17 f8) 18 f9) 19 f10, uI (uI (uI (uI (uI I 9 2 (I 21 2)) 9 6 (I 21 6)) 9 7 (I 21 7)) 9 11 (I 21 11)) 6 3 1, uG F 13 f4, P, rfl, ⟨h1, h2, fsc_cp h2 e4, rfl, fun Y hY => ?_, h6⟩, ((((((sR.rf.r (by decide) _).r (by decide) _).r (by decide) _).r (by decide) _).r (by decide) _).r (by decide) _), ((((tR.rf.i (by decide) _ _).i (by decide) _ _).i (by decide) _ _).i (by decide) _ _).i (by decide) _ _⟩
  have hY : X = Y := Option.some.inj hY
  subst hY
  exact CT_cp ho h1 e4 e5 e6 e7 e8 e9 e10
theorem c_restore (d : Nat) {Y : Tl} (ho : okT Y) (h : CI (X, some Y, t, N, rf) A I F P) : sp (d + 2) 111 [.ref 6] (gm L xs A I F P) (cQ L xs A I (Y, some Y, t, N, rf) (.int (nI (xN Y)))) := by
  obtain ⟨h1, h2, h3, h4, h5, h6⟩ := h
  have h4 : I 6 3 = 1 := h4
  have hk := h5 Y rfl
  refine ⟨⟨_, rfl⟩, rfl, mm_WP.go [25] 40 ⟨fun _ => ⟨_, c_copyBack d h3, ?_⟩, fun c => absurd (h4.symm.trans c) (by decide)⟩⟩
  rintro r m ⟨rfl, f4, f5, f6, f7, f8, f9, f10, e4, e5, e6, e7, e8, e9, e10, rfl⟩
  refine mm_WP.go [] 40 ⟨congrArg (fun z => some (Value.int z)) (show I 9 2 = _ from hk.1), uR (uR (uR (uR (uR (uR A 26 f5) 27 f6) 28 f7) 29 f8) 30 f9) 31 f10, uI (uI (uI (uI I 21 2 (I 9 2)) 21 6 (I 9 6)) 21 7 (I 9 7)) 21 11 (I 9 11), uG F 25 f4, P, rfl, ⟨CT_cp ho hk e4 e5 e6 e7 e8 e9 e10, fsc_cp h3 e4, h3, h4, h5, h6⟩, ((((((sR.rf.r (by decide) _).r (by decide) _).r (by decide) _).r (by decide) _).r (by decide) _).r (by decide) _), (((tR.rf.i (by decide) _ _).i (by decide) _ _).i (by decide) _ _).i (by decide) _ _⟩
theorem c_restore_r (d : Nat) (h : CI (X, none, t, N, rf) A I F P) : sp (d + 2) 111 [.ref 6] (gm L xs A I F P) (rC L xs A I F P 3 (-3)) := by
  have h4 : I 6 3 = 0 := h.2.2.2.1
  exact ⟨⟨_, rfl⟩, rfl, mm_WP.go [25] 40 ⟨fun c => absurd h4 c, fun _ => ca (c_rf3 d) ⟨rfl, rfl⟩⟩⟩
end M44
