/-! a new scene: the class -/
abbrev wq (d : Nat) (B : Nat × Nat) (cd : mm_C) (Q : mm_Q) (pc : Nat) (ls : mm_L) (st : List Value) (mem : mm_M) (k n : Nat) : Prop := mm_WP (mm_Sp mm_Pt mm_Al mm_Df d) mm_Al mm_Df B cd Q pc ls st mem k n
section W1
variable {d : Nat} {B : Nat × Nat} {cd : mm_C} {Q : mm_Q} {pc nx a b r kk nn : Nat} {ls : mm_L} {st : List Value} {mem : mm_M} {sw : List (Int32 × Nat)} {lc : Int64} {fs : List Value} {v : Value}
theorem v_pf {i tag : Nat} {u : Int32} {v0 : Value} (hf : mm_find cd pc = some (.putfield i, nx, a, b, [(u, tag)], lc)) (h : mm_nth mem r = some (.inr (a, fs))) (hv : mm_nth fs b = some v0) (ht : mm_fit tag v) (k : wq d B cd Q nx ls st (mm_set mem r (.inr (a, mm_set fs b v))) kk nn) : wq d B cd Q pc ls (v :: .ref r :: st) mem kk nn := by
  refine mm_WP.step ?_
  unfold mm_step
  rw [hf]
  unfold mm_ins
  dsimp only
  rw [h]
  dsimp only
  rw [nb_eq]
  dsimp only
  rw [hv]
  exact ⟨ht, k⟩
end W1
theorem sb_new {n : Nat} {b : Bool} {q : Nat → Bool} : sb (n + 1) (fun s => if s = n then b else q s) = 2 ^ n * (if b then 1 else 0) + sb n q := by
  show 2 ^ n * (if (if n = n then b else q n) = true then 1 else 0) + sb n _ = _
  rw [if_pos (rfl : n = n), sb_cong (q := q) (fun i hi => if_neg (by omega))]
def addX (X : Tl) (D : Sc) : Tl := (xN X + 1, fun s => if s = xN X then D else xD X s, fun s w => if s = xN X then false else xS X s w, X.2.2.2)
theorem okT_add {X : Tl} {D : Sc} (ho : okT X) (hn : xN X < 24) (hD : okS D) : okT (addX X D) := by
  obtain ⟨h1, h2, h3, h4, h5, h6, h7, h8⟩ := ho
  refine ⟨hn, fun s hs => ?_, h3, h4, h5, h6, h7, fun i hi => ⟨Nat.lt_succ_of_lt (h8 i hi).1, (h8 i hi).2⟩⟩
  show okS (if s = xN X then D else xD X s)
  by_cases c : s = xN X
  · rw [if_pos c]
    exact hD
  · rw [if_neg c]
    exact h2 s (by have : s < xN X + 1 := hs; omega)
theorem hX_add {X : Tl} {D : Sc} {s m : Nat} : hX (addX X D) s m = if s = xN X then HS D m else hX X s m := by
  show HS (if s = xN X then D else xD X s) m = _
  by_cases c : s = xN X
  · rw [if_pos c, if_pos c]
  · rw [if_neg c, if_neg c]
theorem CT_app {X : Tl} {i2 i6 i7 i11 : Int32} {fs : Nat → Option Nat} {a5 a6 a7 a8 a9 a10 : Nat → Int32} {P Y : mm_M} (h : CT X i2 i6 i7 i11 fs a5 a6 a7 a8 a9 a10 P) : CT X i2 i6 i7 i11 fs a5 a6 a7 a8 a9 a10 (P ++ Y) := by
  obtain ⟨h1, h2, h3⟩ := h
  refine ⟨h1, fun s hs => ?_, h3⟩
  obtain ⟨p, e, q⟩ := h2 s hs
  exact ⟨p, e, SP_app q⟩
theorem fsc_app {fs : Nat → Option Nat} {P Y : mm_M} (h : fsc fs P) : fsc fs (P ++ Y) := fun s hs => by
  obtain ⟨r, e, q⟩ := h s hs
  exact ⟨r, e, scn_app q⟩
theorem CT_add {X : Tl} {D : Sc} {i2 i6 i7 i11 : Int32} {fs : Nat → Option Nat} {a5 a6 a7 a8 a9 a10 f5 : Nat → Int32} {P : mm_M} {p : Nat} (h : CT X i2 i6 i7 i11 fs a5 a6 a7 a8 a9 a10 P) (hsp : SP P p D) (hf5 : ∀ m, m < 90 → f5 m = nI (sb (xN X + 1) (fun s => if s = xN X then HS D m else hX X s m))) : CT (addX X D) (nI (xN X + 1)) i6 i7 i11 (va_up fs (xN X) (some (p + 56))) f5 a6 a7 a8 a9 a10 P := by
  obtain ⟨h1, h2, h3, h4, h5⟩ := h
  refine ⟨rfl, fun s hs => ?_, fun m hm => ?_, fun w hw => ?_, h5⟩
  · have hs : s < xN X + 1 := hs
    by_cases c : s = xN X
    · refine ⟨p, ?_, ?_⟩
      · show (if s = xN X then some (p + 56) else fs s) = _
        rw [if_pos c]
      · show SP P p (if s = xN X then D else xD X s)
        rw [if_pos c]
        exact hsp
    · obtain ⟨q, e, g⟩ := h2 s (by omega)
      refine ⟨q, ?_, ?_⟩
      · show (if s = xN X then some (p + 56) else fs s) = _
        rw [if_neg c]
        exact e
      · show SP P q (if s = xN X then D else xD X s)
        rw [if_neg c]
        exact g
  · rw [hf5 m hm]
    congr 1
    exact sb_cong (fun s _ => hX_add.symm)
  · rw [h4 w hw]
    congr 1
    show _ = sb (xN X + 1) (fun s => if s = xN X then false else xS X s w)
    rw [sb_new]
    simp
theorem fsc_up {fs : Nat → Option Nat} {P : mm_M} {n r : Nat} (h : fsc fs P) (hr : scn P r) : fsc (va_up fs n (some r)) P := fun s hs => by
  by_cases c : s = n
  · exact ⟨r, if_pos c, hr⟩
  · obtain ⟨r2, e, q⟩ := h s hs
    exact ⟨r2, (if_neg c).trans e, q⟩
section M34
variable {L : Nat} {xs : Nat → Int32} {A I : Nat → Nat → Int32} {F : Nat → Nat → Option Nat} {P : mm_M}
theorem c_place (d : Nat) : sp (d + 1) 46 [.ref 7] (gm L xs A I F P) (ans (gm L xs A I F P) (I 7 2)) := ⟨⟨_, rfl⟩, rfl, mm_WP.go [] 20 ⟨rfl, rfl⟩⟩
theorem c_empty (d : Nat) : sp (d + 1) 47 [.ref 7] (gm L xs A I F P) (fun r m => r = none ∧ m = gm L xs A (uI I 7 1 0) F P) := ⟨⟨_, rfl⟩, rfl, mm_WP.go [] 20 ⟨trivial, rfl, rfl⟩⟩
theorem s_init (d : Nat) : sp (d + 1) 27 [.ref (P.length + 56)] (gm L xs A I F (P ++ [.inr (3, mm_Df 3)])) (fun r m => r = none ∧ m = gm L xs A I F (P ++ SCc P.length 0 0 (fun _ => 0) (fun _ => 0))) := by
  have nn : ∀ (X : mm_M) (e : va_E), mm_nth (gm L xs A I F (P ++ e :: X)) (P.length + 56) = some e := fun X e => nth_app P 0
  refine ⟨⟨_, nn [] _⟩, rfl, mm_WP.go [8] 20 ⟨by decide, rfl, ⟨by decide, by decide⟩, fun r hr => ?_⟩⟩
  have hr : r = P.length + 57 := hr.trans (by show (P ++ [_]).length + 56 = _; rw [List.length_append]; rfl)
  subst hr
  show wq d (mm_Al 27) cd_Scene_init _ 8 [some (.ref (P.length + 56))] [.ref (P.length + 57), .ref (P.length + 56)] (gm L xs A I F ((P ++ [.inr (3, mm_Df 3)]) ++ [.inl (0, 4, .inl (fun _ => 0))])) 1 4
  rw [List.append_assoc]
  refine v_pf rfl (nn _ _) rfl trivial ?_
  rw [ss_0 rfl]
  refine mm_WP.go [15] 20 ⟨rfl, ⟨by decide, by decide⟩, fun r hr => ?_⟩
  have hr : r = P.length + 58 := hr.trans (by show (P ++ _).length + 56 = _; rw [List.length_append]; rfl)
  subst hr
  show wq d (mm_Al 27) cd_Scene_init _ 15 [some (.ref (P.length + 56))] [.ref (P.length + 58), .ref (P.length + 56)] (gm L xs A I F ((P ++ [.inr (3, [.ref (P.length + 57), .null, .int 0, .int 0]), .inl (0, 4, .inl (fun _ => 0))]) ++ [.inl (0, 3, .inl (fun _ => 0))])) 2 7
  rw [List.append_assoc]
  refine v_pf rfl (nn _ _) rfl trivial ?_
  rw [ss_0 rfl]
  refine mm_WP.go [20] 20 (v_pf rfl (nn [.inl (0, 4, .inl (fun _ => 0)), .inl (0, 3, .inl (fun _ => 0))] (.inr (3, [.ref (P.length + 57), .ref (P.length + 58), .int 0, .int 0]))) rfl trivial ?_)
  rw [ss_0 rfl]
  refine mm_WP.go [25] 20 (v_pf rfl (nn [.inl (0, 4, .inl (fun _ => 0)), .inl (0, 3, .inl (fun _ => 0))] (.inr (3, [.ref (P.length + 57), .ref (P.length + 58), .int 0, .int 0]))) rfl trivial ?_)
  rw [ss_0 rfl]
  exact mm_WP.go [] 20 ⟨rfl, rfl⟩
theorem c_addScene (d : Nat) {X : Tl} {D : Sc} {p : Nat} (hT : CT X (I 21 2) (I 21 6) (I 21 7) (I 21 11) (F 25) (A 26) (A 27) (A 28) (A 29) (A 30) (A 31) P) (hn : xN X < 24) (hsp : SP P p D) (hD : okS D) : sp (d + 5) 50 [.ref 21, .ref (p + 56)] (gm L xs A I F P) (fun r m => r = some (.int (nI (xN X))) ∧ ∃ f, (∀ m, m < 90 → f m = nI (sb (xN X + 1) (fun s => if s = xN X then HS D m else hX X s m))) ∧ m = gm L xs (uR A 26 f) (uI I 21 2 (nI (xN X + 1))) (uF F 25 (xN X) (some (p + 56))) P) := by
  obtain ⟨hI, h2, h3, -⟩ := hT
  have i1 := ix_n (w := xN X) (N := 24) (by decide) hn
  have key : ∀ k, k ≤ 90 → ∀ (x : Int32) (f : Nat → Int32), x = nI k → (∀ m, m < k → f m = nI (sb (xN X + 1) (fun s => if s = xN X then HS D m else hX X s m))) → (∀ m, k ≤ m → f m = A 26 m) → wp (d + 4) (mm_Al 50) cd_Told_addScene (fun r m => r = some (.int (nI (xN X))) ∧ ∃ f, (∀ m, m < 90 → f m = nI (sb (xN X + 1) (fun s => if s = xN X then HS D m else hX X s m))) ∧ m = gm L xs (uR A 26 f) (uI I 21 2 (nI (xN X + 1))) (uF F 25 (xN X) (some (p + 56))) P) 23 [some (.ref 21), some (.ref (p + 56)), some (.int (nI (xN X))), some (.int x)] [] (gm L xs (uR A 26 f) I (uF F 25 (xN X) (some (p + 56))) P) := by
    refine rep 90 ?_ ?_
    · intro x f hx hf1 hf2
      refine mm_WP.go [23] 40 (lp_ge (N := 90) hx rfl (by decide) (by decide) (fun _ => ⟨trivial, rfl, f, hf1, ?_⟩) (fun h => absurd h (by decide)))
      rw [← nI_1, ← hI]
      rfl
    · intro k hk ih x f hx hf1 hf2
      subst hx
      have ix := ix_n (w := k) (N := 90) (by decide) hk
      have hs := s_holds d (SP_SO (L := L) (xs := xs) (A := uR A 26 f) (I := I) (F := uF F 25 (xN X) (some (p + 56))) hsp) hD hk
      refine mm_WP.go [23] 40 (lp_ge (k := k) (N := 90) rfl rfl (by decide) (by omega) (fun h => absurd h (by omega)) (fun _ => ca hs ⟨fun c => ?_, fun c => ⟨ix.1, ix.1, ?_⟩⟩))
      · refine ih _ f (nI_1 k) (fun m hm => ?_) (fun m hm => hf2 m (by omega))
        by_cases e : m = k
        · subst e
          rw [hf2 m (Nat.le_refl _), h3 m hk, sb_new, bI_0 c]
          simp
        · exact hf1 m (by omega)
      · show wp (d + 4) (mm_Al 50) cd_Told_addScene _ 23 [some (.ref 21), some (.ref (p + 56)), some (.int (nI (xN X))), some (.int (nI k + 1))] [] (gm L xs (uR A 26 (upd f ((nI k).toNatClampNeg) (f ((nI k).toNatClampNeg) ||| ((1 : Int32) <<< (nI (xN X) &&& 31))))) I (uF F 25 (xN X) (some (p + 56))) P)
        rw [ix.2]
        refine ih _ _ (nI_1 k) (fun m hm => ?_) (fun m hm => ?_)
        · rw [upd_at]
          by_cases e : m = k
          · subst e
            rw [if_pos rfl, hf2 m (Nat.le_refl _), h3 m hk, sb_new, bI_1 c, sh_one _ (by omega), Int32.or_comm, if_pos rfl]
            have := fa_or_sum 1 (sb_lt (fun s => hX X s m) (xN X))
            rw [Nat.mul_one] at this ⊢
            exact this
          · rw [if_neg e]
            exact hf1 m (by omega)
        · rw [upd_at, if_neg (by omega)]
          exact hf2 m (by omega)
  refine ⟨⟨_, rfl⟩, rfl, mm_WP.go [23] 40 (lp_ge hI (N := 24) rfl (by decide) (by omega) (fun h => absurd h (by omega)) (fun _ => ⟨?_, ⟨_, (SP_SO hsp).choose_spec.choose_spec.choose_spec.choose_spec.1⟩, ?_⟩))⟩
  · rw [hI]
    exact i1.1
  · show wp (d + 4) (mm_Al 50) cd_Told_addScene _ 23 [some (.ref 21), some (.ref (p + 56)), some (.int (I 21 2)), some (.int 0)] [] (gm L xs A I (uF F 25 ((I 21 2).toNatClampNeg) (some (p + 56))) P)
    rw [hI, i1.2]
    exact key 0 (by decide) 0 (A 26) rfl (fun m hm => absurd hm (Nat.not_lt_zero m)) (fun m _ => rfl)
end M34
