/-! the class's reader: things, doings, a scene -/
theorem nI_m1 {x : Nat} (h : x < 2 ^ 31) : ¬ nI x = -1 := by
  intro c
  have := nI_pos' h
  rw [c] at this
  exact absurd this (by decide)
section M27
variable {L : Nat} {xs : Nat → Int32} {A I : Nat → Nat → Int32} {F : Nat → Nat → Option Nat} {P : mm_M}
theorem c_rts_loop {d : Nat} {B : Nat × Nat} {Q : mm_Q} {t : Nat → Nat} {N dc : Nat} {g : Nat → Int32} (hT : TXc t N A I) (K : Bool × List Nat × Nat) (hq : ∀ f, lrw f K.2.1 → Q (some (.int (bI K.1))) (gC L xs A I F P K.2.2 K.2.1.length dc f g)) :
    ∀ (j : Nat) (l : List Nat) (p : Nat) (x : Int32) (f : Nat → Int32), l.length + j = 4 → p ≤ N → x = nI l.length → lrw f l → rdT t N j l p = K → wp (d + 3) B cd_Text_readThings Q 4 [some (.ref 7), some (.ref (P.length + 56)), some (.int 1), some (.int x)] [] (gC L xs A I F P p l.length dc f g) := by
  intro j
  induction j with
  | zero =>
    intro l p x f hl hp hx hf hK
    rw [rdT] at hK
    subst hK
    refine mm_WP.go [4] 40 (lp_ge (N := 4) hx rfl (by decide) (by omega) (fun h => ⟨rfl, hq f hf⟩) (fun h => absurd h (by omega)))
  | succ j ih =>
    intro l p x f hl hp hx hf hK
    subst hx
    rw [rdT] at hK
    have hok := tH_ok (t := t) hp
    have hlen : (l ++ [(tH t N p).1]).length = l.length + 1 := by rw [List.length_append, List.length_singleton]
    refine mm_WP.go [4] 40 (lp_ge (k := l.length) (N := 4) rfl rfl (by decide) (by omega) (fun h => absurd h (by omega)) (fun _ => e1 ⟨_, c_readThing d hT hp (by omega), ?_⟩))
    rintro r m (⟨h, rfl, rfl⟩ | ⟨h, rfl, rfl⟩)
    · rw [if_pos h] at hK
      subst hK
      exact n0 ⟨rfl, hq f hf⟩
    · rw [if_neg h] at hK
      refine n1 ?_
      have hf2 := lrw_add hf (tH t N p).1
      by_cases hj : j = 0
      · rw [if_neg (fun z => z.1 hj)] at hK
        subst hK
        refine lp_ge (k := l.length + 1) (N := 4) (nI_1 _) rfl (by decide) (by omega) (fun _ => ?_) (fun h => absurd h (by omega))
        have h2 := hq _ hf2
        dsimp only at h2
        rw [hlen] at h2
        refine mm_WP.go [4] 40 (lp_ge (k := l.length + 1) (N := 4) (nI_1 _) rfl (by decide) (by omega) (fun h => ⟨rfl, h2⟩) (fun h => absurd h (by omega)))
      · refine lp_ge (k := l.length + 1) (N := 4) (nI_1 _) rfl (by decide) (by omega) (fun h => absurd h (by omega)) (fun _ => ⟨_, c_take (P := P ++ SCc P.length (l.length + 1) dc (upd f l.length (nI (tH t N p).1)) g) (a := 44) (d + 1) hT hok.2 (by decide), ?_⟩)
        rintro r m (⟨h2, rfl, rfl⟩ | ⟨h2, rfl, rfl⟩)
        · rw [if_pos ⟨hj, h2⟩] at hK
          have h1 := hd_lt (t := t) (N := N) (p := (tH t N p).2) (by omega)
          have h3 := ih (l ++ [(tH t N p).1]) ((tH t N p).2 + 1) (nI l.length + 1) _ (by omega) (by omega) (by rw [hlen]; exact nI_1 _) hf2 hK
          rw [hlen] at h3
          exact e1 h3
        · rw [if_neg (fun z => h2 z.2)] at hK
          subst hK
          have h3 := hq _ hf2
          dsimp only at h3
          rw [hlen] at h3
          exact e0 (mm_WP.go [4] 40 (lp_ge (k := l.length + 1) (N := 4) (nI_1 _) rfl (by decide) (by omega) (fun h => absurd h (by omega)) (fun h => e0 ⟨rfl, h3⟩)))
theorem c_readThings (d : Nat) {t : Nat → Nat} {N : Nat} {f g : Nat → Int32} (hT : TXc t N A I) : sp (d + 4) 40 [.ref 7, .ref (P.length + 56)] (gC L xs A I F P 0 0 0 f g) (fun r m => ∃ f, lrw f (rdT t N 4 [] 0).2.1 ∧ r = some (.int (bI (rdT t N 4 [] 0).1)) ∧ m = gC L xs A I F P (rdT t N 4 [] 0).2.2 (rdT t N 4 [] 0).2.1.length 0 f g) := by
  refine ⟨⟨_, rfl⟩, rfl, mm_WP.go [4] 40 ?_⟩
  exact c_rts_loop hT (rdT t N 4 [] 0) (fun f hf => ⟨f, hf, rfl, rfl⟩) 4 [] 0 _ f rfl (Nat.zero_le N) rfl (fun i hi => absurd hi (Nat.not_lt_zero i)) rfl
/-- a row that holds doings -/
def drw (g : Nat → Int32) (l : List (Nat × Nat × Nat)) : Prop := ∀ i, i < l.length → g i = nI (100 * (l.getD i (0, 0, 0)).1 + 10 * (l.getD i (0, 0, 0)).2.1 + (l.getD i (0, 0, 0)).2.2)
theorem drw_add {g : Nat → Int32} {l : List (Nat × Nat × Nat)} (h : drw g l) (x : Nat × Nat × Nat) : drw (upd g l.length (nI (100 * x.1 + 10 * x.2.1 + x.2.2))) (l ++ [x]) := by
  intro i hi
  rw [List.length_append, List.length_singleton] at hi
  rw [getD_app hi, upd_at]
  by_cases c : i = l.length
  · rw [if_pos c, if_neg (by omega)]
  · rw [if_neg c, if_pos (by omega)]
    exact h i (by omega)
theorem c_readDoing (d : Nat) {t : Nat → Nat} {N p tc dc : Nat} {f g : Nat → Int32} (hT : TXc t N A I) (hp : p ≤ N) (htc : tc ≤ 4) (hdc : dc < 3) : sp (d + 2) 45 [.ref 7, .ref (P.length + 56)] (gC L xs A I F P p tc dc f g) (fun r m => ((rD t N tc p).1 = none ∧ r = some (.int 0) ∧ m = gC L xs A I F P (rD t N tc p).2 tc dc f g) ∨ (∃ x, (rD t N tc p).1 = some x ∧ r = some (.int 1) ∧ m = gC L xs A I F P (rD t N tc p).2 tc (dc + 1) f (upd g dc (nI (100 * x.1 + 10 * x.2.1 + x.2.2))))) := by
  refine ⟨⟨_, rfl⟩, rfl, mm_WP.go [4] 40 (w_gf rfl (sc_0 (I := uI I 7 2 (nI p)) rfl) rfl (mm_WP.go [37] 40 ⟨_, c_takeOneOf (P := P ++ SCc P.length tc dc f g) (a := 48) (k := tc) (lo := -1) d hT hp (by omega), ?_⟩))⟩
  rintro r m (⟨⟨h1, h1b⟩, rfl, rfl⟩ | ⟨h1, rfl, rfl⟩)
  · have b1 := hd_lt (t := t) (N := N) (p := p) (by omega)
    refine ⟨fun _ => ⟨_, c_takeOneOf (P := P ++ SCc P.length tc dc f g) (a := 120) (k := 3) (lo := -1) d hT (show p + 1 ≤ N by omega) (by omega), ?_⟩, fun c => absurd (nI_pos' (by omega)) c⟩
    rintro r m (⟨⟨h2, h2b⟩, rfl, rfl⟩ | ⟨h2, rfl, rfl⟩)
    · have b2 := hd_lt (t := t) (N := N) (p := p + 1) (by omega)
      refine ⟨fun _ => w_gf rfl (sc_0 (I := uI I 7 2 (nI (p + 1 + 1))) rfl) rfl (mm_WP.go [] 40 ⟨_, c_takeOneOf (P := P ++ SCc P.length tc dc f g) (a := 48) (k := tc) (lo := nI (hd t N p - 48)) d hT (show p + 1 + 1 ≤ N by omega) (by omega), ?_⟩), fun c => absurd (nI_pos' (by omega)) c⟩
      rintro r m (⟨⟨h3, h3b⟩, rfl, rfl⟩ | ⟨h3, rfl, rfl⟩)
      · have b3 := hd_lt (t := t) (N := N) (p := p + 1 + 1) (by omega)
        refine ⟨fun _ => ca (c_addDoing (I := uI I 7 2 (nI (p + 1 + 1 + 1))) d rfl hdc _) ⟨rfl, Or.inr ⟨(hd t N p - 48, hd t N (p + 1) - 120, hd t N (p + 2) - 48), ?_, rfl, ?_⟩⟩, fun c => absurd (nI_pos' (by omega)) c⟩
        · unfold rD
          rw [if_pos h1, if_pos h2, if_pos ⟨h3, fun e => h3b (by rw [show p + 1 + 1 = p + 2 from rfl, e])⟩]
        · have e : rD t N tc p = (some (hd t N p - 48, hd t N (p + 1) - 120, hd t N (p + 2) - 48), p + 3) := by
            unfold rD
            rw [if_pos h1, if_pos h2, if_pos ⟨h3, fun e => h3b (by rw [show p + 1 + 1 = p + 2 from rfl, e])⟩]
          rw [e]
          dsimp only
          rw [show (100 : Int32) = nI 100 from rfl, show (10 : Int32) = nI 10 from rfl, pk_mul, pk_mul, nI_add, nI_add]
      · have e : rD t N tc p = (none, p + 2) := by
          unfold rD
          have hne : ¬ ((48 ≤ hd t N (p + 2) ∧ hd t N (p + 2) < 48 + tc) ∧ hd t N (p + 2) ≠ hd t N p) := fun z => h3 ⟨z.1, fun c => z.2 (by
            have b3 := z.1
            have c2 : hd t N (p + 2) - 48 = hd t N p - 48 := (nI_eq (by omega) (by omega)).mp c
            omega)⟩
          rw [if_pos h1, if_pos h2, if_neg hne]
        refine ⟨fun c => absurd c (by decide), fun _ => ⟨rfl, Or.inl ⟨by rw [e], rfl, by rw [e]⟩⟩⟩
    · have e : rD t N tc p = (none, p + 1) := by
        unfold rD
        rw [if_pos h1, if_neg (fun z => h2 ⟨z, nI_m1 (by omega)⟩)]
      refine ⟨fun c => absurd c (by decide), fun _ => ⟨rfl, Or.inl ⟨by rw [e], rfl, by rw [e]⟩⟩⟩
  · have e : rD t N tc p = (none, p) := by
      unfold rD
      rw [if_neg (fun z => h1 ⟨z, nI_m1 (by omega)⟩)]
    refine ⟨fun c => absurd c (by decide), fun _ => ⟨rfl, Or.inl ⟨by rw [e], rfl, by rw [e]⟩⟩⟩
theorem c_rds_loop {d : Nat} {B : Nat × Nat} {Q : mm_Q} {t : Nat → Nat} {N tc : Nat} {f : Nat → Int32} (hT : TXc t N A I) (htc : tc ≤ 4) (K : Bool × List (Nat × Nat × Nat) × Nat) (hq : ∀ g, drw g K.2.1 → Q (some (.int (bI K.1))) (gC L xs A I F P K.2.2 tc K.2.1.length f g)) :
    ∀ (j : Nat) (l : List (Nat × Nat × Nat)) (p : Nat) (x : Int32) (g : Nat → Int32), l.length + j = 3 → p ≤ N → x = nI l.length → drw g l → rdD t N tc j l p = K → wp (d + 2) B cd_Text_readDoings Q 4 [some (.ref 7), some (.ref (P.length + 56)), some (.int 1), some (.int x)] [] (gC L xs A I F P p tc l.length f g) := by
  intro j
  induction j with
  | zero =>
    intro l p x g hl hp hx hf hK
    rw [rdD] at hK
    subst hK
    refine mm_WP.go [4] 40 (lp_ge (N := 3) hx rfl (by decide) (by omega) (fun h => ⟨rfl, hq g hf⟩) (fun h => absurd h (by omega)))
  | succ j ih =>
    intro l p x g hl hp hx hf hK
    subst hx
    rw [rdD] at hK
    have hok := rD_ok (t := t) (N := N) (tc := tc) htc hp
    refine mm_WP.go [4] 40 (lp_ge (k := l.length) (N := 3) rfl rfl (by decide) (by omega) (fun h => absurd h (by omega)) (fun _ => e1 ⟨_, c_readDoing d hT hp htc (by omega), ?_⟩))
    rintro r m (⟨h, rfl, rfl⟩ | ⟨y, h, rfl, rfl⟩)
    · rw [h] at hK
      dsimp only at hK
      subst hK
      exact n0 ⟨rfl, hq g hf⟩
    · rw [h] at hK
      dsimp only at hK
      have hlen : (l ++ [y]).length = l.length + 1 := by rw [List.length_append, List.length_singleton]
      refine n1 ?_
      have hf2 := drw_add hf y
      by_cases hj : j = 0
      · rw [if_neg (fun z => z.1 hj)] at hK
        subst hK
        refine lp_ge (k := l.length + 1) (N := 3) (nI_1 _) rfl (by decide) (by omega) (fun _ => ?_) (fun h => absurd h (by omega))
        have h2 := hq _ hf2
        dsimp only at h2
        rw [hlen] at h2
        refine mm_WP.go [4] 40 (lp_ge (k := l.length + 1) (N := 3) (nI_1 _) rfl (by decide) (by omega) (fun h => ⟨rfl, h2⟩) (fun h => absurd h (by omega)))
      · refine lp_ge (k := l.length + 1) (N := 3) (nI_1 _) rfl (by decide) (by omega) (fun h => absurd h (by omega)) (fun _ => ⟨_, c_take (P := P ++ SCc P.length tc (l.length + 1) f (upd g l.length (nI (100 * y.1 + 10 * y.2.1 + y.2.2)))) (a := 44) d hT hok.1 (by decide), ?_⟩)
        rintro r m (⟨h2, rfl, rfl⟩ | ⟨h2, rfl, rfl⟩)
        · rw [if_pos ⟨hj, h2⟩] at hK
          have h1 := hd_lt (t := t) (N := N) (p := (rD t N tc p).2) (by omega)
          have h3 := ih (l ++ [y]) ((rD t N tc p).2 + 1) (nI l.length + 1) _ (by omega) (by omega) (by rw [hlen]; exact nI_1 _) hf2 hK
          rw [hlen] at h3
          exact e1 h3
        · rw [if_neg (fun z => h2 z.2)] at hK
          subst hK
          have h3 := hq _ hf2
          dsimp only at h3
          rw [hlen] at h3
          exact e0 (mm_WP.go [4] 40 (lp_ge (k := l.length + 1) (N := 3) (nI_1 _) rfl (by decide) (by omega) (fun h => absurd h (by omega)) (fun h => e0 ⟨rfl, h3⟩)))
theorem c_readDoings (d : Nat) {t : Nat → Nat} {N tc p : Nat} {f g : Nat → Int32} (hT : TXc t N A I) (htc : tc ≤ 4) (hp : p ≤ N) : sp (d + 3) 44 [.ref 7, .ref (P.length + 56)] (gC L xs A I F P p tc 0 f g) (fun r m => ∃ g, drw g (rdD t N tc 3 [] p).2.1 ∧ r = some (.int (bI (rdD t N tc 3 [] p).1)) ∧ m = gC L xs A I F P (rdD t N tc 3 [] p).2.2 tc (rdD t N tc 3 [] p).2.1.length f g) := by
  refine ⟨⟨_, rfl⟩, rfl, mm_WP.go [4] 40 ?_⟩
  exact c_rds_loop hT htc (rdD t N tc 3 [] p) (fun g hg => ⟨g, hg, rfl, rfl⟩) 3 [] p _ g rfl hp rfl (fun i hi => absurd hi (Nat.not_lt_zero i)) rfl
theorem c_readScene (d : Nat) {t : Nat → Nat} {N : Nat} {f g : Nat → Int32} (hT : TXc t N A I) : sp (d + 5) 39 [.ref 7, .ref (P.length + 56)] (gm L xs A I F (P ++ SCc P.length 0 0 f g)) (fun r m => ∃ f g, lrw f (rdS t N).2.1 ∧ drw g (rdS t N).2.2.1 ∧ r = some (.int (bI (rdS t N).1)) ∧ m = gC L xs A I F P (rdS t N).2.2.2 (rdS t N).2.1.length (rdS t N).2.2.1.length f g) := by
  have hTk := rdT_ok (t := t) (N := N) 4 [] 0 (Nat.zero_le N) (by decide) (fun x hx => by cases hx)
  have hI := hT.2.1
  have hN := hT.1
  have d0 : ∀ g : Nat → Int32, drw g [] := fun g i hi => absurd hi (Nat.not_lt_zero i)
  refine ⟨⟨_, rfl⟩, rfl, mm_WP.go [] 40 ⟨trivial, _, c_readThings d (f := f) (g := g) hT, ?_⟩⟩
  unfold rdS
  generalize rdT t N 4 [] 0 = K at *
  obtain ⟨ok, l, p⟩ := K
  dsimp only at hTk ⊢
  rintro r m ⟨f2, hf2, rfl, rfl⟩
  cases ok
  · exact e0 ⟨rfl, f2, g, hf2, d0 g, rfl, rfl⟩
  · rw [if_neg (by decide)]
    refine e1 ?_
    have hcmp : ∀ q : Nat, q ≤ N → (nI q = I 7 1 ↔ q = N) := fun q hq => by rw [hI, nI_eq (by omega) (by omega)]
    by_cases c : p = N
    · rw [if_pos c]
      exact ⟨fun _ => ⟨rfl, f2, g, hf2, d0 g, rfl, rfl⟩, fun c2 => absurd ((hcmp p hTk.1).mpr c) c2⟩
    · rw [if_neg c]
      refine ⟨fun c2 => absurd ((hcmp p hTk.1).mp c2) c, fun _ => ⟨_, c_take (P := P ++ SCc P.length l.length 0 f2 g) (a := 59) (d + 2) hT hTk.1 (by decide), ?_⟩⟩
      rintro r m (⟨h, rfl, rfl⟩ | ⟨h, rfl, rfl⟩)
      · rw [if_pos h]
        have h1 := hd_lt (t := t) (N := N) (p := p) (by omega)
        refine e1 ⟨_, c_readDoings (d + 1) (f := f2) (g := g) hT hTk.2.1 (show p + 1 ≤ N by omega), ?_⟩
        have hDk := rdD_ok (t := t) (N := N) hTk.2.1 3 [] (p + 1) (by omega) (by decide) (fun x hx => by cases hx)
        generalize rdD t N l.length 3 [] (p + 1) = K2 at *
        obtain ⟨ok2, dl, p2⟩ := K2
        dsimp only at hDk ⊢
        rintro r m ⟨g2, hg2, rfl, rfl⟩
        cases ok2
        · exact e0 ⟨rfl, f2, g2, hf2, hg2, rfl, rfl⟩
        · refine e1 ⟨fun c2 => ⟨rfl, f2, g2, hf2, hg2, ?_, rfl⟩, fun c2 => ⟨rfl, f2, g2, hf2, hg2, ?_, rfl⟩⟩
          · rw [decide_eq_false (fun z => c2 ((hcmp p2 hDk.1).mpr z))]
            rfl
          · rw [decide_eq_true ((hcmp p2 hDk.1).mp c2)]
            rfl
      · rw [if_neg h]
        exact e0 ⟨rfl, f2, g, hf2, d0 g, rfl, rfl⟩
end M27
