/-! instructions on cells, beside the heap -/
def mm_tG : List Jvm.Cond := lw_tbl.filter goodWord
theorem mm_inG {w : Jvm.Cond} (h : w ∈ lw_tbl) (hg : goodWord w = true) : w ∈ mm_tG := List.mem_filter.mpr ⟨h, hg⟩
theorem mm_wsG0 : ∀ w ∈ wsX00, w ∈ mm_tG := by decide +kernel
theorem mm_wsG1 : ∀ w ∈ wsX10, w ∈ mm_tG := by decide +kernel
theorem mm_wsG2 : ∀ w ∈ wsX20, w ∈ mm_tG := by decide +kernel
theorem mm_wsG3 : ∀ w ∈ wsX30, w ∈ mm_tG := by decide +kernel
theorem mm_wsG4 : ∀ w ∈ wsX40, w ∈ mm_tG := by decide +kernel
theorem mm_wsG5 : ∀ w ∈ wsX50, w ∈ mm_tG := by decide +kernel
theorem mm_wsG6 : ∀ w ∈ wsX60, w ∈ mm_tG := by decide +kernel
theorem mm_wsG7 : ∀ w ∈ wsX70, w ∈ mm_tG := by decide +kernel
/-- what a class of ours is -/
def mm_okc (ty : Nat → FieldType) (q : vw_C) : Prop := (∀ w ∈ u_ws q.1 q.2.1 q.2.2, w ∈ mm_tG) ∧ (∀ k, k < q.2.2 → parseFieldDescriptor (q.2.1 k).2.2.1 = some (ty k)) ∧ (∀ a, a < q.2.2 → ∀ b, b < q.2.2 → a ≠ b → (q.2.1 a).2.1 ≠ (q.2.1 b).2.1)
def mm_ty : Nat → Nat → FieldType
  | 0 => tyX0
  | 1 => tyX1
  | 2 => tyX2
  | 3 => tyX3
  | 4 => tyX4
  | 5 => tyX5
  | 6 => tyX6
  | _ => tyX7
theorem mm_cls : ∀ (ci : Nat) (q : vw_C), vwCl[ci]? = some q → mm_okc (mm_ty ci) q := by
  intro ci q h
  match ci, h with
  | 0, h => cases h; exact ⟨mm_wsG0, tyX0_ok, nmX0⟩
  | 1, h => cases h; exact ⟨mm_wsG1, tyX1_ok, nmX1⟩
  | 2, h => cases h; exact ⟨mm_wsG2, tyX2_ok, nmX2⟩
  | 3, h => cases h; exact ⟨mm_wsG3, tyX3_ok, nmX3⟩
  | 4, h => cases h; exact ⟨mm_wsG4, tyX4_ok, nmX4⟩
  | 5, h => cases h; exact ⟨mm_wsG5, tyX5_ok, nmX5⟩
  | 6, h => cases h; exact ⟨mm_wsG6, tyX6_ok, nmX6⟩
  | 7, h => cases h; exact ⟨mm_wsG7, tyX7_ok, nmX7⟩
  | k + 8, h => simp [vwCl] at h
/-- what holds all through a method -/
def mm_Cx (p : Program) (s : State) (m : MethodId) (c : Code) (cc : ByteArray) (own : String) (g : Nat → Nat) (base : Nat) (dC : Nat → ClassId) (dI : Nat → Nat → Nat) (cA : Nat → ClassId) (sN : Nat → Nat) (sf : Nat → Nat → Int32) : Prop :=
  p.tables.exec = Jvm.exec ∧ c.code = cc ∧ s.vm.findClass own = some m.cls ∧ mm_Vm dC dI cA s ∧ mm_St g base sN sf s s.heap ∧ base ≤ s.heap.size ∧ ∀ k, 6 ≤ k → g k = base + (k - 6)
theorem mm_Vm.tG {dC : Nat → ClassId} {dI : Nat → Nat → Nat} {cA : Nat → ClassId} {U : State} (h : mm_Vm dC dI cA U) (a : Array Value) : ∀ w ∈ mm_tG, w.before a U = true := fun w hw => by
  obtain ⟨h1, h2⟩ := List.mem_filter.mp hw
  exact h.word h1 h2 a
/-- a field of ours, as an instruction names it -/
def mm_okf (own : String) (idx ci fi : Nat) (q : vw_C) : Prop := vwCl[ci]? = some q ∧ fi < q.2.2 ∧ Jvm.Cond.fieldLink own idx (q.2.1 fi).1 (q.2.1 fi).2.1 (q.2.1 fi).2.2.1 ∈ lw_tbl
def mm_tagty (tag : Nat) (t : FieldType) : Bool := match tag, t with
  | 0, .int => true
  | 1, .boolean => true
  | 2, .object _ => true
  | 2, .array _ => true
  | _, _ => false
section MMC
variable {p : Program} {l : Launch} {e : Env} {R : Room} {s : State} {m : MethodId} {args : Array Value} {below : List Frame} {meth : Method} {c : Code} {H : Heap} {locs : List Loc} {cells slots : Nat} {Q : State → Prop}
variable {cc : ByteArray} {pc : Nat} {lr : Array Slot} {own : String} {g : Nat → Nat} {base : Nat} {dC : Nat → ClassId} {dI : Nat → Nat → Nat} {cA : Nat → ClassId} {sN : Nat → Nat} {sf : Nat → Nat → Int32} {mem : mm_M} {rest : List Value}
theorem mm_own_of (hR : mm_Rep g base dC dI cA sN sf mem H) {r : Nat} {o : Nat × List Value} (hr : mm_nth mem r = some (.inr o)) : 6 ≤ r := by
  rcases Nat.lt_or_ge r 6 with h | h
  · have := hR.2.1 r h
    rw [hr] at this
    cases this
  · exact h
theorem mm_getf (X : mm_Cx p s m c cc own g base dC dI cA sN sf) (hR : mm_Rep g base dC dI cA sN sf mem H) {r idx ci fi : Nat} {q : vw_C} {fs : List Value} {v : Value} (hr : mm_nth mem r = some (.inr (ci, fs))) (hv : mm_nth fs fi = some v) (hf : mm_okf own idx ci fi q) (hdg : decode cc pc = .ok (.getfield idx, 3))
    (kk : W p l e R s m args below meth c H locs cells slots Q (F0 m (pc + 3) lr (mm_v g v :: rest))) : W p l e R s m args below meth c H locs cells slots Q (F0 m pc lr (.ref (g r) :: rest)) := by
  obtain ⟨hx, hb, hown, hV, hSt, hbs, hg⟩ := X
  obtain ⟨hc, hk, hl⟩ := hf
  have h6 := mm_own_of hR hr
  rw [hg r h6]
  exact va_get (C := q.1) (T := q.2.1) (N := q.2.2) (q0 := 0) (fs := fs.map (mm_v g)) hx hb (hV.tG args) (mm_cls ci q hc).1 hown hV.2.2.2 (hR.one h6 hr) rfl hc fi hk (hV.word hl rfl args) (fun _ h9 => h9) (by rw [List.getElem?_map, ← mm_nth_eq, hv]; rfl) hdg kk
theorem mm_fit_ok {tag : Nat} {t : FieldType} {v : Value} (ht : mm_tagty tag t = true) (hf : mm_fit tag v) : narrow t (mm_v g v) = mm_v g v ∧ fits t (mm_v g v) = true := by
  unfold mm_fit at hf
  split at hf
  · cases t <;> first | (exact ⟨rfl, rfl⟩) | (cases ht)
  · cases t <;> first | (cases ht; done) | skip
    rename_i x
    refine ⟨?_, hf⟩
    have h2 : x = 0 ∨ x = 1 := by simpa [fits] using hf
    rcases h2 with rfl | rfl
    · show narrow .boolean (.int 0) = .int 0
      decide +kernel
    · show narrow .boolean (.int 1) = .int 1
      decide +kernel
  · cases t <;> first | (exact ⟨rfl, rfl⟩) | (cases ht)
  · exact hf.elim
theorem mm_putf (X : mm_Cx p s m c cc own g base dC dI cA sN sf) (hR : mm_Rep g base dC dI cA sN sf mem H) (hS : va_S (fun q => base ≤ q) s.heap H locs) {r idx ci fi tag : Nat} {q : vw_C} {fs : List Value} {v v0 : Value} (hr : mm_nth mem r = some (.inr (ci, fs))) (hv : mm_nth fs fi = some v0) (hf : mm_okf own idx ci fi q) (hfit : mm_fit tag v) (htag : mm_tagty tag (mm_ty ci fi) = true) (hfin : (q.2.1 fi).2.2.2 = false ∨ (meth.name = "<init>" ∧ (q.2.1 fi).1 = own)) (hdg : decode cc pc = .ok (.putfield idx, 3))
    (kk : ∀ (H1 : Heap) (locs1 : List Loc), mm_Rep g base dC dI cA sN sf (mm_set mem r (.inr (ci, mm_set fs fi v))) H1 → va_S (fun q => base ≤ q) s.heap H1 locs1 → W p l e R s m args below meth c H1 locs1 cells slots Q (F0 m (pc + 3) lr rest)) : W p l e R s m args below meth c H locs cells slots Q (F0 m pc lr (mm_v g v :: .ref (g r) :: rest)) := by
  obtain ⟨hx, hb, hown, hV, hSt, hbs, hg⟩ := X
  obtain ⟨hc, hk, hl⟩ := hf
  have h6 := mm_own_of hR hr
  obtain ⟨hws, htys, hnm⟩ := mm_cls ci q hc
  obtain ⟨hn, hft⟩ := mm_fit_ok (g := g) htag hfit
  have hts := hV.tG args
  have hap := va_apart (own := own) hts hws (mm_ty ci) htys hnm hV.2.2.2 hc
  obtain ⟨r0, h1, cell, q1, q2, q3, q4⟩ := hR.2.2 r _ h6 hr
  have hr0 : r0 = q := Option.some.inj (h1.symm.trans hc)
  subst hr0
  obtain ⟨hSl, hfc, kC, hkC, hkind⟩ := hV.2.2.2.1 ci _ hc
  obtain ⟨cf, kf, fi0, f, hi, hsl⟩ := hSl fi hk
  have hst := (u_facts hfc hkC (u_lays hts hws hk) hi).1
  have hlay := hts _ (hws _ (u_in_lay hk))
  have hlen : fi < (fs.map (mm_v g)).length := by rw [List.length_map]; exact mm_nth_lt hv
  rw [hg r h6]
  have fin : ∀ (H' : Heap), H'[base + (r - 6)]? = some (cell.setSlot (dI ci fi) (mm_v g v)) → H'.size = H.size → (∀ q, q ≠ base + (r - 6) → H'[q]? = H[q]?) → W p l e R s m args below meth c H' (locs ++ [⟨base + (r - 6), dI ci fi⟩]) cells slots Q (F0 m (pc + 3) lr rest) := by
    intro H' e1 e2 e3
    refine kk H' _ (hR.set h6 hr e2 e3 ?_) (hS.put e2 e3 (Nat.le_add_right _ _))
    refine ⟨r0, hc, t_OB.to (V := updV (vp_V (fs.map (mm_v g))) fi (mm_v g v)) ⟨_, e1, q2, q3, t_set q4 hap hk (mm_v g v)⟩ (fun j _ => ?_)⟩
    rw [vp_updV_set hlen, mm_set_eq, List.map_set]
  rcases hfin with hfin | ⟨hin, hdecl⟩
  · unfold u_lay at hlay
    rw [if_neg (by rw [hfin]; decide)] at hlay
    have h6' := u_store hfc hkC hkind hlay hi (htys fi hk) hn hft
    refine W.putK hx hb (f := f) ⟨hown, hV.word hl rfl args, ⟨_, _, _, hi⟩, hst⟩ (by rw [q2]; exact h6') q1 q3 (by rw [hsl]; exact k2_hasslot (q4 fi hk)) rfl rfl hdg fun H' e1 e2 e3 => ?_
    rw [hsl] at e1 ⊢
    exact fin H' e1 e2 e3
  · by_cases hf2 : (r0.2.1 fi).2.2.2 = true
    · unfold u_lay at hlay
      rw [if_pos hf2] at hlay
      have hcf : m.cls = cf := by
        obtain ⟨_, _, c', _, _, _, -, -, hf', -, -, -, hown2, -⟩ := Cond.laysFinal_spec hlay
        have e1 : c' = cf := by have := hi.symm.trans hf'; simp at this; exact this.1.symm
        rw [hdecl] at hown2
        rw [← e1]; exact Option.some.inj (hown.symm.trans hown2)
      have h6' := u_fits hfc hkC hkind (Or.inr hlay) hi (htys fi hk) hn hft
      refine W.putFinK hx hb hown (hV.word hl rfl args) hi hst hcf hin (by rw [q2]; exact h6') q1 q3 (by rw [hsl]; exact k2_hasslot (q4 fi hk)) rfl rfl hdg fun H' e1 e2 e3 => ?_
      rw [hsl] at e1 ⊢
      exact fin H' e1 e2 e3
    · unfold u_lay at hlay
      rw [if_neg hf2] at hlay
      have h6' := u_store hfc hkC hkind hlay hi (htys fi hk) hn hft
      refine W.putK hx hb (f := f) ⟨hown, hV.word hl rfl args, ⟨_, _, _, hi⟩, hst⟩ (by rw [q2]; exact h6') q1 q3 (by rw [hsl]; exact k2_hasslot (q4 fi hk)) rfl rfl hdg fun H' e1 e2 e3 => ?_
      rw [hsl] at e1 ⊢
      exact fin H' e1 e2 e3
theorem mm_iald (X : mm_Cx p s m c cc own g base dC dI cA sN sf) (hR : mm_Rep g base dC dI cA sN sf mem H) (hS : va_S (fun q => base ≤ q) s.heap H locs) {r N : Nat} {f : Nat → Int32} {i : Int32} (hr : mm_nth mem r = some (.inl (0, N, .inl f))) (hin : vp_in i N) (hdg : decode cc pc = .ok (.iaload, 1))
    (kk : W p l e R s m args below meth c H locs cells slots Q (F0 m (pc + 1) lr (.int (f i.toNatClampNeg) :: rest))) : W p l e R s m args below meth c H locs cells slots Q (F0 m pc lr (.int i :: .ref (g r) :: rest)) := by
  obtain ⟨hx, hb, hown, hV, hSt, hbs, hg⟩ := X
  rcases Nat.lt_or_ge r 6 with h | h
  · have h2 := hR.2.1 r h
    rw [hr] at h2
    cases h2
    exact va_ti hx hb (hSt.1 r h) hS hin rfl hdg kk
  · rw [hg r h]
    exact va_iald (f := f) hx hb hV.2.2.2 (hR.one h hr) 0 0 rfl rfl hin hdg kk
theorem mm_zald (X : mm_Cx p s m c cc own g base dC dI cA sN sf) (hR : mm_Rep g base dC dI cA sN sf mem H) {r N : Nat} {f : Nat → Int32} {i : Int32} (hr : mm_nth mem r = some (.inl (1, N, .inl f))) (hin : vp_in i N) (hdg : decode cc pc = .ok (.baload, 1))
    (kk : W p l e R s m args below meth c H locs cells slots Q (F0 m (pc + 1) lr (.int (f i.toNatClampNeg) :: rest))) : W p l e R s m args below meth c H locs cells slots Q (F0 m pc lr (.int i :: .ref (g r) :: rest)) := by
  obtain ⟨hx, hb, hown, hV, hSt, hbs, hg⟩ := X
  rcases Nat.lt_or_ge r 6 with h | h
  · have h2 := hR.2.1 r h
    rw [hr] at h2
    cases h2
  · rw [hg r h]
    exact va_zald (f := f) hx hb hV.2.2.2 (hR.one h hr) 0 1 rfl rfl hin hdg kk
theorem mm_aald (X : mm_Cx p s m c cc own g base dC dI cA sN sf) (hR : mm_Rep g base dC dI cA sN sf mem H) {r N y : Nat} {f : Nat → Option Nat} {i : Int32} (hr : mm_nth mem r = some (.inl (2, N, .inr (.inr (.inr (.inr f)))))) (hin : vp_in i N) (hy : f i.toNatClampNeg = some y) (hdg : decode cc pc = .ok (.aaload, 1))
    (kk : W p l e R s m args below meth c H locs cells slots Q (F0 m (pc + 1) lr (.ref (g y) :: rest))) : W p l e R s m args below meth c H locs cells slots Q (F0 m pc lr (.int i :: .ref (g r) :: rest)) := by
  obtain ⟨hx, hb, hown, hV, hSt, hbs, hg⟩ := X
  rcases Nat.lt_or_ge r 6 with h | h
  · have h2 := hR.2.1 r h
    rw [hr] at h2
    cases h2
  · rw [hg r h]
    refine va_aldq (f := fun j => (f j).map g) hx hb hV.2.2.2 (hR.one h hr) 0 2 rfl rfl hin hdg ?_
    rw [hy]
    exact kk
theorem mm_alen (X : mm_Cx p s m c cc own g base dC dI cA sN sf) (hR : mm_Rep g base dC dI cA sN sf mem H) (hS : va_S (fun q => base ≤ q) s.heap H locs) {r t N : Nat} {z : _} (hr : mm_nth mem r = some (.inl (t, N, z))) (ht : t < 3) (hdg : decode cc pc = .ok (.arraylength, 1))
    (kk : W p l e R s m args below meth c H locs cells slots Q (F0 m (pc + 1) lr (.int (nI N) :: rest))) : W p l e R s m args below meth c H locs cells slots Q (F0 m pc lr (.ref (g r) :: rest)) := by
  obtain ⟨hx, hb, hown, hV, hSt, hbs, hg⟩ := X
  rcases Nat.lt_or_ge r 6 with h | h
  · have h2 := hR.2.1 r h
    rw [hr] at h2
    cases h2
    exact va_tlen hx hb (hSt.1 r h) hS rfl hdg kk
  · rw [hg r h]
    have hP := hR.one h hr
    have hty : ∃ ty, (mm_tys cA)[t]? = some (cA t, ty) := by
      rcases (show t = 0 ∨ t = 1 ∨ t = 2 by omega) with rfl | rfl | rfl <;> exact ⟨_, rfl⟩
    obtain ⟨ty, hty⟩ := hty
    rcases z with f | f | f | f | f <;> exact va_alen hx hb hV.2.2.2 hP 0 t rfl hty rfl hdg kk
theorem mm_iast (X : mm_Cx p s m c cc own g base dC dI cA sN sf) (hR : mm_Rep g base dC dI cA sN sf mem H) (hS : va_S (fun q => base ≤ q) s.heap H locs) {r N : Nat} {f : Nat → Int32} {i x : Int32} (h6 : 6 ≤ r) (hr : mm_nth mem r = some (.inl (0, N, .inl f))) (hin : vp_in i N) (hdg : decode cc pc = .ok (.iastore, 1))
    (kk : ∀ (H1 : Heap) (locs1 : List Loc), mm_Rep g base dC dI cA sN sf (mm_set mem r (.inl (0, N, .inl (upd f i.toNatClampNeg x)))) H1 → va_S (fun q => base ≤ q) s.heap H1 locs1 → W p l e R s m args below meth c H1 locs1 cells slots Q (F0 m (pc + 1) lr rest)) : W p l e R s m args below meth c H locs cells slots Q (F0 m pc lr (.int x :: .int i :: .ref (g r) :: rest)) := by
  obtain ⟨hx, hb, hown, hV, hSt, hbs, hg⟩ := X
  rw [hg r h6]
  refine W.iast hx hb (hR.2.2 r _ h6 hr) ((hV.2.2.2.2 0 _ rfl).1 N (fun j => .int (f j))) (fun q => by cases q) (by show ¬ (i < 0 ∨ (arrV _ _ _).slots.size ≤ _); rw [arrV_size]; exact hin) rfl rfl hdg fun H1 e z oq => ?_
  refine kk H1 _ (hR.set h6 hr z oq ?_) (hS.put z oq (Nat.le_add_right _ _))
  show H1[_]? = some (vp_cell _ _)
  rw [e]
  rw [vp_cell_i, vp_cell_i, arrV_store]
  congr 2
  funext q
  by_cases hq : q = i.toNatClampNeg
  · subst hq
    simp [updV, upd]
  · simp [updV, upd, hq]
theorem mm_zast (X : mm_Cx p s m c cc own g base dC dI cA sN sf) (hR : mm_Rep g base dC dI cA sN sf mem H) (hS : va_S (fun q => base ≤ q) s.heap H locs) {r N : Nat} {f : Nat → Int32} {i x : Int32} (h6 : 6 ≤ r) (hr : mm_nth mem r = some (.inl (1, N, .inl f))) (hin : vp_in i N) (hfit : fits .boolean (.int x) = true) (hdg : decode cc pc = .ok (.bastore, 1))
    (kk : ∀ (H1 : Heap) (locs1 : List Loc), mm_Rep g base dC dI cA sN sf (mm_set mem r (.inl (1, N, .inl (upd f i.toNatClampNeg x)))) H1 → va_S (fun q => base ≤ q) s.heap H1 locs1 → W p l e R s m args below meth c H1 locs1 cells slots Q (F0 m (pc + 1) lr rest)) : W p l e R s m args below meth c H locs cells slots Q (F0 m pc lr (.int x :: .int i :: .ref (g r) :: rest)) := by
  obtain ⟨hx, hb, hown, hV, hSt, hbs, hg⟩ := X
  have hnar : narrow .boolean (.int x) = .int x := by
    have h2 : x = 0 ∨ x = 1 := by simpa [fits] using hfit
    rcases h2 with rfl | rfl <;> decide +kernel
  rw [hg r h6]
  refine W.zast hx hb (hR.2.2 r _ h6 hr) ((hV.2.2.2.2 1 _ rfl).1 N (fun j => .int (f j))) (fun q => by cases q) (by show ¬ (i < 0 ∨ (arrV _ _ _).slots.size ≤ _); rw [arrV_size]; exact hin) rfl rfl hdg fun H1 e z oq => ?_
  refine kk H1 _ (hR.set h6 hr z oq ?_) (hS.put z oq (Nat.le_add_right _ _))
  show H1[_]? = some (vp_cell _ _)
  rw [e, hnar]
  rw [vp_cell_i, vp_cell_i, arrV_store]
  congr 2
  funext q
  by_cases hq : q = i.toNatClampNeg
  · subst hq
    simp [updV, upd]
  · simp [updV, upd, hq]
theorem mm_aast (X : mm_Cx p s m c cc own g base dC dI cA sN sf) (hR : mm_Rep g base dC dI cA sN sf mem H) (hS : va_S (fun q => base ≤ q) s.heap H locs) {r N y : Nat} {f : Nat → Option Nat} {i : Int32} {fs : List Value} (h6 : 6 ≤ r) (hr : mm_nth mem r = some (.inl (2, N, .inr (.inr (.inr (.inr f)))))) (hin : vp_in i N) (hy : mm_nth mem y = some (.inr (3, fs))) (hdg : decode cc pc = .ok (.aastore, 1))
    (kk : ∀ (H1 : Heap) (locs1 : List Loc), mm_Rep g base dC dI cA sN sf (mm_set mem r (.inl (2, N, .inr (.inr (.inr (.inr (va_up f i.toNatClampNeg (some y)))))))) H1 → va_S (fun q => base ≤ q) s.heap H1 locs1 → W p l e R s m args below meth c H1 locs1 cells slots Q (F0 m (pc + 1) lr rest)) : W p l e R s m args below meth c H locs cells slots Q (F0 m pc lr (.ref (g y) :: .int i :: .ref (g r) :: rest)) := by
  obtain ⟨hx, hb, hown, hV, hSt, hbs, hg⟩ := X
  have h6y := mm_own_of hR hy
  have hlt : i.toNatClampNeg < N := Nat.not_le.mp fun q => hin (Or.inr q)
  have h0 : ¬ i < 0 := fun q => hin (Or.inl q)
  obtain ⟨r', hr', cellV, g1, g2, g3, -⟩ := hR.2.2 y _ h6y hy
  have hcls := (hV.2.2.2.1 3 (RX3, TX3, 4) rfl).2
  obtain ⟨kA, comp, k1, k2, k3, -⟩ := (hV.2.2.2.2 2 _ rfl).2
  have hcomp : comp = dC 3 := Option.some.inj (k3.symm.trans hcls.1)
  subst hcomp
  obtain ⟨kC, hkC, -⟩ := hcls.2
  rw [hg r h6, hg y h6y]
  refine W.aast hx hb (hR.2.2 r _ h6 hr) (fun q h => by cases h) (fun h => by cases h) k1 k2 rfl hkC ⟨h0, by show _ < (arrV _ _ _).slots.size; rw [arrV_size]; exact hlt⟩ g1 (fun q h => by rw [g3] at h; cases h) (by rw [g2]; exact hkC) (by rw [g2]; exact va_assign hcls) rfl rfl hdg fun H1 e z oq => ?_
  refine kk H1 _ (hR.set h6 hr z oq ?_) (hS.put z oq (Nat.le_add_right _ _))
  show H1[_]? = some (vp_cell _ _)
  rw [e]
  rw [vp_cell_q, vp_cell_q, arrV_store]
  congr 2
  funext q
  by_cases hq : q = i.toNatClampNeg
  · subst hq
    simp [updV, va_up, va_rf, hg y h6y]
  · simp [updV, va_up, hq]
end MMC
