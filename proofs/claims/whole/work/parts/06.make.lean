/-! new cells, tables, copies -/
section MMD
variable {p : Program} {l : Launch} {e : Env} {R : Room} {s : State} {m : MethodId} {args : Array Value} {below : List Frame} {meth : Method} {c : Code} {H : Heap} {locs : List Loc} {cells slots : Nat} {Q : State → Prop}
variable {cc : ByteArray} {pc : Nat} {lr : Array Slot} {own : String} {g : Nat → Nat} {base : Nat} {dC : Nat → ClassId} {dI : Nat → Nat → Nat} {cA : Nat → ClassId} {sN : Nat → Nat} {sf : Nat → Nat → Int32} {mem : mm_M} {rest : List Value}
theorem mm_S_push {H1 : Heap} (hS : va_S (fun q => base ≤ q) s.heap H locs) (z : H1.size = H.size + 1) (o : ∀ q : Nat, q < H.size → H1[q]? = H[q]?) : va_S (fun q => base ≤ q) s.heap H1 locs :=
  ⟨Nat.le_trans hS.1 (by omega), fun x h1 h2 => (o x (Nat.lt_of_lt_of_le h1 hS.1)).trans (hS.2.1 x h1 h2), hS.2.2⟩
theorem mm_g_len (X : mm_Cx p s m c cc own g base dC dI cA sN sf) (hR : mm_Rep g base dC dI cA sN sf mem H) : g mem.length = H.size := by
  have h1 := hR.1
  rw [X.2.2.2.2.2.2 _ h1.1]
  omega
theorem mm_newo (X : mm_Cx p s m c cc own g base dC dI cA sN sf) (hR : mm_Rep g base dC dI cA sN sf mem H) (hS : va_S (fun q => base ≤ q) s.heap H locs) {idx ci : Nat} {q : vw_C} {fs : List Value} (hc : vwCl[ci]? = some q) (hcl : Jvm.Cond.classLink own idx q.1 ∈ lw_tbl) (hin : Jvm.Cond.instantiable q.1 q.2.2 ∈ lw_tbl) (hini : Jvm.Cond.initialized q.1 ∈ lw_tbl) (hg1 : goodWord (.instantiable q.1 q.2.2) = true) (hfs : ∀ j, j < q.2.2 → defaultValue (mm_ty ci j) = vp_V (fs.map (mm_v g)) j) (hcells : cells + 1 ≤ R.cells) (hslots : slots + q.2.2 ≤ R.slots) (hdg : decode cc pc = .ok (.new idx, 3))
    (kk : ∀ (H1 : Heap), mm_Rep g base dC dI cA sN sf (mem ++ [.inr (ci, fs)]) H1 → va_S (fun q => base ≤ q) s.heap H1 locs → W p l e R s m args below meth c H1 locs (cells + 1) (slots + q.2.2) Q (F0 m (pc + 3) lr (.ref (g mem.length) :: rest))) : W p l e R s m args below meth c H locs cells slots Q (F0 m pc lr rest) := by
  have hgl := mm_g_len X hR
  obtain ⟨hx, hb, hown, hV, hSt, hbs, hg⟩ := X
  obtain ⟨hws, htys, hnm⟩ := mm_cls ci q hc
  have hKn := hV.2.2.2.1 ci _ hc
  refine W.newcK hx hb hown (hV.word hcl rfl args) (hV.word hin hg1 args) (hV.word hini rfl args) rfl hdg hcells hslots hKn.2.1 rfl fun H1 kC hkC e1 z1 o1 => ?_
  rw [hgl] at kk
  exact kk H1 (hR.push z1 o1 ⟨_, hc, (u_born (mm_ty ci) (hV.tG args) hws hKn hkC e1 htys).to hfs⟩) (mm_S_push hS z1 o1)
theorem mm_newi (X : mm_Cx p s m c cc own g base dC dI cA sN sf) (hR : mm_Rep g base dC dI cA sN sf mem H) (hS : va_S (fun q => base ≤ q) s.heap H locs) {N : Nat} (hN : N < 100000) (ha : Jvm.Cond.arrayClass .int ∈ lw_tbl) (hcells : cells + 1 ≤ R.cells) (hslots : slots + N ≤ R.slots) (hdg : decode cc pc = .ok (.newarray .int, 2))
    (kk : ∀ (H1 : Heap), mm_Rep g base dC dI cA sN sf (mem ++ [.inl (0, N, .inl (fun _ => 0))]) H1 → va_S (fun q => base ≤ q) s.heap H1 locs → W p l e R s m args below meth c H1 locs (cells + 1) (slots + N) Q (F0 m (pc + 2) lr (.ref (g mem.length) :: rest))) : W p l e R s m args below meth c H locs cells slots Q (F0 m pc lr (.int (nI N) :: rest)) := by
  have hgl := mm_g_len X hR
  obtain ⟨hx, hb, hown, hV, hSt, hbs, hg⟩ := X
  have h1 : ¬ nI N < 0 := nI_pos (by omega)
  have h2 : (nI N).toNatClampNeg = N := nI_clamp (by omega)
  have h3 : N * componentBytes (newarray.typeOf ArrayType.int) ≤ 536870912 := by
    show N * 4 ≤ 536870912
    omega
  have h4 : (Jvm.Cond.arrayClass (newarray.typeOf ArrayType.int)).before args s = true := hV.word ha rfl args
  refine va_newaK (atype := .int) (n := nI N) (N := N) (h := H.size) (rest := rest) hx hb h4 rfl hdg rfl h1 h2 h3 hcells hslots rfl ?_
  intro H1 cI e1 z1 o1 hAr hNm
  rw [hgl] at kk
  rw [show newarray.typeOf .int = FieldType.int from rfl] at hNm e1
  have h9 : va_RA s (cA 0) FieldType.int := (hV.2.2.2.2 0 _ rfl).2
  unfold va_RA at h9
  have hci : cI = cA 0 := Option.some.inj (hNm.symm.trans h9)
  subst hci
  refine kk H1 (hR.push z1 o1 ?_) (mm_S_push hS z1 o1)
  show H1[H.size]? = some (arrV (cA 0) N (fun _ => .int 0))
  exact e1
theorem mm_newz (X : mm_Cx p s m c cc own g base dC dI cA sN sf) (hR : mm_Rep g base dC dI cA sN sf mem H) (hS : va_S (fun q => base ≤ q) s.heap H locs) {N : Nat} (hN : N < 100000) (ha : Jvm.Cond.arrayClass .boolean ∈ lw_tbl) (hcells : cells + 1 ≤ R.cells) (hslots : slots + N ≤ R.slots) (hdg : decode cc pc = .ok (.newarray .boolean, 2))
    (kk : ∀ (H1 : Heap), mm_Rep g base dC dI cA sN sf (mem ++ [.inl (1, N, .inl (fun _ => 0))]) H1 → va_S (fun q => base ≤ q) s.heap H1 locs → W p l e R s m args below meth c H1 locs (cells + 1) (slots + N) Q (F0 m (pc + 2) lr (.ref (g mem.length) :: rest))) : W p l e R s m args below meth c H locs cells slots Q (F0 m pc lr (.int (nI N) :: rest)) := by
  have hgl := mm_g_len X hR
  obtain ⟨hx, hb, hown, hV, hSt, hbs, hg⟩ := X
  have h1 : ¬ nI N < 0 := nI_pos (by omega)
  have h2 : (nI N).toNatClampNeg = N := nI_clamp (by omega)
  have h3 : N * componentBytes (newarray.typeOf ArrayType.boolean) ≤ 536870912 := by
    show N * 1 ≤ 536870912
    omega
  have h4 : (Jvm.Cond.arrayClass (newarray.typeOf ArrayType.boolean)).before args s = true := hV.word ha rfl args
  refine va_newaK (atype := .boolean) (n := nI N) (N := N) (h := H.size) (rest := rest) hx hb h4 rfl hdg rfl h1 h2 h3 hcells hslots rfl ?_
  intro H1 cI e1 z1 o1 hAr hNm
  rw [hgl] at kk
  rw [show newarray.typeOf .boolean = FieldType.boolean from rfl] at hNm e1
  have h9 : va_RA s (cA 1) FieldType.boolean := (hV.2.2.2.2 1 _ rfl).2
  unfold va_RA at h9
  have hci : cI = cA 1 := Option.some.inj (hNm.symm.trans h9)
  subst hci
  refine kk H1 (hR.push z1 o1 ?_) (mm_S_push hS z1 o1)
  show H1[H.size]? = some (arrV (cA 1) N (fun _ => .int 0))
  exact e1
theorem mm_newq (X : mm_Cx p s m c cc own g base dC dI cA sN sf) (hR : mm_Rep g base dC dI cA sN sf mem H) (hS : va_S (fun q => base ≤ q) s.heap H locs) {idx N : Nat} (hN : N < 100000) (hcl : Jvm.Cond.classLink own idx RX3 ∈ lw_tbl) (hcells : cells + 1 ≤ R.cells) (hslots : slots + N ≤ R.slots) (hdg : decode cc pc = .ok (.anewarray idx, 3))
    (kk : ∀ (H1 : Heap), mm_Rep g base dC dI cA sN sf (mem ++ [.inl (2, N, .inr (.inr (.inr (.inr (fun _ => none)))))]) H1 → va_S (fun q => base ≤ q) s.heap H1 locs → W p l e R s m args below meth c H1 locs (cells + 1) (slots + N) Q (F0 m (pc + 3) lr (.ref (g mem.length) :: rest))) : W p l e R s m args below meth c H locs cells slots Q (F0 m pc lr (.int (nI N) :: rest)) := by
  have hgl := mm_g_len X hR
  obtain ⟨hx, hb, hown, hV, hSt, hbs, hg⟩ := X
  have hcl0 : (nI N).toNatClampNeg = N := nI_clamp (by omega)
  refine W.anew hx hb hown (hV.word hcl rfl args) (va_AO.use hV.2.2.1) rfl hdg rfl (nI_pos (by omega)) (by rw [hcl0]; omega) hcells (by rw [hcl0]; exact hslots) fun cI kA comp f1 f2 f3 f4 => ?_
  rw [hcl0]
  generalize hH1 : H.push ({ cls := cI, slots := Array.replicate N .null, vm := .none } : Cell) = H1
  have z1 : H1.size = H.size + 1 := by rw [← hH1, Array.size_push]
  have e1 : H1[H.size]? = some (arrV cI N (fun _ => .null)) := by rw [← hH1, Array.getElem?_push_size, ← arrV_new]
  have o1 : ∀ q : Nat, q < H.size → H1[q]? = H[q]? := fun q hq => by rw [← hH1, Array.getElem?_push, if_neg (Nat.ne_of_lt hq)]
  rw [hgl] at kk
  have hci : cI = cA 2 := by
    obtain ⟨_, _, -, -, -, h9⟩ := (hV.2.2.2.2 2 _ rfl).2
    exact Option.some.inj (f1.symm.trans h9)
  subst hci
  exact kk H1 (hR.push z1 o1 e1) (mm_S_push hS z1 o1)
theorem mm_gets (X : mm_Cx p s m c cc own g base dC dI cA sN sf) (hS : va_S (fun q => base ≤ q) s.heap H locs) {idx k : Nat} (h1 : 1 ≤ k) (h2 : k < 6) (hl : Jvm.Cond.fieldLink own idx RX6 (mm_snm k) "[I" ∈ lw_tbl ∨ Jvm.Cond.fieldLinkNest own idx RX6 (mm_snm k) "[I" RX6 ∈ lw_tbl) (hdg : decode cc pc = .ok (.getstatic idx, 3))
    (kk : W p l e R s m args below meth c H locs cells slots Q (F0 m (pc + 3) lr (.ref (g k) :: rest))) : W p l e R s m args below meth c H locs cells slots Q (F0 m pc lr rest) := by
  obtain ⟨hx, hb, hown, hV, hSt, hbs, hg⟩ := X
  rcases hl with hl | hl
  · exact va_gets hx hb (hSt.2 k h1 h2) hS hown (hV.word hl rfl args) (fun _ h => h) hdg kk
  · exact va_getsN hx hb (hSt.2 k h1 h2) hS hown (va_Nw.use rfl (hV.2.1 _ hl rfl)) (fun _ h => h) hdg kk
theorem mm_sum_map (l : List Value) : ((l.map (mm_v g)).map fun v => v.category).sum = mm_sum l := by
  induction l with
  | nil => rfl
  | cons v t ih => simp only [List.map_cons, List.sum_cons, mm_sum, ih, mm_v_cat]
theorem mm_copy (X : mm_Cx p s m c cc own g base dC dI cA sN sf) (hR : mm_Rep g base dC dI cA sN sf mem H) (hS : va_S (fun q => base ≤ q) s.heap H locs) (hml : c.maxLocals = lr.size) {idx r d N M : Nat} {f h : Nat → Int32} {sp dp z : Int32} {st : List Value} (h6 : 6 ≤ r) (h6d : 6 ≤ d) (hr : mm_nth mem r = some (.inl (0, N, .inl f))) (hd : mm_nth mem d = some (.inl (0, M, .inl h)))
    (hl : Jvm.Cond.methodLink own idx arraycopyName ∈ lw_tbl) (hnat : Jvm.Cond.native arraycopyName ∈ lw_tbl) (hstat : Jvm.Cond.static arraycopyName ∈ lw_tbl) (hini : Jvm.Cond.initialized "java/lang/System" ∈ lw_tbl)
    (h1 : ¬ sp < 0) (h2 : ¬ dp < 0) (h3 : ¬ z < 0) (h4 : sp.toNatClampNeg + z.toNatClampNeg ≤ N) (h5 : dp.toNatClampNeg + z.toNatClampNeg ≤ M) (hsum : mm_sum st ≤ 8) (hframes : 1 ≤ R.frames) (hlocals : 8 + (nativeFrameWords "java/lang/System" "arraycopy" 5 + 11) ≤ R.locals) (hdg : decode cc pc = .ok (.invokestatic idx, 3))
    (kk : ∀ (H1 : Heap) (locs1 : List Loc), mm_Rep g base dC dI cA sN sf (mm_set mem d (.inl (0, M, .inl (va_cpy f h sp.toNatClampNeg dp.toNatClampNeg z.toNatClampNeg)))) H1 → va_S (fun q => base ≤ q) s.heap H1 locs1 → W p l e R s m args below meth c H1 locs1 cells slots Q (F0 m (pc + 3) lr (st.map (mm_v g)))) : W p l e R s m args below meth c H locs cells slots Q (F0 m pc lr (.int z :: .int dp :: .ref (g d) :: .int sp :: .ref (g r) :: st.map (mm_v g))) := by
  obtain ⟨hx, hb, hown, hV, hSt, hbs, hg⟩ := X
  have nn : ∀ z : Int32, ¬ z < 0 → z.toInt = (z.toNatClampNeg : Int) := by
    intro z hz
    have hz0 : (0 : Int) ≤ z.toInt := by
      have := Int32.not_lt.mp hz
      simpa using Int32.le_iff_toInt_le.mp this
    show z.toInt = ((z.toInt.toNat : Nat) : Int)
    omega
  rw [hg r h6, hg d h6d]
  intro T hT X
  have hc0 : H[base + (r - 6)]? = some (vp_cell (cA 0) (N, .inl f)) := hR.2.2 r _ h6 hr
  have hc1 : H[base + (d - 6)]? = some (vp_cell (cA 0) (M, .inl h)) := hR.2.2 d _ h6d hd
  obtain ⟨-, k0, hk0, cm0, hkk0⟩ := (hV.2.2.2.2 0 _ rfl).1 N (fun j => .int (f j))
  obtain ⟨-, k1, hk1, cm1, hkk1⟩ := (hV.2.2.2.2 0 _ rfl).1 M (fun j => .int (h j))
  obtain ⟨vm', X', step⟩ := X.arraycopy hx hown (hV.word hl rfl args) (hV.word hnat rfl args) (hV.word hstat rfl args) (hV.word hini rfl args) (src := base + (r - 6)) (dst := base + (d - 6)) (cs := vp_cell (cA 0) (N, .inl f)) (cd := vp_cell (cA 0) (M, .inl h)) (srcPos := sp) (destPos := dp) (n := z) (by rw [hT]; exact hc0) (by rw [hT]; exact hc1)
    (fun _ h => by cases h) (fun _ h => by cases h) (fun h => by cases h) (fun h => by cases h) hk0 hk1 hkk0 hkk1 (by simp [refKind]) h1 h2 h3
    (by rw [nn sp h1, nn z h3]; show ¬ _ > ((arrV (cA 0) N (fun j => .int (f j))).slots.size : Int); rw [arrV_size]; omega)
    (by rw [nn dp h2, nn z h3]; show ¬ _ > ((arrV (cA 0) M (fun j => .int (h j))).slots.size : Int); rw [arrV_size]; omega)
    (fun vm₁ _ i hi => by
      have e : (vp_cell (cA 0) (N, .inl f)).slots.getD (sp.toNatClampNeg + i) .null = .int (f (sp.toNatClampNeg + i)) := by
        show (arrV (cA 0) N (fun j => .int (f j))).slots.getD _ _ = _
        rw [Array.getD_eq_getD_getElem?, arrV_read _ _ (by omega)]
        rfl
      refine ⟨?_, ?_⟩
      · rw [e]
        rfl
      · rw [e]
        exact trivial)
    (g := F0 m pc lr (.int z :: .int dp :: .ref (base + (d - 6)) :: .int sp :: .ref (base + (r - 6)) :: st.map (mm_v g))) rfl (by rw [hml]) (rest := st.map (mm_v g)) rfl (by rw [hb]; exact hdg) hframes (by show 2 * 0 + _ + _ ≤ _; rw [mm_sum_map]; omega)
  have e1 : copied (vp_cell (cA 0) (N, .inl f)) (vp_cell (cA 0) (M, .inl h)) sp dp z = vp_cell (cA 0) (M, .inl (va_cpy f h sp.toNatClampNeg dp.toNatClampNeg z.toNatClampNeg)) := va_copied (fun z => .int z) (cA 0) (cA 0) f h h4
  rw [e1] at X' step
  have hl : base + (d - 6) < H.size := (Array.getElem?_eq_some_iff.mp hc1).1
  generalize hcell : vp_cell (cA 0) (M, .inl (va_cpy f h sp.toNatClampNeg dp.toNatClampNeg z.toNatClampNeg)) = newc at X' step
  have hheap : ((T.setVm vm').setCell (base + (d - 6)) newc).heap = H.setIfInBounds (base + (d - 6)) newc := by rw [← hT]; rfl
  have oq : ∀ q : Nat, q ≠ base + (d - 6) → (H.setIfInBounds (base + (d - 6)) newc)[q]? = H[q]? := fun q hq => by simp [Array.getElem?_setIfInBounds, Ne.symm hq]
  obtain ⟨t, a1, b1⟩ := kk _ _ (hR.set (e := .inl (0, M, .inl (va_cpy f h sp.toNatClampNeg dp.toNatClampNeg z.toNatClampNeg))) h6d hd (by simp) oq (show (H.setIfInBounds (base + (d - 6)) newc)[_]? = some (vp_cell _ _) by rw [hcell]; simp [Array.getElem?_setIfInBounds, hl])) ⟨by simp; exact hS.1, fun q g1 g2 => by
      rw [oq q (fun e => g2 (by rw [e]; exact Nat.le_add_right _ _))]
      exact hS.2.1 q g1 g2, fun q hq => by
      rcases List.mem_append.mp hq with h | h
      · exact hS.2.2 q h
      · obtain ⟨z, -, hz⟩ := List.mem_map.mp h
        rw [← hz]
        exact Nat.le_add_right _ _⟩ _ hheap X'
  exact ⟨t, step t a1, b1⟩
end MMD
