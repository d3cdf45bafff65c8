/-! calls -/
section MMV
variable {p : Program} {l : Launch} {e : Env} {R : Room} {s : State} {m : MethodId} {args : Array Value} {below : List Frame} {meth : Method} {c : Code} {H : Heap} {locs : List Loc} {cells slots : Nat} {Q : State → Prop}
variable {cc : ByteArray} {pc : Nat} {lr : Array Slot} {own : String} {g : Nat → Nat} {base : Nat} {dC : Nat → ClassId} {dI : Nat → Nat → Nat} {cA : Nat → ClassId} {sN : Nat → Nat} {sf : Nat → Nat → Int32} {mem : mm_M}
theorem mm_ret_map (r : Option Value) (rest : List Value) : (r.map (mm_v g)).toList ++ rest.map (mm_v g) = (r.toList ++ rest).map (mm_v g) := by
  cases r <;> simp
theorem mm_recv_ok {ci : Nat} {as : List Value} (hR : mm_Rep g base dC dI cA sN sf mem H) (h : mm_recv (ci + 1) as mem) : ∃ (r : Nat) (as' fs : List Value), as = .ref r :: as' ∧ mm_nth mem r = some (.inr (ci, fs)) ∧ 6 ≤ r := by
  unfold mm_recv at h
  dsimp only at h
  split at h
  · rename_i r t
    obtain ⟨fs, hfs⟩ := h
    exact ⟨r, t, fs, rfl, hfs, mm_own_of hR hfs⟩
  · exact h.elim
theorem mm_invV (X : mm_Cx p s m c cc own g base dC dI cA sN sf) (hR : mm_Rep g base dC dI cA sN sf mem H) (hS : va_S (fun q => base ≤ q) s.heap H locs) {d nL idx np ci : Nat} {al : Nat × Nat} {y : mm_N} {as pre rest : List Value} {Q1 : mm_Q} (hml : c.maxLocals = nL) (hlr : lr.size = nL) (hRm : d + 1 ≤ R.frames ∧ 100 * d + 2100 ≤ R.locals) (hY : mm_okY y) (hci : y.2.2.2.2 = ci + 1) (hlink : Jvm.Cond.methodLink own idx y.1 ∈ lw_tbl) (hsel : Jvm.Cond.selects y.1.cls y.1 y.1 ∈ lw_tbl) (hnp : (parseMethodDescriptor y.1.desc).map (fun d => d.parameters.length) = some np)
    (hM : mm_Met l g base dC dI cA sN sf d al y as mem Q1) (has : as = pre.reverse) (hlen : pre.length = np + 1) (hsum : mm_sum rest ≤ 8) (hcells : cells + al.1 ≤ R.cells ∧ slots + al.2 ≤ R.slots) (hdg : decode cc pc = .ok (.invokevirtual idx, 3))
    (kk : ∀ (r : Option Value) (mem' : mm_M) (H1 : Heap) (locs1 : List Loc), Q1 r mem' → mm_Rep g base dC dI cA sN sf mem' H1 → va_S (fun q => base ≤ q) s.heap H1 locs1 → W p l e R s m args below meth c H1 locs1 (cells + al.1) (slots + al.2) Q (F0 m (pc + 3) lr ((r.toList ++ rest).map (mm_v g)))) : W p l e R s m args below meth c H locs cells slots Q (F0 m pc lr ((pre ++ rest).map (mm_v g))) := by
  have hV := X.2.2.2.1
  obtain ⟨hM1, hM2⟩ := hM
  rw [hci] at hM1
  obtain ⟨r, as', fs, ha, hr, h6⟩ := mm_recv_ok hR hM1
  obtain ⟨w, hw1, hw2⟩ : ∃ w : vw_C, vwCl[ci]? = some w ∧ w.1 = y.1.cls := by
    have h := hY.2.2
    rw [hci] at h
    exact h.2
  have hinst : Jvm.Cond.instanceMethod y.1 ∈ lw_tbl := by
    have h := hY.2.2
    rw [hci] at h
    exact h.1
  have hpre : pre = as'.reverse ++ [.ref r] := by
    have h1 : pre.reverse.reverse = (.ref r :: as').reverse := by rw [← has, ha]
    rw [List.reverse_reverse, List.reverse_cons] at h1
    exact h1
  have hgr : g r = base + (r - 6) := X.2.2.2.2.2.2 r h6
  have hcell := va_recv hV.2.2.2 (hR.one h6 hr) hw1 (q0 := 0) rfl
  have hP := mm_pre X hR hS (as := as)
  refine mm_after (a := #[]) (g := g) (rest := rest.map (mm_v g)) (va_runV (C := y.1.cls) (b := g r) (As := as'.map (mm_v g)) (rest := rest.map (mm_v g)) (Ts := []) ⟨X.1, X.2.1, hml, X.2.2.1, fun w hw => by cases hw⟩ hM2 ⟨mm_callW X hml hRm hY (hV.word hlink rfl args) hnp, hV.word hinst rfl args, hV.word hsel rfl args⟩ ⟨mm_blind, ?_, ?_⟩ rfl ?_ hlr ?_ ?_ hdg hcells) hS ?_
  · rw [hgr, ← hw2]
    exact hcell
  · intro U hU hW
    have h := hP.2 U hU hW
    rw [ha] at h ⊢
    exact h
  · rw [List.length_map]
    have h := congrArg List.length hpre
    rw [List.length_append, List.length_reverse, List.length_singleton] at h
    omega
  · show (pre ++ rest).map (mm_v g) = _
    rw [hpre]
    simp [mm_v]
  · exact lv_room (by rw [mm_sum_map]; exact hsum)
  · intro r1 mem' H1 locs1 q1 q2 q3
    rw [mm_ret_map]
    exact kk r1 mem' H1 locs1 q1 q2 q3
theorem mm_invS (X : mm_Cx p s m c cc own g base dC dI cA sN sf) (hR : mm_Rep g base dC dI cA sN sf mem H) (hS : va_S (fun q => base ≤ q) s.heap H locs) {d nL idx np : Nat} {al : Nat × Nat} {y : mm_N} {as pre rest : List Value} {Q1 : mm_Q} (hml : c.maxLocals = nL) (hlr : lr.size = nL) (hRm : d + 1 ≤ R.frames ∧ 100 * d + 2100 ≤ R.locals) (hY : mm_okY y) (hci : y.2.2.2.2 = 0) (hlink : Jvm.Cond.methodLink own idx y.1 ∈ lw_tbl ∨ Jvm.Cond.methodLinkNest own idx y.1 RX6 ∈ lw_tbl) (hnp : (parseMethodDescriptor y.1.desc).map (fun d => d.parameters.length) = some np)
    (hM : mm_Met l g base dC dI cA sN sf d al y as mem Q1) (has : as = pre.reverse) (hlen : pre.length = np) (hsum : mm_sum rest ≤ 8) (hcells : cells + al.1 ≤ R.cells ∧ slots + al.2 ≤ R.slots) (hdg : decode cc pc = .ok (.invokestatic idx, 3))
    (kk : ∀ (r : Option Value) (mem' : mm_M) (H1 : Heap) (locs1 : List Loc), Q1 r mem' → mm_Rep g base dC dI cA sN sf mem' H1 → va_S (fun q => base ≤ q) s.heap H1 locs1 → W p l e R s m args below meth c H1 locs1 (cells + al.1) (slots + al.2) Q (F0 m (pc + 3) lr ((r.toList ++ rest).map (mm_v g)))) : W p l e R s m args below meth c H locs cells slots Q (F0 m pc lr ((pre ++ rest).map (mm_v g))) := by
  have hV := X.2.2.2.1
  obtain ⟨hM1, hM2⟩ := hM
  have hstat : Jvm.Cond.static y.1 ∈ lw_tbl := by
    have h := hY.2.2
    rw [hci] at h
    exact h
  have hpre : pre = as.reverse := by rw [has, List.reverse_reverse]
  have hlen2 : (as.map (mm_v g)).length = np := by rw [List.length_map, has, List.length_reverse]; exact hlen
  have hstk : (pre ++ rest).map (mm_v g) = (as.map (mm_v g)).reverse ++ rest.map (mm_v g) := by rw [hpre]; simp
  have hP := mm_pre X hR hS (as := as)
  have hroom : 2 * (F0 m pc lr ((pre ++ rest).map (mm_v g))).monitorRoom + ((rest.map (mm_v g)).map fun v => v.category).sum ≤ 8 := lv_room (by rw [mm_sum_map]; exact hsum)
  rcases hlink with hlink | hlink
  · refine mm_after (a := #[]) (g := g) (rest := rest.map (mm_v g)) (va_runS (As := as.map (mm_v g)) (rest := rest.map (mm_v g)) (Ts := []) ⟨X.1, X.2.1, hml, X.2.2.1, fun w hw => by cases hw⟩ hM2 ⟨mm_callW X hml hRm hY (hV.word hlink rfl args) hnp, hV.word hstat rfl args⟩ hP rfl hlen2 hlr hstk hroom hdg hcells) hS ?_
    intro r1 mem' H1 locs1 q1 q2 q3
    rw [mm_ret_map]
    exact kk r1 mem' H1 locs1 q1 q2 q3
  · refine mm_after (a := #[]) (g := g) (rest := rest.map (mm_v g)) (va_runSN (As := as.map (mm_v g)) (rest := rest.map (mm_v g)) (Ts := []) ⟨X.1, X.2.1, hml, X.2.2.1, fun w hw => by cases hw⟩ hM2 ⟨mm_callN X hml hRm hY (va_Nw.use rfl (hV.2.1 _ hlink rfl)) hnp, hV.word hstat rfl args, trivial⟩ hP rfl hlen2 hlr hstk hroom hdg hcells) hS ?_
    intro r1 mem' H1 locs1 q1 q2 q3
    rw [mm_ret_map]
    exact kk r1 mem' H1 locs1 q1 q2 q3
theorem mm_invI (X : mm_Cx p s m c cc own g base dC dI cA sN sf) (hR : mm_Rep g base dC dI cA sN sf mem H) (hS : va_S (fun q => base ≤ q) s.heap H locs) {d nL idx np ci : Nat} {al : Nat × Nat} {y : mm_N} {as pre rest : List Value} {Q1 : mm_Q} (hml : c.maxLocals = nL) (hlr : lr.size = nL) (hRm : d + 1 ≤ R.frames ∧ 100 * d + 2100 ≤ R.locals) (hY : mm_okY y) (hci : y.2.2.2.2 = ci + 1) (hnm : y.1.name = "<init>") (hrt : y.2.2.2.1 = none) (hlink : Jvm.Cond.methodLink own idx y.1 ∈ lw_tbl ∨ Jvm.Cond.methodLinkNest own idx y.1 RX6 ∈ lw_tbl) (hnp : (parseMethodDescriptor y.1.desc).map (fun d => d.parameters.length) = some np)
    (hM : mm_Met l g base dC dI cA sN sf d al y as mem Q1) (has : as = pre.reverse) (hlen : pre.length = np + 1) (hsum : mm_sum rest ≤ 8) (hcells : cells + al.1 ≤ R.cells ∧ slots + al.2 ≤ R.slots) (hdg : decode cc pc = .ok (.invokespecial idx, 3))
    (kk : ∀ (r : Option Value) (mem' : mm_M) (H1 : Heap) (locs1 : List Loc), Q1 r mem' → mm_Rep g base dC dI cA sN sf mem' H1 → va_S (fun q => base ≤ q) s.heap H1 locs1 → W p l e R s m args below meth c H1 locs1 (cells + al.1) (slots + al.2) Q (F0 m (pc + 3) lr ((r.toList ++ rest).map (mm_v g)))) : W p l e R s m args below meth c H locs cells slots Q (F0 m pc lr ((pre ++ rest).map (mm_v g))) := by
  have hV := X.2.2.2.1
  obtain ⟨y, bt, ml, rt, rc⟩ := y
  dsimp only at hci hnm hrt hlink hnp hM
  subst hrt
  obtain ⟨hM1, hM2⟩ := hM
  dsimp only at hM1 hM2
  rw [hci] at hM1
  obtain ⟨r, as', fs, ha, hr, h6⟩ := mm_recv_ok hR hM1
  have hinst : Jvm.Cond.instanceMethod y ∈ lw_tbl := by
    have h := hY.2.2
    dsimp only at h
    rw [hci] at h
    exact h.1
  have hpre : pre = as'.reverse ++ [.ref r] := by
    have h1 : pre.reverse.reverse = (.ref r :: as').reverse := by rw [← has, ha]
    rw [List.reverse_reverse, List.reverse_cons] at h1
    exact h1
  have hlen2 : (as'.map (mm_v g)).length = np := by
    rw [List.length_map]
    have h := congrArg List.length hpre
    rw [List.length_append, List.length_reverse, List.length_singleton] at h
    omega
  have hstk : (pre ++ rest).map (mm_v g) = (as'.map (mm_v g)).reverse ++ .ref (g r) :: rest.map (mm_v g) := by
    rw [hpre]
    simp [mm_v]
  have hP := mm_pre X hR hS (as := as)
  have hP2 : PreS s H (fun v U => v = (as.map (mm_v g)).toArray ∧ mm_Vm dC dI cA U ∧ mm_St g base sN sf U U.heap ∧ mm_Rep g base dC dI cA sN sf mem U.heap) (.ref (g r) :: as'.map (mm_v g)) := by
    have h : as.map (mm_v g) = .ref (g r) :: as'.map (mm_v g) := by rw [ha]; rfl
    rw [← h]
    exact hP
  have hroom : 2 * (F0 m pc lr ((pre ++ rest).map (mm_v g))).monitorRoom + ((rest.map (mm_v g)).map fun v => v.category).sum ≤ 8 := lv_room (by rw [mm_sum_map]; exact hsum)
  rcases hlink with hlink | hlink
  · refine mm_after (a := #[]) (g := g) (rest := rest.map (mm_v g)) (va_runI (b := g r) (As := as'.map (mm_v g)) (rest := rest.map (mm_v g)) (Ts := []) ⟨X.1, X.2.1, hml, X.2.2.1, fun w hw => by cases hw⟩ hM2 ⟨mm_callW X hml hRm hY (hV.word hlink rfl args) hnp, hnm, hV.word hinst rfl args⟩ hP2 rfl hlen2 hlr hstk hroom hdg hcells) hS ?_
    intro r1 mem' H1 locs1 q1 q2 q3
    rw [mm_ret_map]
    exact kk r1 mem' H1 locs1 q1 q2 q3
  · refine mm_after (a := #[]) (g := g) (rest := rest.map (mm_v g)) (va_runIN (b := g r) (As := as'.map (mm_v g)) (rest := rest.map (mm_v g)) (Ts := []) ⟨X.1, X.2.1, hml, X.2.2.1, fun w hw => by cases hw⟩ hM2 ⟨mm_callN X hml hRm hY (va_Nw.use rfl (hV.2.1 _ hlink rfl)) hnp, hnm, hV.word hinst rfl args⟩ hP2 rfl hlen2 hlr hstk hroom hdg hcells) hS ?_
    intro r1 mem' H1 locs1 q1 q2 q3
    rw [mm_ret_map]
    exact kk r1 mem' H1 locs1 q1 q2 q3
end MMV
