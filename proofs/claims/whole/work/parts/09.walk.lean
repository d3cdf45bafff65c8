/-! the walk of a method's body -/
section MMW
variable {p : Program} {l : Launch} {e : Env} {R : Room} {s : State} {m : MethodId} {args : Array Value} {below : List Frame} {meth : Method} {c : Code} {H : Heap} {locs : List Loc} {cells slots : Nat} {Q : State → Prop}
variable {cc : ByteArray} {pc : Nat} {lr : Array Slot} {own : String} {g : Nat → Nat} {base : Nat} {dC : Nat → ClassId} {dI : Nat → Nat → Nat} {cA : Nat → ClassId} {sN : Nat → Nat} {sf : Nat → Nat → Int32} {mem : mm_M}
theorem mm_ifi (hx : p.tables.exec = Jvm.exec) (hb : c.code = cc) (z : ClassFile.Cond) {o : Int} {a : Nat} {x : Int32} {rest : List Value} (hd : decode cc pc = .ok (.ifCond z o, 3)) (ht : (pc : Int) + o = (a : Int))
    (h : mm_if z x 0 (W p l e R s m args below meth c H locs cells slots Q (F0 m a lr rest)) (W p l e R s m args below meth c H locs cells slots Q (F0 m (pc + 3) lr rest))) : W p l e R s m args below meth c H locs cells slots Q (F0 m pc lr (.int x :: rest)) := by
  cases z
  · exact lv_if_eq hx hb hd ht h.1 h.2
  · exact lv_if_ne hx hb hd ht h.1 h.2
  · exact lv_if_lt hx hb hd ht h.1 h.2
  · exact lv_if_ge hx hb hd ht h.1 h.2
  · exact lv_if_gt hx hb hd ht h.1 h.2
  · exact lv_if_le hx hb hd ht h.1 h.2
theorem mm_ifc (hx : p.tables.exec = Jvm.exec) (hb : c.code = cc) (z : ClassFile.Cond) {o : Int} {a : Nat} {x y : Int32} {rest : List Value} (hd : decode cc pc = .ok (.if_icmp z o, 3)) (ht : (pc : Int) + o = (a : Int))
    (h : mm_if z x y (W p l e R s m args below meth c H locs cells slots Q (F0 m a lr rest)) (W p l e R s m args below meth c H locs cells slots Q (F0 m (pc + 3) lr rest))) : W p l e R s m args below meth c H locs cells slots Q (F0 m pc lr (.int y :: .int x :: rest)) := by
  cases z
  · exact lv_icmp_eq hx hb hd ht h.1 h.2
  · exact lv_icmp_ne hx hb hd ht h.1 h.2
  · exact lv_icmp_lt hx hb hd ht h.1 h.2
  · exact lv_icmp_ge hx hb hd ht h.1 h.2
  · exact lv_icmp_gt hx hb hd ht h.1 h.2
  · exact lv_icmp_le hx hb hd ht h.1 h.2
/-- where the machine stands, where the small one does -/
def mm_at (p : Program) (l : Launch) (e : Env) (R : Room) (s : State) (m : MethodId) (args : Array Value) (below : List Frame) (meth : Method) (c : Code) (Q : State → Prop) (g : Nat → Nat) (base : Nat) (dC : Nat → ClassId) (dI : Nat → Nat → Nat) (cA : Nat → ClassId) (sN : Nat → Nat) (sf : Nat → Nat → Int32) (nL : Nat) : mm_K := fun pc ls st mem k n =>
  ∀ (H : Heap) (locs : List Loc) (lr : Array Slot), mm_Rep g base dC dI cA sN sf mem H → va_S (fun q => base ≤ q) s.heap H locs → mm_LR g nL ls lr → k ≤ R.cells → n ≤ R.slots → W p l e R s m args below meth c H locs k n Q (F0 m pc lr (st.map (mm_v g)))
theorem mm_df_map {l : List Value} (h : ∀ v ∈ l, mm_v (fun x => x + 1) v = v) : l.map (mm_v g) = l := by
  induction l with
  | nil => rfl
  | cons v t ih =>
    have h1 := h v List.mem_cons_self
    have h2 : mm_v g v = v := by
      cases v <;> first | rfl | skip
      rename_i a
      exact absurd (Value.ref.inj h1) (Nat.succ_ne_self a)
    rw [List.map_cons, h2, ih (fun w hw => h w (List.mem_cons_of_mem _ hw))]
set_option maxHeartbeats 4000000 in
theorem mm_sim_call (X : mm_Cx p s m c cc own g base dC dI cA sN sf) {S : mm_S} {Al : Nat → Nat × Nat} {d nL nx a b : Nat} {ls : mm_L} {st : List Value} {k n : Nat}
    (inv : ∀ (H : Heap) (locs : List Loc) (lr : Array Slot) (as pre rest : List Value) (Q1 : mm_Q) (cells slots : Nat), mm_Rep g base dC dI cA sN sf mem H → va_S (fun q => base ≤ q) s.heap H locs → lr.size = nL → S a as mem Q1 → as = pre.reverse → pre.length = b → mm_sum rest ≤ 8 → cells + (Al a).1 ≤ R.cells ∧ slots + (Al a).2 ≤ R.slots →
      (∀ (r : Option Value) (mem' : mm_M) (H1 : Heap) (locs1 : List Loc), Q1 r mem' → mm_Rep g base dC dI cA sN sf mem' H1 → va_S (fun q => base ≤ q) s.heap H1 locs1 → W p l e R s m args below meth c H1 locs1 (cells + (Al a).1) (slots + (Al a).2) Q (F0 m nx lr ((r.toList ++ rest).map (mm_v g)))) → W p l e R s m args below meth c H locs cells slots Q (F0 m pc lr ((pre ++ rest).map (mm_v g))))
    (h : mm_call S Al (R.cells, R.slots) (mm_at p l e R s m args below meth c Q g base dC dI cA sN sf nL) nx ls mem k n a (mm_pop b [] st)) : mm_at p l e R s m args below meth c Q g base dC dI cA sN sf nL pc ls st mem k n := by
  intro H locs lr hR hS hl hk hn
  unfold mm_call at h
  split at h
  · exact h.elim
  · rename_i q hq
    obtain ⟨as, rest⟩ := q
    obtain ⟨pre, h1, h2, h3⟩ := mm_pop_spec b [] st as rest hq
    rw [List.append_nil] at h2
    subst h1
    split at h
    · exact h.elim
    · rename_i hb
      have hsum : mm_sum rest ≤ 8 := Nat.le_of_ble_eq_true hb
      split at h
      · rename_i hal
        obtain ⟨Q1, hs, hgo⟩ := h
        have e1 : (Al a).1 = 0 := by rw [hal]
        have e2 : (Al a).2 = 0 := by rw [hal]
        refine inv H locs lr as pre rest Q1 k n hR hS hl.2.1 hs h2 h3 hsum ⟨by omega, by omega⟩ ?_
        intro r mem' H1 locs1 q1 q2 q3
        rw [e1, e2]
        exact hgo r mem' q1 H1 locs1 lr q2 q3 hl hk hn
      · rename_i c0 d0 _ hal
        obtain ⟨⟨hc1, hc2⟩, Q1, hs, hgo⟩ := h
        have e1 : (Al a).1 = c0 := by rw [hal]
        have e2 : (Al a).2 = d0 := by rw [hal]
        refine inv H locs lr as pre rest Q1 k n hR hS hl.2.1 hs h2 h3 hsum ⟨by rw [e1]; exact hc1, by rw [e2]; exact hc2⟩ ?_
        intro r mem' H1 locs1 q1 q2 q3
        rw [e1, e2]
        exact hgo r mem' q1 H1 locs1 lr q2 q3 hl hc1 hc2
set_option maxHeartbeats 4000000 in
theorem mm_sim (X : mm_Cx p s m c cc own g base dC dI cA sN sf) {Y : Nat → mm_N} {S : mm_S} {Al : Nat → Nat × Nat} {Df : Nat → List Value} {cd : mm_C} {Qm : mm_Q} {d nL : Nat} {ini : Bool} {rt : Option FieldType} (hml : c.maxLocals = nL) (hRm : d + 1 ≤ R.frames ∧ 100 * d + 2100 ≤ R.locals) (hini : ini = true → meth.name = "<init>")
    (hSp : ∀ (j : Nat) (as : List Value) (mem : mm_M) (Q1 : mm_Q), S j as mem Q1 → mm_okY (Y j) → mm_Met l g base dC dI cA sN sf d (Al j) (Y j) as mem Q1)
    (hok : ∀ (pc : Nat) (q : mm_I), mm_find cd pc = some q → mm_oki Y own ini cc rt Df pc q.1 q.2.1 q.2.2.1 q.2.2.2.1 q.2.2.2.2.1 q.2.2.2.2.2)
    (hret : ∀ (pc : Nat) (mem : mm_M) (H : Heap) (locs : List Loc) (lr : Array Slot) (k n : Nat) (v : Option Value) (ins : Instr), decode cc pc = .ok (ins, 1) → mm_isret rt ins v → mm_Rep g base dC dI cA sN sf mem H → va_S (fun q => base ≤ q) s.heap H locs → k ≤ R.cells → n ≤ R.slots → Qm v mem → W p l e R s m args below meth c H locs k n Q (F0 m pc lr (v.toList.map (mm_v g)))) :
    ∀ (pc : Nat) (ls : mm_L) (st : List Value) (mem : mm_M) (k n : Nat), mm_step S Al Df (R.cells, R.slots) cd Qm (mm_at p l e R s m args below meth c Q g base dC dI cA sN sf nL) pc ls st mem k n → mm_at p l e R s m args below meth c Q g base dC dI cA sN sf nL pc ls st mem k n := by
  intro pc ls st mem k n h
  have hx := X.1
  have hb := X.2.1
  unfold mm_step at h
  split at h
  · exact h.elim
  · rename_i ins nx a b sw lc hq
    have ok := hok pc _ hq
    dsimp only at ok
    unfold mm_ins at h
    split at h
    -- idiv, irem, ldiv, lrem
    · obtain ⟨hd, rfl⟩ := ok
      split at h
      · intro H locs lr hR hS hl hk hn
        refine lv_idiv hx hb hd h.1 ?_
        exact h.2 H locs lr hR hS hl hk hn
      · exact h.elim
    · obtain ⟨hd, rfl⟩ := ok
      split at h
      · intro H locs lr hR hS hl hk hn
        refine lv_irem hx hb hd h.1 ?_
        exact h.2 H locs lr hR hS hl hk hn
      · exact h.elim
    · obtain ⟨hd, rfl⟩ := ok
      split at h
      · intro H locs lr hR hS hl hk hn
        refine lv_ldiv hx hb hd h.1 ?_
        exact h.2 H locs lr hR hS hl hk hn
      · exact h.elim
    · obtain ⟨hd, rfl⟩ := ok
      split at h
      · intro H locs lr hR hS hl hk hn
        refine lv_lrem hx hb hd h.1 ?_
        exact h.2 H locs lr hR hS hl hk hn
      · exact h.elim
    -- branches
    · obtain ⟨hd, rfl, ht⟩ := ok
      split at h
      · intro H locs lr hR hS hl hk hn
        refine mm_ifi hx hb _ hd ht ?_
        exact mm_if_mono (fun w => w H locs lr hR hS hl hk hn) (fun w => w H locs lr hR hS hl hk hn) h
      · exact h.elim
    · obtain ⟨hd, rfl, ht⟩ := ok
      split at h
      · intro H locs lr hR hS hl hk hn
        refine mm_ifc hx hb _ hd ht ?_
        exact mm_if_mono (fun w => w H locs lr hR hS hl hk hn) (fun w => w H locs lr hR hS hl hk hn) h
      · exact h.elim
    · obtain ⟨hd, ht⟩ := ok
      intro H locs lr hR hS hl hk hn
      exact lv_goto hx hb hd ht (h H locs lr hR hS hl hk hn)
    -- switches
    · obtain ⟨⟨len, hd⟩, ht, hsw, hhi⟩ := ok
      split at h
      · rename_i x st0
        intro H locs lr hR hS hl hk hn
        rcases mm_tsw_ok _ _ _ hsw h with ⟨h1, h2⟩ | ⟨i, o, t, h1, h2, h3, h4⟩
        · exact lv_tableOut hx hb hd (by omega) ht (h1 H locs lr hR hS hl hk hn)
        · have hi := (List.getElem?_eq_some_iff.mp h1).1
          refine lv_tableIn (off := o) hx hb hd (by omega) (by omega) ?_ h3 (h4 H locs lr hR hS hl hk hn)
          rw [← Array.getElem?_toList, h2, show ∀ lo : Int, (lo + (i : Int) - lo).toNat = i from fun lo => by omega]
          exact h1
      · exact h.elim
    · obtain ⟨⟨len, hd⟩, ht, hsw, hsort⟩ := ok
      split at h
      · rename_i x st0
        intro H locs lr hR hS hl hk hn
        obtain ⟨t, h1, h2⟩ := mm_lsw_ok ht _ _ hsw h
        refine lv_lookup hx hb hd hsort rfl h1 ?_
        rcases h2 with ⟨rfl, h2⟩ | h2
        · exact h2 H locs lr hR hS hl hk hn
        · exact h2 H locs lr hR hS hl hk hn
      · exact h.elim
    -- getstatic
    · obtain ⟨hd, rfl, h1, h2, h3⟩ := ok
      intro H locs lr hR hS hl hk hn
      exact mm_gets X hS h1 h2 h3 hd (h H locs lr hR hS hl hk hn)
    -- getfield
    · obtain ⟨hd, rfl, q, hf⟩ := ok
      split at h
      · rename_i r st0
        split at h
        · rename_i o hr
          split at h
          · rename_i hbq
            split at h
            · rename_i v hv
              intro H locs lr hR hS hl hk hn
              obtain ⟨ci, fs⟩ := o
              have e0 : ci = a := Nat.eq_of_beq_eq_true hbq
              subst e0
              exact mm_getf X hR hr hv hf hd (h H locs lr hR hS hl hk hn)
            · exact h.elim
          · exact h.elim
        · exact h.elim
      · exact h.elim
    -- putfield
    · obtain ⟨hd, rfl, ⟨q, hf, hfin⟩, htag⟩ := ok
      split at h
      · rename_i v r st0
        split at h
        · rename_i o hr
          split at h
          · rename_i hbq
            split at h
            · rename_i v0 hv
              split at h
              · rename_i z tag tl
                intro H locs lr hR hS hl hk hn
                obtain ⟨ci, fs⟩ := o
                have e0 : ci = a := Nat.eq_of_beq_eq_true hbq
                subst e0
                refine mm_putf X hR hS hr hv hf h.1 (htag _ _ _ rfl) (hfin.imp id (fun z => ⟨hini z.1, z.2⟩)) hd ?_
                intro H1 locs1 q1 q2
                exact h.2 H1 locs1 lr q1 q2 hl hk hn
              · exact h.elim
            · exact h.elim
          · exact h.elim
        · exact h.elim
      · exact h.elim
    -- iaload, baload, aaload
    · obtain ⟨hd, rfl⟩ := ok
      split at h
      · split at h
        · rename_i hr
          intro H locs lr hR hS hl hk hn
          exact mm_iald X hR hS hr h.1 hd (h.2 H locs lr hR hS hl hk hn)
        · exact h.elim
      · exact h.elim
    · obtain ⟨hd, rfl⟩ := ok
      split at h
      · split at h
        · rename_i hr
          intro H locs lr hR hS hl hk hn
          exact mm_zald X hR hr h.1 hd (h.2 H locs lr hR hS hl hk hn)
        · exact h.elim
      · exact h.elim
    · obtain ⟨hd, rfl⟩ := ok
      split at h
      · split at h
        · rename_i hr
          intro H locs lr hR hS hl hk hn
          obtain ⟨h1, y, h2, h3⟩ := h
          exact mm_aald X hR hr h1 h2 hd (h3 H locs lr hR hS hl hk hn)
        · exact h.elim
      · exact h.elim
    -- iastore, bastore, aastore
    · obtain ⟨hd, rfl⟩ := ok
      split at h
      · split at h
        · rename_i h6
          split at h
          · rename_i hr
            intro H locs lr hR hS hl hk hn
            refine mm_iast X hR hS (Nat.le_of_ble_eq_true h6) hr h.1 hd ?_
            intro H1 locs1 q1 q2
            exact h.2 H1 locs1 lr q1 q2 hl hk hn
          · exact h.elim
        · exact h.elim
      · exact h.elim
    · obtain ⟨hd, rfl⟩ := ok
      split at h
      · split at h
        · rename_i h6
          split at h
          · rename_i hr
            intro H locs lr hR hS hl hk hn
            refine mm_zast X hR hS (Nat.le_of_ble_eq_true h6) hr h.1 h.2.1 hd ?_
            intro H1 locs1 q1 q2
            exact h.2.2 H1 locs1 lr q1 q2 hl hk hn
          · exact h.elim
        · exact h.elim
      · exact h.elim
    · obtain ⟨hd, rfl, rfl⟩ := ok
      split at h
      · split at h
        · rename_i h6
          split at h
          · rename_i hr
            intro H locs lr hR hS hl hk hn
            obtain ⟨h1, ⟨fs, h2⟩, h3⟩ := h
            refine mm_aast X hR hS (Nat.le_of_ble_eq_true h6) hr h1 h2 hd ?_
            intro H1 locs1 q1 q2
            exact h3 H1 locs1 lr q1 q2 hl hk hn
          · exact h.elim
        · exact h.elim
      · exact h.elim
    -- arraylength
    · obtain ⟨hd, rfl⟩ := ok
      split at h
      · split at h
        · rename_i t N z hr
          split at h
          · rename_i ht
            intro H locs lr hR hS hl hk hn
            have ht2 := Nat.le_of_ble_eq_true ht
            exact mm_alen X hR hS hr (by omega) hd (h H locs lr hR hS hl hk hn)
          · exact h.elim
        · exact h.elim
      · exact h.elim
    -- new
    · obtain ⟨hd, rfl, q, h1, h2, h3, h4, rfl, h6, h7⟩ := ok
      obtain ⟨⟨hc1, hc2⟩, h⟩ := h
      intro H locs lr hR hS hl hk hn
      refine mm_newo (fs := Df a) X hR hS h1 h2 h3 h4 rfl (fun j hj => by rw [mm_df_map h7]; exact h6 j hj) hc1 hc2 hd ?_
      intro H1 q1 q2
      exact h _ rfl H1 locs lr q1 q2 hl hc1 hc2
    -- newarray
    · obtain ⟨hd, rfl, hN, hty⟩ := ok
      split at h
      · rename_i x st0
        obtain ⟨rfl, ⟨hc1, hc2⟩, h⟩ := h
        intro H locs lr hR hS hl hk hn
        rcases hty with ⟨rfl, rfl, ha⟩ | ⟨rfl, rfl, ha⟩
        · refine mm_newi X hR hS hN ha hc1 hc2 hd ?_
          intro H1 q1 q2
          exact h _ rfl H1 locs lr q1 q2 hl hc1 hc2
        · refine mm_newz X hR hS hN ha hc1 hc2 hd ?_
          intro H1 q1 q2
          exact h _ rfl H1 locs lr q1 q2 hl hc1 hc2
      · exact h.elim
    -- anewarray
    · obtain ⟨hd, rfl, hN, ha⟩ := ok
      split at h
      · rename_i x st0
        obtain ⟨rfl, ⟨hc1, hc2⟩, h⟩ := h
        intro H locs lr hR hS hl hk hn
        refine mm_newq X hR hS hN ha hc1 hc2 hd ?_
        intro H1 q1 q2
        exact h _ rfl H1 locs lr q1 q2 hl hc1 hc2
      · exact h.elim
    -- invokevirtual
    · obtain ⟨⟨hd, rfl, hY⟩, ⟨ci, hci⟩, hlk, hsel, np, rfl, hnp⟩ := ok
      refine mm_sim_call (d := d) X ?_ h
      intro H locs lr as pre rest Q1 cells slots hR hS hlr hs h2 h3 hsum hcs kk
      exact mm_invV X hR hS hml hlr hRm hY hci hlk hsel hnp (hSp a as mem Q1 hs hY) h2 h3 hsum hcs hd kk
    -- invokestatic
    · obtain ⟨⟨hd, rfl⟩, ok⟩ := ok
      split at h
      · rcases ok with ⟨-, hY, hci, hlk, hnp⟩ | ⟨h0, -⟩ | ⟨h0, -⟩
        · refine mm_sim_call (d := d) X ?_ h
          intro H locs lr as pre rest Q1 cells slots hR hS hlr hs h2 h3 hsum hcs kk
          exact mm_invS X hR hS hml hlr hRm hY hci hlk hnp (hSp a as mem Q1 hs hY) h2 h3 hsum hcs hd kk
        · exact absurd h0 (by decide)
        · exact absurd h0 (by decide)
      · rcases ok with ⟨h0, -⟩ | ⟨h0, -⟩ | ⟨-, hlk, hstat, hin, hcode⟩
        · exact absurd h0 (by decide)
        · exact absurd h0 (by decide)
        · split at h
          · intro H locs lr hR hS hl hk hn
            have hV := X.2.2.2.1
            refine va_mmax hx hb (hml.trans hl.2.1.symm) X.2.2.1 (hV.word hlk rfl args) (hV.word hstat rfl args) (hV.word hin rfl args) (hV.word hcode rfl args) (by omega) (by rw [mm_sum_map]; have h9 := h.1; omega) hk hn hd ?_
            exact h.2 H locs lr hR hS hl hk hn
          · exact h.elim
      · rename_i hlc0 hlc2
        rcases ok with ⟨h0, -⟩ | ⟨-, hlk, hnat, hstat, hin⟩ | ⟨h0, -⟩
        · exact (hlc0 h0).elim
        · split at h
          · rename_i z dp dd sp r st0
            split at h
            · rename_i N f M gg h6 hr hdd
              intro H locs lr hR hS hl hk hn
              obtain ⟨⟨⟨h1, h2, h3, h4⟩, h5, h7, h8⟩, h⟩ := h
              refine mm_copy X hR hS (hml.trans hl.2.1.symm) h4 (Nat.le_of_ble_eq_true h6) hr hdd hlk hnat hstat hin h1 h2 h3 h5 h7 h8 (by omega) ?_ hd ?_
              · have : nativeFrameWords "java/lang/System" "arraycopy" 5 ≤ 1000 := by decide +kernel
                omega
              · intro H1 locs1 q1 q2
                exact h H1 locs1 lr q1 q2 hl hk hn
            · exact h.elim
          · exact h.elim
        · exact (hlc2 h0).elim
    -- invokespecial
    · obtain ⟨⟨hd, rfl⟩, ok⟩ := ok
      split at h
      · rcases ok with ⟨-, hY, ⟨ci, hci⟩, hnm, hrt, hlk, np, rfl, hnp⟩ | ⟨h0, -⟩
        · refine mm_sim_call (d := d) X ?_ h
          intro H locs lr as pre rest Q1 cells slots hR hS hlr hs h2 h3 hsum hcs kk
          exact mm_invI X hR hS hml hlr hRm hY hci hnm hrt hlk hnp (hSp a as mem Q1 hs hY) h2 h3 hsum hcs hd kk
        · exact absurd h0 (by decide)
      · rename_i hlc
        rcases ok with ⟨h0, -⟩ | ⟨-, hlk, hin, hcd⟩
        · exact (hlc h0).elim
        · split at h
          · rename_i r st0
            intro H locs lr hR hS hl hk hn
            have hV := X.2.2.2.1
            refine W.objInit hx hb X.2.2.1 (hV.word hlk rfl args) (hV.word hin rfl args) (hV.word hcd rfl args) rfl (hl.2.1.trans hml.symm) rfl hd (by omega) ?_ (h.2 H locs lr hR hS hl hk hn)
            have h9 : 2 * (F0 m pc lr (st0.map (mm_v g))).monitorRoom + ((st0.map (mm_v g)).map fun v => v.category).sum ≤ 8 := lv_room (by rw [mm_sum_map]; exact h.1)
            exact Nat.le_trans (Nat.add_le_add_right h9 12) (by omega)
          · exact h.elim
    -- returns
    · obtain ⟨hd, hrt⟩ := ok
      split at h
      · rename_i v
        split at h
        · rcases hrt with ⟨-, hrt⟩ | ⟨h0, -⟩
          · intro H locs lr hR hS hl hk hn
            exact hret pc mem H locs lr k n (some (.int v)) _ hd (Or.inl hrt) hR hS hk hn h
          · cases h0
        · rename_i hne
          rcases hrt with ⟨h0, -⟩ | ⟨-, hrt⟩
          · exact (hne h0).elim
          · intro H locs lr hR hS hl hk hn
            exact hret pc mem H locs lr k n (some (.int v)) _ hd (Or.inr ⟨hrt, h.1⟩) hR hS hk hn h.2
      · exact h.elim
    · obtain ⟨hd, hrt⟩ := ok
      split at h
      · rename_i v
        intro H locs lr hR hS hl hk hn
        exact hret pc mem H locs lr k n (some (.long v)) _ hd hrt hR hS hk hn h
      · exact h.elim
    · obtain ⟨hd, hrt⟩ := ok
      split at h
      · intro H locs lr hR hS hl hk hn
        exact hret pc mem H locs lr k n none _ hd hrt hR hS hk hn h
      · exact h.elim
    -- the rest
    · split at h
      · rename_i ls' st' hr
        intro H locs lr hR hS hl hk hn
        have hV := X.2.2.2.1
        by_cases hc1 : ∃ idx, ins = .ldc_w idx
        · obtain ⟨idx, rfl⟩ := hc1
          obtain ⟨hd, rfl, v, r, rfl, hw⟩ := ok
          cases hr
          exact lv_ldcw hx hb X.2.2.1 (hV.word hw rfl args) hd (h H locs lr hR hS hl hk hn)
        · by_cases hc2 : ∃ idx, ins = .ldc idx
          · obtain ⟨idx, rfl⟩ := hc2
            obtain ⟨hd, rfl, v, r, rfl, hw⟩ := ok
            cases hr
            exact lv_ldc hx hb X.2.2.1 (hV.word hw rfl args) hd (h H locs lr hR hS hl hk hn)
          · by_cases hc3 : ∃ idx, ins = .ldc2_w idx
            · obtain ⟨idx, rfl⟩ := hc3
              obtain ⟨hd, rfl, hw⟩ := ok
              cases hr
              exact lv_ldc2 hx hb X.2.2.1 (hV.word hw rfl args) hd (h H locs lr hR hS hl hk hn)
            · refine mm_pure_ok hx hb ins ?_ hl hr (fun lr' hl' => h H locs lr' hR hS hl' hk hn)
              unfold mm_oki at ok
              split at ok
              all_goals first
                | exact ok
                | (cases hr; done)
                | (rename_i z; exact (z rfl).elim)
                | (exfalso; exact hc1 ⟨_, rfl⟩)
                | (exfalso; exact hc2 ⟨_, rfl⟩)
                | (exfalso; exact hc3 ⟨_, rfl⟩)
                | (exfalso; simp_all; done)
      · exact h.elim
end MMW
