/-! what the small machine says of a call, the machine does -/
theorem mm_lay_len {g : Nat → Nat} : ∀ as : List Value, (lg_sl (as.map (mm_v g))).length = (mm_lay as).length
  | [] => rfl
  | v :: t => by
    have ih := mm_lay_len (g := g) t
    cases v <;> simp_all [lg_sl, mm_lay, mm_v, Value.category]
theorem mm_lay_mem {g : Nat → Nat} : ∀ (as : List Value) (i0 i : Nat) (v : Value), mm_nth (mm_lay as) i = some (some v) → (i0 + i, mm_v g v) ∈ lv_args i0 (as.map (mm_v g))
  | [], _, _, _, h => by cases h
  | w :: t, i0, i, v, h => by
    have ih := mm_lay_mem (g := g) t
    have one : ∀ (w : Value), w.category = 1 → mm_nth (some w :: mm_lay t) i = some (some v) → (i0 + i, mm_v g v) ∈ (i0, mm_v g w) :: lv_args (i0 + 1) (t.map (mm_v g)) := by
      intro w _ h
      cases i with
      | zero => cases h; exact List.mem_cons_self
      | succ i =>
        have h2 := ih (i0 + 1) i v h
        rw [show i0 + 1 + i = i0 + (i + 1) by omega] at h2
        exact List.mem_cons_of_mem _ h2
    have two : ∀ (w : Value), w.category = 2 → mm_nth (some w :: none :: mm_lay t) i = some (some v) → (i0 + i, mm_v g v) ∈ (i0, mm_v g w) :: lv_args (i0 + 2) (t.map (mm_v g)) := by
      intro w _ h
      match i, h with
      | 0, h => cases h; exact List.mem_cons_self
      | 1, h => cases h
      | i + 2, h =>
        have h2 := ih (i0 + 2) i v h
        rw [show i0 + 2 + i = i0 + (i + 2) by omega] at h2
        exact List.mem_cons_of_mem _ h2
    cases w with
    | long x => exact two (.long x) rfl h
    | double x => exact two (.double x) rfl h
    | int x => exact one (.int x) rfl h
    | float x => exact one (.float x) rfl h
    | null => exact one .null rfl h
    | ref x => exact one (.ref x) rfl h
    | retAddr x => exact one (.retAddr x) rfl h
theorem mm_rep_len : ∀ n : Nat, (mm_rep n).length = n
  | 0 => rfl
  | n + 1 => congrArg Nat.succ (mm_rep_len n)
theorem mm_rep_nth : ∀ (n i : Nat) (v : Value), mm_nth (mm_rep n) i = some (some v) → False
  | 0, _, _, h => by cases h
  | n + 1, 0, _, h => by cases h
  | n + 1, i + 1, v, h => mm_rep_nth n i v h
theorem mm_nth_append {α : Type} : ∀ (l r : List α) (i : Nat) (x : α), mm_nth (l ++ r) i = some x → mm_nth l i = some x ∨ ∃ j, mm_nth r j = some x
  | [], _, i, _, h => Or.inr ⟨i, h⟩
  | _ :: _, _, 0, _, h => Or.inl h
  | _ :: t, r, i + 1, x, h => mm_nth_append t r i x h
theorem mm_LR_entry {g : Nat → Nat} {nL : Nat} {as : List Value} (h : (mm_lay as).length ≤ nL) :
    mm_LR g nL (mm_args nL as) ((lg_sl (as.map (mm_v g)) ++ List.replicate (nL - (lg_sl (as.map (mm_v g))).length) Slot.unset).toArray) := by
  have hl := lv_entry (as.map (mm_v g)) (n := nL) (by rw [mm_lay_len]; exact h)
  refine ⟨?_, hl.1, hl.2.1, fun i v hi => ?_⟩
  · unfold mm_args
    rw [List.length_append, mm_rep_len]
    omega
  · unfold mm_args at hi
    rcases mm_nth_append _ _ _ _ hi with h1 | ⟨j, h1⟩
    · have h2 := mm_lay_mem (g := g) as 0 i v h1
      rw [Nat.zero_add] at h2
      exact hl.2.2 _ h2
    · exact (mm_rep_nth _ _ _ h1).elim
/-- a table of methods that fits the code -/
def mm_Prog (Y : Nat → mm_N) (Pg : Nat → mm_Y) (Df : Nat → List Value) : Prop :=
  ∀ j, mm_okY (Y j) → (Pg j).2.1 = (Y j).2.2.1 ∧ (Pg j).2.2 = (Y j).2.2.2.2 ∧ ∀ (pc : Nat) (q : mm_I), mm_find (Pg j).1 pc = some q → mm_oki Y (Y j).1.cls (decide ((Y j).1.name = "<init>")) (Y j).2.1 (Y j).2.2.2.1 Df pc q.1 q.2.1 q.2.2.1 q.2.2.2.1 q.2.2.2.2.1 q.2.2.2.2.2
set_option maxHeartbeats 4000000 in
theorem mm_sound {l : Launch} {Y : Nat → mm_N} {Pg : Nat → mm_Y} {Al : Nat → Nat × Nat} {Df : Nat → List Value} {g : Nat → Nat} {base : Nat} {dC : Nat → ClassId} {dI : Nat → Nat → Nat} {cA : Nat → ClassId} {sN : Nat → Nat} {sf : Nat → Nat → Int32} (hP : mm_Prog Y Pg Df) (hg : ∀ k, 6 ≤ k → g k = base + (k - 6)) :
    ∀ (d j : Nat) (as : List Value) (mem : mm_M) (Q1 : mm_Q), mm_Sp Pg Al Df d j as mem Q1 → mm_okY (Y j) → mm_Met l g base dC dI cA sN sf d (Al j) (Y j) as mem Q1 := by
  intro d
  induction d with
  | zero => intro j as mem Q1 h; exact h.elim
  | succ d ih =>
    intro j as mem Q1 h hY
    obtain ⟨hp1, hp2, hp3⟩ := hP j hY
    obtain ⟨hrecv, hlen, hwp⟩ := h
    rw [hp2] at hrecv
    rw [hp1] at hlen hwp
    refine ⟨hrecv, ?_⟩
    generalize hyj : Y j = y at *
    obtain ⟨nm, bt, ml, rt, rc⟩ := y
    dsimp only at *
    refine Met.ofW (cc := bt) (maxL := ml) (ret := rt) (ws' := []) hY.1.2.2.1 rfl ?_
    intro p e s m args below meth c s₁ B hml hv
    obtain ⟨rfl, hV, hSt, hRep⟩ := hv
    have hown : s.vm.findClass nm.cls = some m.cls := findClass_of_methodNamed B.named
    have hbase : base ≤ s.heap.size := by
      have := hRep.1
      omega
    have X : mm_Cx p s m c bt nm.cls g base dC dI cA sN sf := ⟨B.exec, B.bytes, hown, hV, hSt, hbase, hg⟩
    rw [lg_entry_eq]
    have hle : (mm_lay as).length ≤ ml := Nat.le_of_ble_eq_true hlen
    have hin : decide (nm.name = "<init>") = true → meth.name = "<init>" := by
      intro h
      rw [← of_decide_eq_true h]
      exact (name_of_methodNamed B.named B.method).1
    refine hwp (mm_at p l e (mm_room (d + 1) (Al j)) s m _ below meth c _ g base dC dI cA sN sf ml) (mm_sim (d := d) X hml ⟨Nat.le_refl _, by show 100 * d + 2100 ≤ 100 * (d + 1) + 2000; omega⟩ hin ih hp3 ?_) s.heap [] _ hRep va_S.rf (mm_LR_entry hle) (Nat.zero_le _) (Nat.zero_le _)
    intro pc mem' H locs lr k n v ins hd hr hR hS hk hn hq
    refine W.widen (k := (Al j).1) (n := (Al j).2) hk hn ?_
    have hlocks := B.notSynchronized
    have hrt := B.returns
    unfold mm_isret at hr
    split at hr
    · rename_i x
      rcases hr with hr | ⟨hr, hf⟩
      · subst hr
        exact W.iret B.exec B.bytes hrt (fun t ht hW => ⟨⟨some (.int x), mem', rfl, hq, by rw [ht]; exact hR⟩, hS.F ht⟩) hS.2.2 hd
      · subst hr
        have hnar : narrow .boolean (.int x) = .int x := by
          have h2 : x = 0 ∨ x = 1 := by simpa [fits] using hf
          rcases h2 with rfl | rfl <;> decide +kernel
        exact W.zret B.exec B.bytes hrt hnar (fun t ht hW => ⟨⟨some (.int x), mem', rfl, hq, by rw [ht]; exact hR⟩, hS.F ht⟩) hS.2.2 hd
    · rename_i x
      subst hr
      exact W.lret B.exec B.bytes hrt (fun t ht hW => ⟨⟨some (.long x), mem', rfl, hq, by rw [ht]; exact hR⟩, hS.F ht⟩) hS.2.2 hd
    · subst hr
      exact W.vret B.exec B.bytes hrt (fun t ht hW => ⟨⟨none, mem', rfl, hq, by rw [ht]; exact hR⟩, hS.F ht⟩) hS.2.2 hd
    · exact hr.elim
