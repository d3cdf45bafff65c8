/-! the small machine's locals and stack beside the real ones -/
def mm_v (g : Nat → Nat) : Value → Value
  | .ref k => .ref (g k)
  | v => v
theorem mm_v_cat (g : Nat → Nat) (v : Value) : (mm_v g v).category = v.category := by cases v <;> rfl
def mm_LR (g : Nat → Nat) (nL : Nat) (ls : mm_L) (lr : Array Slot) : Prop :=
  ls.length = nL ∧ lr.size = nL ∧ lv_wf lr ∧ ∀ (i : Nat) (v : Value), mm_nth ls i = some (some v) → lr[i]? = some (.val (mm_v g v))
theorem mm_nth_lt {α : Type} : ∀ {l : List α} {i : Nat} {x : α}, mm_nth l i = some x → i < l.length
  | [], _, _, h => by cases h
  | _ :: _, 0, _, _ => Nat.succ_pos _
  | _ :: t, n + 1, x, h => Nat.succ_lt_succ (mm_nth_lt (l := t) h)
theorem mm_set_len {α : Type} : ∀ (l : List α) (i : Nat) (x : α), (mm_set l i x).length = l.length
  | [], _, _ => rfl
  | _ :: _, 0, _ => rfl
  | _ :: t, n + 1, x => congrArg Nat.succ (mm_set_len t n x)
theorem mm_nth_set {α : Type} : ∀ (l : List α) (i j : Nat) (x : α), mm_nth (mm_set l i x) j = if j = i ∧ i < l.length then some x else mm_nth l j
  | [], i, j, x => by simp [mm_set, mm_nth]
  | y :: t, 0, 0, x => by simp [mm_set, mm_nth]
  | y :: t, 0, j + 1, x => by simp [mm_set, mm_nth]
  | y :: t, i + 1, 0, x => by simp [mm_set, mm_nth]
  | y :: t, i + 1, j + 1, x => by
    have h := mm_nth_set t i j x
    simp only [mm_set, mm_nth, h, List.length_cons, Nat.add_lt_add_iff_right, Nat.add_right_cancel_iff]
theorem mm_nth_eq {α : Type} : ∀ (l : List α) (i : Nat), mm_nth l i = l[i]?
  | [], _ => by simp [mm_nth]
  | _ :: _, 0 => by simp [mm_nth]
  | _ :: t, n + 1 => by simp [mm_nth, mm_nth_eq t n]
theorem mm_set_eq {α : Type} : ∀ (l : List α) (i : Nat) (x : α), mm_set l i x = l.set i x
  | [], _, _ => rfl
  | _ :: _, 0, _ => rfl
  | _ :: t, n + 1, x => by simp [mm_set, mm_set_eq t n x]
/-- the listed pairs of the locals -/
def mm_prs (g : Nat → Nat) : Nat → mm_L → List (Nat × Value)
  | _, [] => []
  | i, some v :: t => (i, mm_v g v) :: mm_prs g (i + 1) t
  | i, none :: t => mm_prs g (i + 1) t
theorem mm_prs_mem {g : Nat → Nat} : ∀ (ls : mm_L) (i : Nat) (q : Nat × Value), q ∈ mm_prs g i ls ↔ ∃ (j : Nat) (v : Value), mm_nth ls j = some (some v) ∧ q = (i + j, mm_v g v)
  | [], i, q => by simp [mm_prs, mm_nth]
  | some w :: t, i, q => by
    rw [mm_prs, List.mem_cons, mm_prs_mem t (i + 1) q]
    constructor
    · rintro (h | ⟨j, v, h1, h2⟩)
      · exact ⟨0, w, rfl, by rw [h]; rfl⟩
      · exact ⟨j + 1, v, h1, by rw [h2]; congr 1; omega⟩
    · rintro ⟨j, v, h1, h2⟩
      cases j with
      | zero => cases h1; exact Or.inl h2
      | succ j => exact Or.inr ⟨j, v, h1, by rw [h2]; congr 1; omega⟩
  | none :: t, i, q => by
    rw [mm_prs, mm_prs_mem t (i + 1) q]
    constructor
    · rintro ⟨j, v, h1, h2⟩
      exact ⟨j + 1, v, h1, by rw [h2]; congr 1; omega⟩
    · rintro ⟨j, v, h1, h2⟩
      cases j with
      | zero => cases h1
      | succ j => exact ⟨j, v, h1, by rw [h2]; congr 1; omega⟩
theorem mm_LR.has {g : Nat → Nat} {nL : Nat} {ls : mm_L} {lr : Array Slot} (h : mm_LR g nL ls lr) : lv_has lr nL (mm_prs g 0 ls) := by
  refine ⟨h.2.1, h.2.2.1, fun q hq => ?_⟩
  obtain ⟨j, v, h1, h2⟩ := (mm_prs_mem ls 0 q).mp hq
  subst h2
  simpa using h.2.2.2 j v h1
theorem mm_LR.at {g : Nat → Nat} {nL : Nat} {ls : mm_L} {lr : Array Slot} (h : mm_LR g nL ls lr) {i : Nat} {v : Value} (hi : mm_nth ls i = some (some v)) : lr[i]? = some (.val (mm_v g v)) := h.2.2.2 i v hi
theorem mm_LR.put1 {g : Nat → Nat} {nL : Nat} {ls ls' : mm_L} {lr lr' : Array Slot} {i : Nat} {v : Value} (h : mm_LR g nL ls lr) (hp : mm_put1 ls i v = some ls')
    (hh : lv_has lr' nL ((i, mm_v g v) :: (mm_prs g 0 ls).filter (fun q => !(q.1 == i) && !(q.1 + 1 == i && q.2.category == 2)))) : mm_LR g nL ls' lr' := by
  unfold mm_put1 at hp
  split at hp
  · rename_i x hx hok
    cases hp
    refine ⟨by rw [mm_set_len]; exact h.1, hh.1, hh.2.1, fun j w hj => ?_⟩
    rw [mm_nth_set] at hj
    split at hj
    · rename_i hc
      obtain ⟨rfl, -⟩ := hc
      cases hj
      exact hh.2.2 (j, mm_v g v) List.mem_cons_self
    · rename_i hc
      have hne : j ≠ i := fun e => hc ⟨e, mm_nth_lt hx⟩
      refine hh.2.2 (j, mm_v g w) (List.mem_cons_of_mem _ (List.mem_filter.mpr ⟨(mm_prs_mem ls 0 _).mpr ⟨j, w, hj, by simp⟩, ?_⟩))
      simp only [Bool.and_eq_true, Bool.not_eq_true', beq_eq_false_iff_ne, ne_eq, Bool.and_eq_false_iff, mm_v_cat]
      refine ⟨hne, ?_⟩
      by_cases e : j + 1 = i
      · right
        subst e
        have hok : mm_ok ls (j + 1) = true := hok
        simp only [mm_ok, hj] at hok
        cases w <;> first | (intro hh; cases hh; done) | (simp [mm_long] at hok; done) | (simp [Value.category])
      · exact Or.inl e
  · cases hp
theorem mm_LR.put2 {g : Nat → Nat} {nL : Nat} {ls ls' : mm_L} {lr lr' : Array Slot} {i : Nat} {v : Value} (h : mm_LR g nL ls lr) (hp : mm_put2 ls i v = some ls')
    (hh : lv_has lr' nL ((i, mm_v g v) :: (mm_prs g 0 ls).filter (fun q => !(q.1 == i) && (!(q.1 == i + 1) && !(q.1 + 1 == i && q.2.category == 2))))) : mm_LR g nL ls' lr' := by
  unfold mm_put2 at hp
  split at hp
  · rename_i x hx hok
    cases hp
    refine ⟨by rw [mm_set_len, mm_set_len]; exact h.1, hh.1, hh.2.1, fun j w hj => ?_⟩
    rw [mm_nth_set] at hj
    split at hj
    · cases hj
    · rename_i hc
      rw [mm_set_len] at hc
      rw [mm_nth_set] at hj
      have hne1 : j ≠ i + 1 := fun e => hc ⟨e, mm_nth_lt hx⟩
      split at hj
      · rename_i hc2
        obtain ⟨rfl, -⟩ := hc2
        cases hj
        exact hh.2.2 (j, mm_v g v) List.mem_cons_self
      · rename_i hc2
        have hne : j ≠ i := fun e => hc2 ⟨e, Nat.lt_of_succ_lt (mm_nth_lt hx)⟩
        refine hh.2.2 (j, mm_v g w) (List.mem_cons_of_mem _ (List.mem_filter.mpr ⟨(mm_prs_mem ls 0 _).mpr ⟨j, w, hj, by simp⟩, ?_⟩))
        simp only [Bool.and_eq_true, Bool.not_eq_true', beq_eq_false_iff_ne, ne_eq, Bool.and_eq_false_iff, mm_v_cat]
        refine ⟨hne, hne1, ?_⟩
        by_cases e : j + 1 = i
        · right
          subst e
          have hok : mm_ok ls (j + 1) = true := hok
          simp only [mm_ok, hj] at hok
          cases w <;> first | (intro hh; cases hh; done) | (simp [mm_long] at hok; done) | (simp [Value.category])
        · exact Or.inl e
  · cases hp
theorem mm_put1_lt {ls ls' : mm_L} {i : Nat} {v : Value} (h : mm_put1 ls i v = some ls') : i < ls.length := by
  unfold mm_put1 at h
  split at h
  · rename_i x hx hok
    exact mm_nth_lt hx
  · cases h
theorem mm_put2_lt {ls ls' : mm_L} {i : Nat} {v : Value} (h : mm_put2 ls i v = some ls') : i + 1 < ls.length := by
  unfold mm_put2 at h
  split at h
  · rename_i x hx hok
    exact mm_nth_lt hx
  · cases h
/-- what an instruction of locals and stack must be in the code -/
def mm_okp (cc : ByteArray) (pc : Nat) (ins : Instr) (nx a : Nat) (sw : List (Int32 × Nat)) (lc : Int64) : Prop :=
  match ins with
  | .iconst i => decode cc pc = .ok (.iconst i, 1) ∧ nx = pc + 1 ∧ ∃ v r, sw = (v, r) :: [] ∧ Int32.ofInt i = v
  | .bipush i => decode cc pc = .ok (.bipush i, 2) ∧ nx = pc + 2 ∧ ∃ v r, sw = (v, r) :: [] ∧ (Int8.ofInt i).toInt32 = v
  | .sipush i => decode cc pc = .ok (.sipush i, 3) ∧ nx = pc + 3 ∧ ∃ v r, sw = (v, r) :: [] ∧ (Int16.ofInt i).toInt32 = v
  | .lconst i => decode cc pc = .ok (.lconst i, 1) ∧ nx = pc + 1 ∧ Int64.ofNat (i : Nat) = lc
  | .iload i => decode cc pc = .ok (.iload i, 2) ∧ nx = pc + 2 ∧ i = a
  | .lload i => decode cc pc = .ok (.lload i, 2) ∧ nx = pc + 2 ∧ i = a
  | .aload i => decode cc pc = .ok (.aload i, 2) ∧ nx = pc + 2 ∧ i = a
  | .iload_n i => decode cc pc = .ok (.iload_n i, 1) ∧ nx = pc + 1 ∧ (i : Nat) = a
  | .lload_n i => decode cc pc = .ok (.lload_n i, 1) ∧ nx = pc + 1 ∧ (i : Nat) = a
  | .aload_n i => decode cc pc = .ok (.aload_n i, 1) ∧ nx = pc + 1 ∧ (i : Nat) = a
  | .istore i => decode cc pc = .ok (.istore i, 2) ∧ nx = pc + 2 ∧ i = a
  | .lstore i => decode cc pc = .ok (.lstore i, 2) ∧ nx = pc + 2 ∧ i = a
  | .astore i => decode cc pc = .ok (.astore i, 2) ∧ nx = pc + 2 ∧ i = a
  | .istore_n i => decode cc pc = .ok (.istore_n i, 1) ∧ nx = pc + 1 ∧ (i : Nat) = a
  | .lstore_n i => decode cc pc = .ok (.lstore_n i, 1) ∧ nx = pc + 1 ∧ (i : Nat) = a
  | .astore_n i => decode cc pc = .ok (.astore_n i, 1) ∧ nx = pc + 1 ∧ (i : Nat) = a
  | .iinc i z => decode cc pc = .ok (.iinc i z, 3) ∧ nx = pc + 3 ∧ i = a ∧ ∃ v r, sw = (v, r) :: [] ∧ Int32.ofInt z = v
  | .iadd => decode cc pc = .ok (.iadd, 1) ∧ nx = pc + 1
  | .isub => decode cc pc = .ok (.isub, 1) ∧ nx = pc + 1
  | .imul => decode cc pc = .ok (.imul, 1) ∧ nx = pc + 1
  | .iand => decode cc pc = .ok (.iand, 1) ∧ nx = pc + 1
  | .ior => decode cc pc = .ok (.ior, 1) ∧ nx = pc + 1
  | .ixor => decode cc pc = .ok (.ixor, 1) ∧ nx = pc + 1
  | .ineg => decode cc pc = .ok (.ineg, 1) ∧ nx = pc + 1
  | .ishl => decode cc pc = .ok (.ishl, 1) ∧ nx = pc + 1
  | .ishr => decode cc pc = .ok (.ishr, 1) ∧ nx = pc + 1
  | .iushr => decode cc pc = .ok (.iushr, 1) ∧ nx = pc + 1
  | .ladd => decode cc pc = .ok (.ladd, 1) ∧ nx = pc + 1
  | .lmul => decode cc pc = .ok (.lmul, 1) ∧ nx = pc + 1
  | .land => decode cc pc = .ok (.land, 1) ∧ nx = pc + 1
  | .lor => decode cc pc = .ok (.lor, 1) ∧ nx = pc + 1
  | .lshl => decode cc pc = .ok (.lshl, 1) ∧ nx = pc + 1
  | .lshr => decode cc pc = .ok (.lshr, 1) ∧ nx = pc + 1
  | .lushr => decode cc pc = .ok (.lushr, 1) ∧ nx = pc + 1
  | .i2l => decode cc pc = .ok (.i2l, 1) ∧ nx = pc + 1
  | .l2i => decode cc pc = .ok (.l2i, 1) ∧ nx = pc + 1
  | .lcmp => decode cc pc = .ok (.lcmp, 1) ∧ nx = pc + 1
  | .dup => decode cc pc = .ok (.dup, 1) ∧ nx = pc + 1
  | .dup2 => decode cc pc = .ok (.dup2, 1) ∧ nx = pc + 1
  | _ => False
section MMP
variable {p : Program} {l : Launch} {e : Env} {R : Room} {s : State} {m : MethodId} {args : Array Value} {below : List Frame} {meth : Method} {c : Code} {H : Heap} {locs : List Loc} {cells slots : Nat} {Q : State → Prop}
variable {cc : ByteArray} {pc nx a : Nat} {lr : Array Slot} {g : Nat → Nat} {nL : Nat} {ls ls' : mm_L} {st st' : List Value} {sw : List (Int32 × Nat)} {lc : Int64}
set_option maxHeartbeats 4000000 in
theorem mm_pure_ok (hx : p.tables.exec = Jvm.exec) (hb : c.code = cc) (ins : Instr) (hok : mm_okp cc pc ins nx a sw lc) (hl : mm_LR g nL ls lr) (h : mm_pure ins a sw lc ls st = some (ls', st'))
    (kk : ∀ lr' : Array Slot, mm_LR g nL ls' lr' → W p l e R s m args below meth c H locs cells slots Q (F0 m nx lr' (st'.map (mm_v g)))) : W p l e R s m args below meth c H locs cells slots Q (F0 m pc lr (st.map (mm_v g))) := by
  have hlen := hl.1
  unfold mm_pure at h
  split at h
  -- iconst, bipush, sipush
  · obtain ⟨hd, rfl, v, r, rfl, hv⟩ := hok
    cases h
    exact lv_iconst hx hb hd hv (kk lr hl)
  · obtain ⟨hd, rfl, v, r, rfl, hv⟩ := hok
    cases h
    exact lv_bipush hx hb hd hv (kk lr hl)
  · obtain ⟨hd, rfl, v, r, rfl, hv⟩ := hok
    cases h
    exact lv_sipush hx hb hd hv (kk lr hl)
  · exact hok.elim
  · exact hok.elim
  · obtain ⟨hd, rfl, hv⟩ := hok
    cases h
    exact lv_lconst hx hb hd hv (kk lr hl)
  · exact hok.elim
  -- loads
  · obtain ⟨hd, rfl, rfl⟩ := hok
    split at h
    · rename_i x hi
      cases h
      exact lv_iload hx hb hd (hl.at hi) (kk lr hl)
    · cases h
  · obtain ⟨hd, rfl, hi0⟩ := hok
    split at h
    · rename_i x hi
      cases h
      exact lv_iload_n hx hb hd hi0 (hl.at hi) (kk lr hl)
    · cases h
  · obtain ⟨hd, rfl, rfl⟩ := hok
    split at h
    · rename_i x hi
      cases h
      exact lv_lload hx hb hd (hl.at hi) (kk lr hl)
    · cases h
  · obtain ⟨hd, rfl, hi0⟩ := hok
    split at h
    · rename_i x hi
      cases h
      exact lv_lload_n hx hb hd hi0 (hl.at hi) (kk lr hl)
    · cases h
  · obtain ⟨hd, rfl, rfl⟩ := hok
    split at h
    · rename_i x hi
      cases h
      exact lv_aload hx hb hd (hl.at hi) (kk lr hl)
    · cases h
  · obtain ⟨hd, rfl, hi0⟩ := hok
    split at h
    · rename_i x hi
      cases h
      exact lv_aload_n hx hb hd hi0 (hl.at hi) (kk lr hl)
    · cases h
  -- stores
  · obtain ⟨hd, rfl, rfl⟩ := hok
    split at h
    · rename_i x st0
      split at h
      · rename_i ls0 hp
        cases h
        exact lv_istore hx hb hd hl.has (by rw [← hlen]; exact mm_put1_lt hp) rfl (fun lr' h' => kk lr' (hl.put1 hp h'))
      · cases h
    · cases h
  · obtain ⟨hd, rfl, hi0⟩ := hok
    split at h
    · rename_i x st0
      split at h
      · rename_i ls0 hp
        cases h
        exact lv_istore_n hx hb hd hi0 hl.has (by rw [← hlen]; exact mm_put1_lt hp) rfl (fun lr' h' => kk lr' (hl.put1 hp h'))
      · cases h
    · cases h
  · obtain ⟨hd, rfl, rfl⟩ := hok
    split at h
    · rename_i x st0
      split at h
      · rename_i ls0 hp
        cases h
        exact lv_astore hx hb hd hl.has (by rw [← hlen]; exact mm_put1_lt hp) rfl (fun lr' h' => kk lr' (hl.put1 hp h'))
      · cases h
    · cases h
  · obtain ⟨hd, rfl, hi0⟩ := hok
    split at h
    · rename_i x st0
      split at h
      · rename_i ls0 hp
        cases h
        exact lv_astore_n hx hb hd hi0 hl.has (by rw [← hlen]; exact mm_put1_lt hp) rfl (fun lr' h' => kk lr' (hl.put1 hp h'))
      · cases h
    · cases h
  · obtain ⟨hd, rfl, rfl⟩ := hok
    split at h
    · rename_i x st0
      split at h
      · rename_i ls0 hp
        cases h
        exact lv_lstore hx hb hd hl.has (by rw [← hlen]; exact mm_put2_lt hp) rfl (fun lr' h' => kk lr' (hl.put2 hp h'))
      · cases h
    · cases h
  · obtain ⟨hd, rfl, hi0⟩ := hok
    split at h
    · rename_i x st0
      split at h
      · rename_i ls0 hp
        cases h
        exact lv_lstore_n hx hb hd hi0 hl.has (by rw [← hlen]; exact mm_put2_lt hp) rfl (fun lr' h' => kk lr' (hl.put2 hp h'))
      · cases h
    · cases h
  -- iinc
  · obtain ⟨hd, rfl, rfl, v, r, rfl, hv⟩ := hok
    split at h
    · rename_i x hi
      dsimp only at h
      split at h
      · rename_i ls0 hp
        cases h
        subst hv
        obtain ⟨j, hj⟩ := List.getElem?_of_mem ((mm_prs_mem ls 0 _).mpr ⟨_, _, hi, rfl⟩)
        rw [Nat.zero_add] at hj
        exact lv_iinc hx hb hd hl.has hj rfl (by rw [← hlen]; exact mm_put1_lt hp) rfl (fun lr' h' => kk lr' (hl.put1 hp h'))
      · cases h
    · cases h
  · obtain ⟨hd, rfl⟩ := hok
    split at h
    · cases h
      refine lv_iadd hx hb hd ?_
      exact kk lr hl
    · cases h
  · obtain ⟨hd, rfl⟩ := hok
    split at h
    · cases h
      refine lv_isub hx hb hd ?_
      exact kk lr hl
    · cases h
  · obtain ⟨hd, rfl⟩ := hok
    split at h
    · cases h
      refine lv_imul hx hb hd ?_
      exact kk lr hl
    · cases h
  · obtain ⟨hd, rfl⟩ := hok
    split at h
    · cases h
      refine lv_iand hx hb hd ?_
      exact kk lr hl
    · cases h
  · obtain ⟨hd, rfl⟩ := hok
    split at h
    · cases h
      refine lv_ior hx hb hd ?_
      exact kk lr hl
    · cases h
  · obtain ⟨hd, rfl⟩ := hok
    split at h
    · cases h
      refine lv_ixor hx hb hd ?_
      exact kk lr hl
    · cases h
  · obtain ⟨hd, rfl⟩ := hok
    split at h
    · cases h
      refine lv_ineg hx hb hd ?_
      exact kk lr hl
    · cases h
  · obtain ⟨hd, rfl⟩ := hok
    split at h
    · cases h
      refine lv_ishl hx hb hd ?_
      exact kk lr hl
    · cases h
  · obtain ⟨hd, rfl⟩ := hok
    split at h
    · cases h
      refine lv_ishr hx hb hd ?_
      exact kk lr hl
    · cases h
  · obtain ⟨hd, rfl⟩ := hok
    split at h
    · cases h
      refine lv_iushr hx hb hd rfl ?_
      exact kk lr hl
    · cases h
  · obtain ⟨hd, rfl⟩ := hok
    split at h
    · cases h
      refine lv_ladd hx hb hd ?_
      exact kk lr hl
    · cases h
  · obtain ⟨hd, rfl⟩ := hok
    split at h
    · cases h
      refine lv_lmul hx hb hd ?_
      exact kk lr hl
    · cases h
  · obtain ⟨hd, rfl⟩ := hok
    split at h
    · cases h
      refine lv_land hx hb hd ?_
      exact kk lr hl
    · cases h
  · obtain ⟨hd, rfl⟩ := hok
    split at h
    · cases h
      refine lv_lor hx hb hd ?_
      exact kk lr hl
    · cases h
  · obtain ⟨hd, rfl⟩ := hok
    split at h
    · cases h
      refine lv_lshl hx hb hd rfl ?_
      exact kk lr hl
    · cases h
  · obtain ⟨hd, rfl⟩ := hok
    split at h
    · cases h
      refine lv_lshr hx hb hd rfl ?_
      exact kk lr hl
    · cases h
  · obtain ⟨hd, rfl⟩ := hok
    split at h
    · cases h
      refine lv_lushr hx hb hd rfl ?_
      exact kk lr hl
    · cases h
  · obtain ⟨hd, rfl⟩ := hok
    split at h
    · cases h
      refine lv_i2l hx hb hd rfl ?_
      exact kk lr hl
    · cases h
  · obtain ⟨hd, rfl⟩ := hok
    split at h
    · cases h
      refine lv_l2i hx hb hd rfl ?_
      exact kk lr hl
    · cases h
  · obtain ⟨hd, rfl⟩ := hok
    split at h
    · cases h
      refine W.lcmp hx hb hd ?_
      exact kk lr hl
    · cases h
  · obtain ⟨hd, rfl⟩ := hok
    split at h
    · cases h
      refine lv_dup hx hb hd rfl ?_
      exact kk lr hl
    · cases h
      refine lv_dup hx hb hd rfl ?_
      exact kk lr hl
    · cases h
  · obtain ⟨hd, rfl⟩ := hok
    split at h
    · cases h
      refine lv_dup2_11 hx hb hd rfl rfl ?_
      exact kk lr hl
    · cases h
  · cases h
end MMP
