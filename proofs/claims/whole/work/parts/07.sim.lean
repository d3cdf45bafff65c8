/-! every instruction of the small machine is one of the machine's -/
/-- a method: name, bytes, size of its locals, what it returns, its receiver's class (and one; 0: static) -/
abbrev mm_N : Type := MethodName × ByteArray × Nat × Option FieldType × Nat
def mm_okY (q : mm_N) : Prop :=
  (Jvm.Cond.code q.1 q.2.1 q.2.2.1 q.2.2.2.1 ∈ lw_tbl ∧ Jvm.Cond.initialized q.1.cls ∈ lw_tbl ∧ Jvm.plainName q.1.cls = true ∧ q.2.2.1 ≤ 60) ∧ (q.1.cls ≠ "java/lang/invoke/MethodHandle" ∧ q.1.cls ≠ "java/lang/invoke/VarHandle") ∧
  match q.2.2.2.2 with
  | 0 => Jvm.Cond.static q.1 ∈ lw_tbl
  | ci + 1 => Jvm.Cond.instanceMethod q.1 ∈ lw_tbl ∧ ∃ w : vw_C, vwCl[ci]? = some w ∧ w.1 = q.1.cls
def mm_tsw (pc : Nat) : Int → List Int → List (Int32 × Nat) → Bool
  | _, [], [] => true
  | lo, o :: os, q :: r => decide (q.1.toInt = lo) && decide ((pc : Int) + o = (q.2 : Int)) && mm_tsw pc (lo + 1) os r
  | _, _, _ => false
def mm_lsw (pc : Nat) : List (Int × Int) → List (Int32 × Nat) → Bool
  | [], [] => true
  | o :: os, q :: r => decide (q.1.toInt = o.1) && decide ((pc : Int) + o.2 = (q.2 : Int)) && mm_lsw pc os r
  | _, _ => false
theorem mm_tsw_ok {pc : Nat} {x : Int32} {d : Prop} {f : Nat → Prop} : ∀ (os : List Int) (lo : Int) (sw : List (Int32 × Nat)), mm_tsw pc lo os sw = true → mm_sw x d f sw →
    (d ∧ (x.toInt < lo ∨ lo + os.length ≤ x.toInt)) ∨ ∃ (i : Nat) (o : Int) (t : Nat), os[i]? = some o ∧ x.toInt = lo + i ∧ (pc : Int) + o = (t : Int) ∧ f t
  | [], lo, [], _, h => Or.inl ⟨h, by simp only [List.length_nil]; omega⟩
  | o :: os, lo, q :: r, h, hs => by
    simp only [mm_tsw, Bool.and_eq_true, decide_eq_true_eq] at h
    obtain ⟨⟨h1, h2⟩, h3⟩ := h
    by_cases hx : x = q.1
    · exact Or.inr ⟨0, o, q.2, rfl, by rw [hx, h1]; simp, h2, hs.1 hx⟩
    · have hne : ¬ x.toInt = lo := fun e => hx (Int32.toInt_inj.mp (e.trans h1.symm))
      rcases mm_tsw_ok os (lo + 1) r h3 (hs.2 hx) with ⟨a, b⟩ | ⟨i, o', t, a1, a2, a3⟩
      · exact Or.inl ⟨a, by simp only [List.length_cons]; omega⟩
      · exact Or.inr ⟨i + 1, o', t, a1, by rw [a2]; push_cast; omega, a3⟩
  | [], _, _ :: _, h, _ => by cases h
  | _ :: _, _, [], h, _ => by cases h
theorem mm_lsw_ok {pc a : Nat} {df : Int} {x : Int32} {d : Prop} {f : Nat → Prop} (hd : (pc : Int) + df = (a : Int)) : ∀ (os : List (Int × Int)) (sw : List (Int32 × Nat)), mm_lsw pc os sw = true → mm_sw x d f sw →
    ∃ t : Nat, (pc : Int) + Op.lookupswitch.offset os df x.toInt = (t : Int) ∧ ((t = a ∧ d) ∨ f t)
  | [], [], _, h => ⟨a, hd, Or.inl ⟨rfl, h⟩⟩
  | o :: os, q :: r, h, hs => by
    simp only [mm_lsw, Bool.and_eq_true, decide_eq_true_eq] at h
    obtain ⟨⟨h1, h2⟩, h3⟩ := h
    obtain ⟨k, o⟩ := o
    rw [Op.lookupswitch.offset_cons]
    by_cases hx : x = q.1
    · rw [if_pos (by rw [hx]; exact h1.symm)]
      exact ⟨q.2, h2, Or.inr (hs.1 hx)⟩
    · rw [if_neg (fun e => hx (Int32.toInt_inj.mp (by rw [h1]; exact e.symm)))]
      exact mm_lsw_ok hd os r h3 (hs.2 hx)
  | [], _ :: _, h, _ => by cases h
  | _ :: _, [], h, _ => by cases h
/-- what an instruction must be in the code, and what the tables must say of it -/
def mm_oki (Y : Nat → mm_N) (own : String) (ini : Bool) (cc : ByteArray) (rt : Option FieldType) (Df : Nat → List Value) (pc : Nat) (ins : Instr) (nx a b : Nat) (sw : List (Int32 × Nat)) (lc : Int64) : Prop :=
  match ins with
  | .idiv => decode cc pc = .ok (.idiv, 1) ∧ nx = pc + 1
  | .irem => decode cc pc = .ok (.irem, 1) ∧ nx = pc + 1
  | .ldiv => decode cc pc = .ok (.ldiv, 1) ∧ nx = pc + 1
  | .lrem => decode cc pc = .ok (.lrem, 1) ∧ nx = pc + 1
  | .ifCond z o => decode cc pc = .ok (.ifCond z o, 3) ∧ nx = pc + 3 ∧ (pc : Int) + o = (a : Int)
  | .if_icmp z o => decode cc pc = .ok (.if_icmp z o, 3) ∧ nx = pc + 3 ∧ (pc : Int) + o = (a : Int)
  | .goto o => decode cc pc = .ok (.goto o, 3) ∧ (pc : Int) + o = (a : Int)
  | .tableswitch d lo hi os => (∃ len, decode cc pc = .ok (.tableswitch d lo hi os, len)) ∧ (pc : Int) + d = (a : Int) ∧ mm_tsw pc lo os.toList sw = true ∧ lo + os.toList.length = hi + 1
  | .lookupswitch d os => (∃ len, decode cc pc = .ok (.lookupswitch d os, len)) ∧ (pc : Int) + d = (a : Int) ∧ mm_lsw pc os.toList sw = true ∧ (os.toList.zip (os.toList.drop 1)).all (fun (a, next) => a.1 < next.1) = true
  | .getstatic idx => decode cc pc = .ok (.getstatic idx, 3) ∧ nx = pc + 3 ∧ 1 ≤ a ∧ a < 6 ∧ (Jvm.Cond.fieldLink own idx RX6 (mm_snm a) "[I" ∈ lw_tbl ∨ Jvm.Cond.fieldLinkNest own idx RX6 (mm_snm a) "[I" RX6 ∈ lw_tbl)
  | .getfield idx => decode cc pc = .ok (.getfield idx, 3) ∧ nx = pc + 3 ∧ ∃ q : vw_C, mm_okf own idx a b q
  | .putfield idx => decode cc pc = .ok (.putfield idx, 3) ∧ nx = pc + 3 ∧ (∃ q : vw_C, mm_okf own idx a b q ∧ ((q.2.1 b).2.2.2 = false ∨ (ini = true ∧ (q.2.1 b).1 = own))) ∧ ∀ v tag r, sw = (v, tag) :: r → mm_tagty tag (mm_ty a b) = true
  | .iaload => decode cc pc = .ok (.iaload, 1) ∧ nx = pc + 1
  | .baload => decode cc pc = .ok (.baload, 1) ∧ nx = pc + 1
  | .aaload => decode cc pc = .ok (.aaload, 1) ∧ nx = pc + 1
  | .iastore => decode cc pc = .ok (.iastore, 1) ∧ nx = pc + 1
  | .bastore => decode cc pc = .ok (.bastore, 1) ∧ nx = pc + 1
  | .aastore => decode cc pc = .ok (.aastore, 1) ∧ nx = pc + 1 ∧ a = 3
  | .arraylength => decode cc pc = .ok (.arraylength, 1) ∧ nx = pc + 1
  | .new idx => decode cc pc = .ok (.new idx, 3) ∧ nx = pc + 3 ∧ ∃ q : vw_C, vwCl[a]? = some q ∧ Jvm.Cond.classLink own idx q.1 ∈ lw_tbl ∧ Jvm.Cond.instantiable q.1 q.2.2 ∈ lw_tbl ∧ Jvm.Cond.initialized q.1 ∈ lw_tbl ∧ b = q.2.2 ∧ (∀ j, j < q.2.2 → defaultValue (mm_ty a j) = vp_V (Df a) j) ∧ ∀ v ∈ Df a, mm_v (fun x => x + 1) v = v
  | .newarray t => decode cc pc = .ok (.newarray t, 2) ∧ nx = pc + 2 ∧ b < 100000 ∧ ((t = .int ∧ a = 0 ∧ Jvm.Cond.arrayClass .int ∈ lw_tbl) ∨ (t = .boolean ∧ a = 1 ∧ Jvm.Cond.arrayClass .boolean ∈ lw_tbl))
  | .anewarray idx => decode cc pc = .ok (.anewarray idx, 3) ∧ nx = pc + 3 ∧ b < 100000 ∧ Jvm.Cond.classLink own idx RX3 ∈ lw_tbl
  | .invokevirtual idx => (decode cc pc = .ok (.invokevirtual idx, 3) ∧ nx = pc + 3 ∧ mm_okY (Y a)) ∧ (∃ ci, (Y a).2.2.2.2 = ci + 1) ∧ Jvm.Cond.methodLink own idx (Y a).1 ∈ lw_tbl ∧ Jvm.Cond.selects (Y a).1.cls (Y a).1 (Y a).1 ∈ lw_tbl ∧ ∃ np, b = np + 1 ∧ (parseMethodDescriptor (Y a).1.desc).map (fun d => d.parameters.length) = some np
  | .invokestatic idx => (decode cc pc = .ok (.invokestatic idx, 3) ∧ nx = pc + 3) ∧ ((lc = 0 ∧ mm_okY (Y a) ∧ (Y a).2.2.2.2 = 0 ∧ (Jvm.Cond.methodLink own idx (Y a).1 ∈ lw_tbl ∨ Jvm.Cond.methodLinkNest own idx (Y a).1 RX6 ∈ lw_tbl) ∧ (parseMethodDescriptor (Y a).1.desc).map (fun d => d.parameters.length) = some b) ∨
      (lc = 1 ∧ Jvm.Cond.methodLink own idx arraycopyName ∈ lw_tbl ∧ Jvm.Cond.native arraycopyName ∈ lw_tbl ∧ Jvm.Cond.static arraycopyName ∈ lw_tbl ∧ Jvm.Cond.initialized "java/lang/System" ∈ lw_tbl) ∨
      (lc = 2 ∧ Jvm.Cond.methodLink own idx Lib.Math.max.name ∈ lw_tbl ∧ Jvm.Cond.static Lib.Math.max.name ∈ lw_tbl ∧ Jvm.Cond.initialized "java/lang/Math" ∈ lw_tbl ∧ Jvm.Cond.code Lib.Math.max.name Lib.Math.max.code 2 (some .int) ∈ lw_tbl))
  | .invokespecial idx => (decode cc pc = .ok (.invokespecial idx, 3) ∧ nx = pc + 3) ∧ ((lc = 0 ∧ mm_okY (Y a) ∧ (∃ ci, (Y a).2.2.2.2 = ci + 1) ∧ (Y a).1.name = "<init>" ∧ (Y a).2.2.2.1 = none ∧ (Jvm.Cond.methodLink own idx (Y a).1 ∈ lw_tbl ∨ Jvm.Cond.methodLinkNest own idx (Y a).1 RX6 ∈ lw_tbl) ∧ ∃ np, b = np + 1 ∧ (parseMethodDescriptor (Y a).1.desc).map (fun d => d.parameters.length) = some np) ∨
      (lc = 1 ∧ Jvm.Cond.methodLink own idx Lib.objectInit ∈ lw_tbl ∧ Jvm.Cond.instanceMethod Lib.objectInit ∈ lw_tbl ∧ Jvm.Cond.code Lib.objectInit ⟨#[0xb1]⟩ 1 none ∈ lw_tbl))
  | .ireturn => decode cc pc = .ok (.ireturn, 1) ∧ ((a = 0 ∧ rt = some .int) ∨ (a = 1 ∧ rt = some .boolean))
  | .lreturn => decode cc pc = .ok (.lreturn, 1) ∧ rt = some .long
  | .return_ => decode cc pc = .ok (.return_, 1) ∧ rt = none
  | .ldc_w idx => decode cc pc = .ok (.ldc_w idx, 3) ∧ nx = pc + 3 ∧ ∃ v r, sw = (v, r) :: [] ∧ Jvm.Cond.constant own idx v ∈ lw_tbl
  | .ldc idx => decode cc pc = .ok (.ldc idx, 2) ∧ nx = pc + 2 ∧ ∃ v r, sw = (v, r) :: [] ∧ Jvm.Cond.constant own idx v ∈ lw_tbl
  | .ldc2_w idx => decode cc pc = .ok (.ldc2_w idx, 3) ∧ nx = pc + 3 ∧ Jvm.Cond.constantLong own idx lc ∈ lw_tbl
  | _ => mm_okp cc pc ins nx a sw lc
def mm_isret (rt : Option FieldType) : Instr → Option Value → Prop
  | .ireturn, some (.int x) => rt = some .int ∨ (rt = some .boolean ∧ fits .boolean (.int x) = true)
  | .lreturn, some (.long _) => rt = some .long
  | .return_, none => rt = none
  | _, _ => False
def mm_room (d : Nat) (al : Nat × Nat) : Room := { frames := d, cells := al.1, slots := al.2, locals := 100 * d + 2000 }
/-- the machine's side of a call -/
def mm_Met (l : Launch) (g : Nat → Nat) (base : Nat) (dC : Nat → ClassId) (dI : Nat → Nat → Nat) (cA : Nat → ClassId) (sN : Nat → Nat) (sf : Nat → Nat → Int32) (d : Nat) (al : Nat × Nat) (q : mm_N) (as : List Value) (mem : mm_M) (Q1 : mm_Q) : Prop :=
  mm_recv q.2.2.2.2 as mem ∧ Met l q.1 [Jvm.Cond.code q.1 q.2.1 q.2.2.1 q.2.2.2.1] (mm_room d al)
    (fun v U => v = (as.map (mm_v g)).toArray ∧ mm_Vm dC dI cA U ∧ mm_St g base sN sf U U.heap ∧ mm_Rep g base dC dI cA sN sf mem U.heap)
    (fun _ st o t => (∃ (r : Option Value) (mem' : mm_M), o = .returned (r.map (mm_v g)) ∧ Q1 r mem' ∧ mm_Rep g base dC dI cA sN sf mem' t.heap) ∧ va_F (fun q => base ≤ q) st t) al.1 al.2 (fun q => base ≤ q)
theorem mm_blind {g : Nat → Nat} {base : Nat} {dC : Nat → ClassId} {dI : Nat → Nat → Nat} {cA : Nat → ClassId} {sN : Nat → Nat} {sf : Nat → Nat → Int32} {as : List Value} {mem : mm_M} :
    FrameBlind (fun v U => v = (as.map (mm_v g)).toArray ∧ mm_Vm dC dI cA U ∧ mm_St g base sN sf U U.heap ∧ mm_Rep g base dC dI cA sN sf mem U.heap) := by
  intro a U gg mk h
  obtain ⟨h1, h2, h3, h4⟩ := h
  exact ⟨h1, h2.moved (s := U) (U := U.calling gg mk a) (State.WarmedH.refl U), h3.moved (u := U) (U := U.calling gg mk a) (Vm.Alike.refl U.vm), h4⟩
section MMS
variable {p : Program} {l : Launch} {e : Env} {R : Room} {s : State} {m : MethodId} {args : Array Value} {below : List Frame} {meth : Method} {c : Code} {H : Heap} {locs : List Loc} {cells slots : Nat} {Q : State → Prop}
variable {cc : ByteArray} {pc : Nat} {lr : Array Slot} {own : String} {g : Nat → Nat} {base : Nat} {dC : Nat → ClassId} {dI : Nat → Nat → Nat} {cA : Nat → ClassId} {sN : Nat → Nat} {sf : Nat → Nat → Int32} {mem : mm_M} {rest : List Value}
/-- behind a call -/
theorem mm_after {mc ms : Nat} {Q1 : mm_Q} {a : Array Value} {st0 : List Value} (hr : va_Run p l e R s m args below meth c H locs cells slots mc ms (F0 m pc lr st0) rest
      ((fun _ st o t => (∃ (r : Option Value) (mem' : mm_M), o = .returned (r.map (mm_v g)) ∧ Q1 r mem' ∧ mm_Rep g base dC dI cA sN sf mem' t.heap) ∧ va_F (fun q => base ≤ q) st t) a) (fun q => base ≤ q)) (hS : va_S (fun q => base ≤ q) s.heap H locs)
    (kk : ∀ (r : Option Value) (mem' : mm_M) (H1 : Heap) (locs1 : List Loc), Q1 r mem' → mm_Rep g base dC dI cA sN sf mem' H1 → va_S (fun q => base ≤ q) s.heap H1 locs1 → W p l e R s m args below meth c H1 locs1 (cells + mc) (slots + ms) Q (F0 m (pc + 3) lr ((r.map (mm_v g)).toList ++ rest))) : W p l e R s m args below meth c H locs cells slots Q (F0 m pc lr st0) := by
  intro T hT X
  obtain ⟨v, st₀, t, T', L, h0, X', hL, e1, e2, ⟨⟨r, mem', hv, hq, hrep⟩, hz, hk⟩, st⟩ := hr T hT X
  cases hv
  rw [h0] at hz hk
  obtain ⟨t2, a1, b1⟩ := kk r mem' T'.heap (locs ++ L) hq (by rw [e1]; exact hrep)
    ⟨Nat.le_trans hS.1 (by rw [e1]; exact hz), fun q h1 h2 => by rw [e1, hk q (Nat.lt_of_lt_of_le h1 hS.1) h2]; exact hS.2.1 q h1 h2, fun q hq => by
      rcases List.mem_append.mp hq with h | h
      · exact hS.2.2 q h
      · exact hL q h⟩ T' rfl X'
  exact ⟨t2, st t2 a1, b1⟩
theorem mm_pop_spec : ∀ (b : Nat) (acc st as rest : List Value), mm_pop b acc st = some (as, rest) → ∃ pre : List Value, st = pre ++ rest ∧ as = pre.reverse ++ acc ∧ pre.length = b
  | 0, acc, st, as, rest, h => by
    cases h
    exact ⟨[], rfl, rfl, rfl⟩
  | b + 1, acc, v :: st, as, rest, h => by
    obtain ⟨pre, h1, h2, h3⟩ := mm_pop_spec b (v :: acc) st as rest h
    exact ⟨v :: pre, by rw [h1]; rfl, by rw [h2]; simp, by simp [h3]⟩
  | _ + 1, _, [], _, _, h => by cases h
theorem mm_callW (X : mm_Cx p s m c cc own g base dC dI cA sN sf) {d nL idx : Nat} {al : Nat × Nat} {y : mm_N} (hml : c.maxLocals = nL) (hRm : d + 1 ≤ R.frames ∧ 100 * d + 2100 ≤ R.locals) (hY : mm_okY y) (hlink : (Jvm.Cond.methodLink own idx y.1).before args s = true) {np : Nat} (hnp : (parseMethodDescriptor y.1.desc).map (fun d => d.parameters.length) = some np) :
    CallB R s args own idx y.1 y.2.1 y.2.2.1 y.2.2.2.1 [Jvm.Cond.code y.1 y.2.1 y.2.2.1 y.2.2.2.1] (mm_room d al) al.1 al.2 np := by
  obtain ⟨hx, hb, hown, hV, hSt, hbs, hg⟩ := X
  obtain ⟨⟨h1, h2, h3, h4⟩, h5, h6⟩ := hY
  refine ⟨rfl, rfl, hRm.1, by show 8 + (y.2.2.1 + 11) + (100 * d + 2000) ≤ _; omega, fun w hw a' U hW => ?_, List.mem_singleton.mpr rfl, hV.word h1 rfl args, hV.word h2 rfl args, h5, fun sig h => ?_, hlink⟩
  · rw [List.mem_singleton.mp hw]
    exact word_at hW (good_of_word rfl) (hV.word h1 rfl args)
  · rw [h] at hnp
    exact (Option.some.inj hnp).symm
theorem mm_callN (X : mm_Cx p s m c cc own g base dC dI cA sN sf) {d nL idx : Nat} {al : Nat × Nat} {y : mm_N} (hml : c.maxLocals = nL) (hRm : d + 1 ≤ R.frames ∧ 100 * d + 2100 ≤ R.locals) (hY : mm_okY y) (hlink : (Jvm.Cond.methodLinkNest own idx y.1 RX6).before args s = true) {np : Nat} (hnp : (parseMethodDescriptor y.1.desc).map (fun d => d.parameters.length) = some np) :
    va_CN R s args own idx y.1 RX6 y.2.1 y.2.2.1 y.2.2.2.1 [Jvm.Cond.code y.1 y.2.1 y.2.2.1 y.2.2.2.1] (mm_room d al) al.1 al.2 np := by
  obtain ⟨hx, hb, hown, hV, hSt, hbs, hg⟩ := X
  obtain ⟨⟨h1, h2, h3, h4⟩, h5, h6⟩ := hY
  refine ⟨⟨rfl, rfl, hRm.1, by show 8 + (y.2.2.1 + 11) + (100 * d + 2000) ≤ _; omega, fun w hw a' U hW => ?_, List.mem_singleton.mpr rfl⟩, hV.word h1 rfl args, hV.word h2 rfl args, h5, fun sig h => ?_, hlink⟩
  · rw [List.mem_singleton.mp hw]
    exact word_at hW (good_of_word rfl) (hV.word h1 rfl args)
  · rw [h] at hnp
    exact (Option.some.inj hnp).symm
theorem mm_pre (X : mm_Cx p s m c cc own g base dC dI cA sN sf) (hR : mm_Rep g base dC dI cA sN sf mem H) (hS : va_S (fun q => base ≤ q) s.heap H locs) {as : List Value} :
    PreS s H (fun v U => v = (as.map (mm_v g)).toArray ∧ mm_Vm dC dI cA U ∧ mm_St g base sN sf U U.heap ∧ mm_Rep g base dC dI cA sN sf mem U.heap) (as.map (mm_v g)) := by
  obtain ⟨hx, hb, hown, hV, hSt, hbs, hg⟩ := X
  refine ⟨mm_blind, fun U hU hW => ⟨rfl, hV.moved hW, ?_, by rw [hU]; exact hR⟩⟩
  rw [hU]
  exact (hSt.kept (fun a h1 h2 => hS.2.1 a h1 h2)).moved hW.alike
end MMS
