/-! a check, by program, that resolved code is the code -/
def mm_d (cc : ByteArray) (pc : Nat) (ins : Instr) (len nx : Nat) : Bool := decide (decode cc pc = .ok (ins, len)) && Nat.beq nx (pc + len)
theorem mm_d_ok {cc : ByteArray} {pc : Nat} {ins : Instr} {len nx : Nat} (h : mm_d cc pc ins len nx = true) : decode cc pc = .ok (ins, len) ∧ nx = pc + len := by
  unfold mm_d at h
  rw [Bool.and_eq_true, decide_eq_true_eq] at h
  exact ⟨h.1, Nat.eq_of_beq_eq_true h.2⟩
def mm_w (i : Nat) (w : Jvm.Cond) : Bool := decide (lw_tbl[i]? = some w)
theorem mm_w_ok {i : Nat} {w : Jvm.Cond} (h : mm_w i w = true) : w ∈ lw_tbl := List.mem_of_getElem? (of_decide_eq_true h)
def mm_c1 (v : Int32) : List (Int32 × Nat) → Bool
  | [q] => decide (v = q.1)
  | _ => false
theorem mm_c1_ok {v : Int32} {sw : List (Int32 × Nat)} (h : mm_c1 v sw = true) : ∃ z r, sw = (z, r) :: [] ∧ v = z := by
  unfold mm_c1 at h
  split at h
  · rename_i q
    exact ⟨q.1, q.2, rfl, of_decide_eq_true h⟩
  · cases h
def mm_chkp (cc : ByteArray) (pc : Nat) (ins : Instr) (nx a : Nat) (sw : List (Int32 × Nat)) (lc : Int64) : Bool :=
  match ins with
  | .iconst i => mm_d cc pc (.iconst i) 1 nx && mm_c1 (Int32.ofInt i) sw
  | .bipush i => mm_d cc pc (.bipush i) 2 nx && mm_c1 ((Int8.ofInt i).toInt32) sw
  | .sipush i => mm_d cc pc (.sipush i) 3 nx && mm_c1 ((Int16.ofInt i).toInt32) sw
  | .lconst i => mm_d cc pc (.lconst i) 1 nx && decide (Int64.ofNat (i : Nat) = lc)
  | .iload i => mm_d cc pc (.iload i) 2 nx && Nat.beq i a
  | .lload i => mm_d cc pc (.lload i) 2 nx && Nat.beq i a
  | .aload i => mm_d cc pc (.aload i) 2 nx && Nat.beq i a
  | .iload_n i => mm_d cc pc (.iload_n i) 1 nx && Nat.beq i a
  | .lload_n i => mm_d cc pc (.lload_n i) 1 nx && Nat.beq i a
  | .aload_n i => mm_d cc pc (.aload_n i) 1 nx && Nat.beq i a
  | .istore i => mm_d cc pc (.istore i) 2 nx && Nat.beq i a
  | .lstore i => mm_d cc pc (.lstore i) 2 nx && Nat.beq i a
  | .astore i => mm_d cc pc (.astore i) 2 nx && Nat.beq i a
  | .istore_n i => mm_d cc pc (.istore_n i) 1 nx && Nat.beq i a
  | .lstore_n i => mm_d cc pc (.lstore_n i) 1 nx && Nat.beq i a
  | .astore_n i => mm_d cc pc (.astore_n i) 1 nx && Nat.beq i a
  | .iinc i z => mm_d cc pc (.iinc i z) 3 nx && (Nat.beq i a && mm_c1 (Int32.ofInt z) sw)
  | .iadd => mm_d cc pc .iadd 1 nx
  | .isub => mm_d cc pc .isub 1 nx
  | .imul => mm_d cc pc .imul 1 nx
  | .iand => mm_d cc pc .iand 1 nx
  | .ior => mm_d cc pc .ior 1 nx
  | .ixor => mm_d cc pc .ixor 1 nx
  | .ineg => mm_d cc pc .ineg 1 nx
  | .ishl => mm_d cc pc .ishl 1 nx
  | .ishr => mm_d cc pc .ishr 1 nx
  | .iushr => mm_d cc pc .iushr 1 nx
  | .ladd => mm_d cc pc .ladd 1 nx
  | .lmul => mm_d cc pc .lmul 1 nx
  | .land => mm_d cc pc .land 1 nx
  | .lor => mm_d cc pc .lor 1 nx
  | .lshl => mm_d cc pc .lshl 1 nx
  | .lshr => mm_d cc pc .lshr 1 nx
  | .lushr => mm_d cc pc .lushr 1 nx
  | .i2l => mm_d cc pc .i2l 1 nx
  | .l2i => mm_d cc pc .l2i 1 nx
  | .lcmp => mm_d cc pc .lcmp 1 nx
  | .dup => mm_d cc pc .dup 1 nx
  | .dup2 => mm_d cc pc .dup2 1 nx
  | _ => false
theorem mm_chkp_ok {cc : ByteArray} {pc : Nat} {ins : Instr} {nx a : Nat} {sw : List (Int32 × Nat)} {lc : Int64} (h : mm_chkp cc pc ins nx a sw lc = true) : mm_okp cc pc ins nx a sw lc := by
  have k3 : ∀ {b d : Bool}, (b && d) = true → b = true ∧ d = true := fun {b d} h => (Bool.and_eq_true b d) ▸ h
  cases ins
  all_goals first
    | (cases h; done)
    | exact mm_d_ok h
    | exact ⟨(mm_d_ok (k3 h).1).1, (mm_d_ok (k3 h).1).2, mm_c1_ok (k3 h).2⟩
    | exact ⟨(mm_d_ok (k3 h).1).1, (mm_d_ok (k3 h).1).2, Nat.eq_of_beq_eq_true (k3 h).2⟩
    | exact ⟨(mm_d_ok (k3 h).1).1, (mm_d_ok (k3 h).1).2, of_decide_eq_true (k3 h).2⟩
    | exact ⟨(mm_d_ok (k3 h).1).1, (mm_d_ok (k3 h).1).2, Nat.eq_of_beq_eq_true (k3 (k3 h).2).1, mm_c1_ok (k3 (k3 h).2).2⟩
/-- the check of one instruction; nM: how many methods there are -/
def mm_chk (nM : Nat) (Y : Nat → mm_N) (own : String) (ini : Bool) (cc : ByteArray) (rt : Option FieldType) (pc : Nat) (ins : Instr) (nx a b : Nat) (sw : List (Int32 × Nat)) (lc : Int64) (ps : List Nat) : Bool :=
  match ins with
  | .idiv => mm_d cc pc .idiv 1 nx
  | .irem => mm_d cc pc .irem 1 nx
  | .ldiv => mm_d cc pc .ldiv 1 nx
  | .lrem => mm_d cc pc .lrem 1 nx
  | .ifCond z o => mm_d cc pc (.ifCond z o) 3 nx && decide ((pc : Int) + o = (a : Int))
  | .if_icmp z o => mm_d cc pc (.if_icmp z o) 3 nx && decide ((pc : Int) + o = (a : Int))
  | .goto o => mm_d cc pc (.goto o) 3 nx && decide ((pc : Int) + o = (a : Int))
  | .tableswitch d lo hi os => mm_d cc pc (.tableswitch d lo hi os) (nx - pc) nx && (decide ((pc : Int) + d = (a : Int)) && (mm_tsw pc lo os.toList sw && decide (lo + os.toList.length = hi + 1)))
  | .lookupswitch d os => mm_d cc pc (.lookupswitch d os) (nx - pc) nx && (decide ((pc : Int) + d = (a : Int)) && (mm_lsw pc os.toList sw && (os.toList.zip (os.toList.drop 1)).all (fun (a, next) => a.1 < next.1)))
  | .getstatic idx => mm_d cc pc (.getstatic idx) 3 nx && (Nat.ble 1 a && (Nat.blt a 6 && match ps with
    | [0, i] => mm_w i (.fieldLink own idx RX6 (mm_snm a) "[I")
    | [1, i] => mm_w i (.fieldLinkNest own idx RX6 (mm_snm a) "[I" RX6)
    | _ => false))
  | .getfield idx => mm_d cc pc (.getfield idx) 3 nx && match vwCl[a]?, ps with
    | some q, [i] => Nat.blt b q.2.2 && mm_w i (.fieldLink own idx (q.2.1 b).1 (q.2.1 b).2.1 (q.2.1 b).2.2.1)
    | _, _ => false
  | .putfield idx => mm_d cc pc (.putfield idx) 3 nx && match vwCl[a]?, ps, sw with
    | some q, [i], [z] => (Nat.blt b q.2.2 && mm_w i (.fieldLink own idx (q.2.1 b).1 (q.2.1 b).2.1 (q.2.1 b).2.2.1)) && ((!(q.2.1 b).2.2.2 || (ini && decide ((q.2.1 b).1 = own))) && mm_tagty z.2 (mm_ty a b))
    | _, _, _ => false
  | .iaload => mm_d cc pc .iaload 1 nx
  | .baload => mm_d cc pc .baload 1 nx
  | .aaload => mm_d cc pc .aaload 1 nx
  | .iastore => mm_d cc pc .iastore 1 nx
  | .bastore => mm_d cc pc .bastore 1 nx
  | .aastore => mm_d cc pc .aastore 1 nx && Nat.beq a 3
  | .arraylength => mm_d cc pc .arraylength 1 nx
  | .new idx => mm_d cc pc (.new idx) 3 nx && match vwCl[a]?, ps with
    | some q, [i, j, k] => mm_w i (.classLink own idx q.1) && (mm_w j (.instantiable q.1 q.2.2) && (mm_w k (.initialized q.1) && Nat.beq b q.2.2))
    | _, _ => false
  | .newarray t => mm_d cc pc (.newarray t) 2 nx && (Nat.blt b 100000 && match t, ps with
    | .int, [i] => Nat.beq a 0 && mm_w i (.arrayClass .int)
    | .boolean, [i] => Nat.beq a 1 && mm_w i (.arrayClass .boolean)
    | _, _ => false)
  | .anewarray idx => mm_d cc pc (.anewarray idx) 3 nx && (Nat.blt b 100000 && match ps with
    | [i] => mm_w i (.classLink own idx RX3)
    | _ => false)
  | .invokevirtual idx => mm_d cc pc (.invokevirtual idx) 3 nx && (Nat.blt a nM && match ps, (Y a).2.2.2.2, b with
    | [i, j], _ + 1, np + 1 => mm_w i (.methodLink own idx (Y a).1) && (mm_w j (.selects (Y a).1.cls (Y a).1 (Y a).1) && decide ((parseMethodDescriptor (Y a).1.desc).map (fun d => d.parameters.length) = some np))
    | _, _, _ => false)
  | .invokestatic idx => mm_d cc pc (.invokestatic idx) 3 nx && match ps with
    | [0, i] => decide (lc = 0) && (Nat.blt a nM && (Nat.beq (Y a).2.2.2.2 0 && (mm_w i (.methodLink own idx (Y a).1) && decide ((parseMethodDescriptor (Y a).1.desc).map (fun d => d.parameters.length) = some b))))
    | [1, i] => decide (lc = 0) && (Nat.blt a nM && (Nat.beq (Y a).2.2.2.2 0 && (mm_w i (.methodLinkNest own idx (Y a).1 RX6) && decide ((parseMethodDescriptor (Y a).1.desc).map (fun d => d.parameters.length) = some b))))
    | [i, j, k, t] => decide (lc = 1) && (mm_w i (.methodLink own idx arraycopyName) && (mm_w j (.native arraycopyName) && (mm_w k (.static arraycopyName) && mm_w t (.initialized "java/lang/System"))))
    | [i, j, k, t, _] => decide (lc = 2) && (mm_w i (.methodLink own idx Lib.Math.max.name) && (mm_w j (.static Lib.Math.max.name) && (mm_w k (.initialized "java/lang/Math") && mm_w t (.code Lib.Math.max.name Lib.Math.max.code 2 (some .int)))))
    | _ => false
  | .invokespecial idx => mm_d cc pc (.invokespecial idx) 3 nx && match ps with
    | [0, i] => decide (lc = 0) && (Nat.blt a nM && ((decide ((Y a).1.name = "<init>") && decide ((Y a).2.2.2.1 = none)) && (mm_w i (.methodLink own idx (Y a).1) && match (Y a).2.2.2.2, b with
      | _ + 1, np + 1 => decide ((parseMethodDescriptor (Y a).1.desc).map (fun d => d.parameters.length) = some np)
      | _, _ => false)))
    | [1, i] => decide (lc = 0) && (Nat.blt a nM && ((decide ((Y a).1.name = "<init>") && decide ((Y a).2.2.2.1 = none)) && (mm_w i (.methodLinkNest own idx (Y a).1 RX6) && match (Y a).2.2.2.2, b with
      | _ + 1, np + 1 => decide ((parseMethodDescriptor (Y a).1.desc).map (fun d => d.parameters.length) = some np)
      | _, _ => false)))
    | [i, j, k] => decide (lc = 1) && (mm_w i (.methodLink own idx Lib.objectInit) && (mm_w j (.instanceMethod Lib.objectInit) && mm_w k (.code Lib.objectInit ⟨#[0xb1]⟩ 1 none)))
    | _ => false
  | .ireturn => mm_d cc pc .ireturn 1 nx && ((Nat.beq a 0 && decide (rt = some .int)) || (Nat.beq a 1 && decide (rt = some .boolean)))
  | .lreturn => mm_d cc pc .lreturn 1 nx && decide (rt = some .long)
  | .return_ => mm_d cc pc .return_ 1 nx && decide (rt = none)
  | .ldc_w idx => mm_d cc pc (.ldc_w idx) 3 nx && match sw, ps with
    | [q], [i] => mm_w i (.constant own idx q.1)
    | _, _ => false
  | .ldc idx => mm_d cc pc (.ldc idx) 2 nx && match sw, ps with
    | [q], [i] => mm_w i (.constant own idx q.1)
    | _, _ => false
  | .ldc2_w idx => mm_d cc pc (.ldc2_w idx) 3 nx && match ps with
    | [i] => mm_w i (.constantLong own idx lc)
    | _ => false
  | _ => mm_chkp cc pc ins nx a sw lc
set_option maxHeartbeats 4000000 in
theorem mm_chk_ok {nM : Nat} {Y : Nat → mm_N} {own : String} {ini : Bool} {cc : ByteArray} {rt : Option FieldType} {Df : Nat → List Value} (hY : ∀ j, j < nM → mm_okY (Y j)) (hD : ∀ (a : Nat) (q : vw_C), vwCl[a]? = some q → (∀ j, j < q.2.2 → defaultValue (mm_ty a j) = vp_V (Df a) j) ∧ ∀ v ∈ Df a, mm_v (fun x => x + 1) v = v)
    {pc : Nat} {ins : Instr} {nx a b : Nat} {sw : List (Int32 × Nat)} {lc : Int64} {ps : List Nat} (h : mm_chk nM Y own ini cc rt pc ins nx a b sw lc ps = true) : mm_oki Y own ini cc rt Df pc ins nx a b sw lc := by
  have k3 : ∀ {b d : Bool}, (b && d) = true → b = true ∧ d = true := fun {b d} h => (Bool.and_eq_true b d) ▸ h
  unfold mm_chk at h
  split at h
  · exact mm_d_ok h
  · exact mm_d_ok h
  · exact mm_d_ok h
  · exact mm_d_ok h
  · exact ⟨(mm_d_ok (k3 h).1).1, (mm_d_ok (k3 h).1).2, of_decide_eq_true (k3 h).2⟩
  · exact ⟨(mm_d_ok (k3 h).1).1, (mm_d_ok (k3 h).1).2, of_decide_eq_true (k3 h).2⟩
  · exact ⟨(mm_d_ok (k3 h).1).1, of_decide_eq_true (k3 h).2⟩
  · obtain ⟨h1, h2⟩ := k3 h
    obtain ⟨h2, h3⟩ := k3 h2
    obtain ⟨h3, h4⟩ := k3 h3
    exact ⟨⟨_, (mm_d_ok h1).1⟩, of_decide_eq_true h2, h3, of_decide_eq_true h4⟩
  · obtain ⟨h1, h2⟩ := k3 h
    obtain ⟨h2, h3⟩ := k3 h2
    obtain ⟨h3, h4⟩ := k3 h3
    exact ⟨⟨_, (mm_d_ok h1).1⟩, of_decide_eq_true h2, h3, h4⟩
  · obtain ⟨h1, h2⟩ := k3 h
    obtain ⟨h2, h3⟩ := k3 h2
    obtain ⟨h3, h4⟩ := k3 h3
    refine ⟨(mm_d_ok h1).1, (mm_d_ok h1).2, Nat.le_of_ble_eq_true h2, Nat.le_of_ble_eq_true h3, ?_⟩
    split at h4
    · exact Or.inl (mm_w_ok h4)
    · exact Or.inr (mm_w_ok h4)
    · cases h4
  · obtain ⟨h1, h2⟩ := k3 h
    refine ⟨(mm_d_ok h1).1, (mm_d_ok h1).2, ?_⟩
    split at h2
    · rename_i q i hq
      obtain ⟨h2, h3⟩ := k3 h2
      exact ⟨q, hq, Nat.le_of_ble_eq_true h2, mm_w_ok h3⟩
    · cases h2
  · obtain ⟨h1, h2⟩ := k3 h
    refine ⟨(mm_d_ok h1).1, (mm_d_ok h1).2, ?_⟩
    split at h2
    · rename_i q i z hq
      obtain ⟨h2, h3⟩ := k3 h2
      obtain ⟨h4, h5⟩ := k3 h2
      obtain ⟨h6, h7⟩ := k3 h3
      refine ⟨⟨q, ⟨hq, Nat.le_of_ble_eq_true h4, mm_w_ok h5⟩, ?_⟩, fun v tag r hz => ?_⟩
      · rw [Bool.or_eq_true, Bool.and_eq_true, decide_eq_true_eq, Bool.not_eq_true'] at h6
        exact h6
      · cases hz
        exact h7
    · cases h2
  · exact mm_d_ok h
  · exact mm_d_ok h
  · exact mm_d_ok h
  · exact mm_d_ok h
  · exact mm_d_ok h
  · exact ⟨(mm_d_ok (k3 h).1).1, (mm_d_ok (k3 h).1).2, Nat.eq_of_beq_eq_true (k3 h).2⟩
  · exact mm_d_ok h
  · obtain ⟨h1, h2⟩ := k3 h
    refine ⟨(mm_d_ok h1).1, (mm_d_ok h1).2, ?_⟩
    split at h2
    · rename_i q i j k hq
      obtain ⟨h2, h3⟩ := k3 h2
      obtain ⟨h3, h4⟩ := k3 h3
      obtain ⟨h4, h5⟩ := k3 h4
      obtain ⟨d1, d2⟩ := hD a q hq
      exact ⟨q, hq, mm_w_ok h2, mm_w_ok h3, mm_w_ok h4, Nat.eq_of_beq_eq_true h5, d1, d2⟩
    · cases h2
  · obtain ⟨h1, h2⟩ := k3 h
    obtain ⟨h2, h3⟩ := k3 h2
    refine ⟨(mm_d_ok h1).1, (mm_d_ok h1).2, Nat.le_of_ble_eq_true h2, ?_⟩
    split at h3
    · obtain ⟨h4, h5⟩ := k3 h3
      exact Or.inl ⟨rfl, Nat.eq_of_beq_eq_true h4, mm_w_ok h5⟩
    · obtain ⟨h4, h5⟩ := k3 h3
      exact Or.inr ⟨rfl, Nat.eq_of_beq_eq_true h4, mm_w_ok h5⟩
    · cases h3
  · obtain ⟨h1, h2⟩ := k3 h
    obtain ⟨h2, h3⟩ := k3 h2
    refine ⟨(mm_d_ok h1).1, (mm_d_ok h1).2, Nat.le_of_ble_eq_true h2, ?_⟩
    split at h3
    · exact mm_w_ok h3
    · cases h3
  · obtain ⟨h1, h2⟩ := k3 h
    obtain ⟨g2, h3⟩ := k3 h2
    have e2 := hY _ (Nat.le_of_ble_eq_true g2)
    have e1 := mm_d_ok h1
    clear h h2 h1 g2
    split at h3
    · rename_i i j ci np hci
      obtain ⟨g3, g4⟩ := k3 h3
      obtain ⟨g5, g6⟩ := k3 g4
      exact ⟨⟨e1.1, e1.2, e2⟩, ⟨ci, hci⟩, mm_w_ok g3, mm_w_ok g5, np, rfl, of_decide_eq_true g6⟩
    · cases h3
  · obtain ⟨h1, h2⟩ := k3 h
    refine ⟨mm_d_ok h1, ?_⟩
    split at h2
    · obtain ⟨h2, h3⟩ := k3 h2
      obtain ⟨h3, h4⟩ := k3 h3
      obtain ⟨h4, h5⟩ := k3 h4
      obtain ⟨h5, h6⟩ := k3 h5
      exact Or.inl ⟨of_decide_eq_true h2, hY _ (Nat.le_of_ble_eq_true h3), Nat.eq_of_beq_eq_true h4, Or.inl (mm_w_ok h5), of_decide_eq_true h6⟩
    · obtain ⟨h2, h3⟩ := k3 h2
      obtain ⟨h3, h4⟩ := k3 h3
      obtain ⟨h4, h5⟩ := k3 h4
      obtain ⟨h5, h6⟩ := k3 h5
      exact Or.inl ⟨of_decide_eq_true h2, hY _ (Nat.le_of_ble_eq_true h3), Nat.eq_of_beq_eq_true h4, Or.inr (mm_w_ok h5), of_decide_eq_true h6⟩
    · obtain ⟨h2, h3⟩ := k3 h2
      obtain ⟨h3, h4⟩ := k3 h3
      obtain ⟨h4, h5⟩ := k3 h4
      obtain ⟨h5, h6⟩ := k3 h5
      exact Or.inr (Or.inl ⟨of_decide_eq_true h2, mm_w_ok h3, mm_w_ok h4, mm_w_ok h5, mm_w_ok h6⟩)
    · obtain ⟨h2, h3⟩ := k3 h2
      obtain ⟨h3, h4⟩ := k3 h3
      obtain ⟨h4, h5⟩ := k3 h4
      obtain ⟨h5, h6⟩ := k3 h5
      exact Or.inr (Or.inr ⟨of_decide_eq_true h2, mm_w_ok h3, mm_w_ok h4, mm_w_ok h5, mm_w_ok h6⟩)
    · cases h2
  · obtain ⟨h1, h2⟩ := k3 h
    refine ⟨mm_d_ok h1, ?_⟩
    split at h2
    · obtain ⟨g1, g2⟩ := k3 h2
      obtain ⟨g3, g4⟩ := k3 g2
      obtain ⟨g5, g6⟩ := k3 g4
      obtain ⟨g7, g8⟩ := k3 g5
      obtain ⟨g9, g10⟩ := k3 g6
      have e1 := of_decide_eq_true g1
      have e2 := hY _ (Nat.le_of_ble_eq_true g3)
      have e3 := of_decide_eq_true g7
      have e4 := of_decide_eq_true g8
      have e5 := mm_w_ok g9
      clear h h2 g2 g4 g6
      split at g10
      · rename_i ci np hci
        exact Or.inl ⟨e1, e2, ⟨ci, hci⟩, e3, e4, Or.inl e5, np, rfl, of_decide_eq_true g10⟩
      · cases g10
    · obtain ⟨g1, g2⟩ := k3 h2
      obtain ⟨g3, g4⟩ := k3 g2
      obtain ⟨g5, g6⟩ := k3 g4
      obtain ⟨g7, g8⟩ := k3 g5
      obtain ⟨g9, g10⟩ := k3 g6
      have e1 := of_decide_eq_true g1
      have e2 := hY _ (Nat.le_of_ble_eq_true g3)
      have e3 := of_decide_eq_true g7
      have e4 := of_decide_eq_true g8
      have e5 := mm_w_ok g9
      clear h h2 g2 g4 g6
      split at g10
      · rename_i ci np hci
        exact Or.inl ⟨e1, e2, ⟨ci, hci⟩, e3, e4, Or.inr e5, np, rfl, of_decide_eq_true g10⟩
      · cases g10
    · obtain ⟨h2, h3⟩ := k3 h2
      obtain ⟨h3, h4⟩ := k3 h3
      obtain ⟨h4, h5⟩ := k3 h4
      exact Or.inr ⟨of_decide_eq_true h2, mm_w_ok h3, mm_w_ok h4, mm_w_ok h5⟩
    · cases h2
  · obtain ⟨h1, h2⟩ := k3 h
    refine ⟨(mm_d_ok h1).1, ?_⟩
    rw [Bool.or_eq_true, Bool.and_eq_true, Bool.and_eq_true, decide_eq_true_eq, decide_eq_true_eq] at h2
    exact h2.imp (fun z => ⟨Nat.eq_of_beq_eq_true z.1, z.2⟩) (fun z => ⟨Nat.eq_of_beq_eq_true z.1, z.2⟩)
  · exact ⟨(mm_d_ok (k3 h).1).1, of_decide_eq_true (k3 h).2⟩
  · exact ⟨(mm_d_ok (k3 h).1).1, of_decide_eq_true (k3 h).2⟩
  · obtain ⟨h1, h2⟩ := k3 h
    split at h2
    · rename_i q i
      exact ⟨(mm_d_ok h1).1, (mm_d_ok h1).2, q.1, q.2, rfl, mm_w_ok h2⟩
    · cases h2
  · obtain ⟨h1, h2⟩ := k3 h
    split at h2
    · rename_i q i
      exact ⟨(mm_d_ok h1).1, (mm_d_ok h1).2, q.1, q.2, rfl, mm_w_ok h2⟩
    · cases h2
  · obtain ⟨h1, h2⟩ := k3 h
    split at h2
    · exact ⟨(mm_d_ok h1).1, (mm_d_ok h1).2, mm_w_ok h2⟩
    · cases h2
  · have h9 := mm_chkp_ok h
    unfold mm_oki
    split
    all_goals first
      | exact h9
      | exact h9.elim
/-- the check of a method's code -/
def mm_chkL (nM : Nat) (Y : Nat → mm_N) (own : String) (ini : Bool) (cc : ByteArray) (rt : Option FieldType) : mm_C → List (List Nat) → Bool
  | [], _ => true
  | q :: r, p :: ps => mm_chk nM Y own ini cc rt q.1 q.2.1 q.2.2.1 q.2.2.2.1 q.2.2.2.2.1 q.2.2.2.2.2.1 q.2.2.2.2.2.2 p && mm_chkL nM Y own ini cc rt r ps
  | _ :: _, [] => false
theorem mm_chkL_ok {nM : Nat} {Y : Nat → mm_N} {own : String} {ini : Bool} {cc : ByteArray} {rt : Option FieldType} {Df : Nat → List Value} (hY : ∀ j, j < nM → mm_okY (Y j)) (hD : ∀ (a : Nat) (q : vw_C), vwCl[a]? = some q → (∀ j, j < q.2.2 → defaultValue (mm_ty a j) = vp_V (Df a) j) ∧ ∀ v ∈ Df a, mm_v (fun x => x + 1) v = v) :
    ∀ (cd : mm_C) (cp : List (List Nat)), mm_chkL nM Y own ini cc rt cd cp = true → ∀ (pc : Nat) (q : mm_I), mm_find cd pc = some q → mm_oki Y own ini cc rt Df pc q.1 q.2.1 q.2.2.1 q.2.2.2.1 q.2.2.2.2.1 q.2.2.2.2.2
  | [], _, _, _, _, h => by cases h
  | x :: r, p :: ps, hc, pc, q, h => by
    unfold mm_chkL at hc
    rw [Bool.and_eq_true] at hc
    unfold mm_find at h
    split at h
    · rename_i hb
      cases h
      have e := Nat.eq_of_beq_eq_true hb
      subst e
      exact mm_chk_ok hY hD hc.1
    · exact mm_chkL_ok hY hD r ps hc.2 pc q h
  | _ :: _, [], hc, _, _, _ => by cases hc
