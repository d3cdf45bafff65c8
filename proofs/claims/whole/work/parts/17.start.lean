/-! THE CLAIM OUT OF ONE WALK OF THE LAW'S BODY. Your part is whole_start (and what it stands on); all else here is the same for every law, but numbers. -/
def R_law : String := "WhichWordLaw"
def lw_P (b : Addr) (xs : List Int32) (args : Array Value) (s : State) : Prop := args = #[.ref b] ∧ s.IntsAt b xs ∧ xs.length ≤ 256 ∧ (Jvm.Cond.and given_1 narrow_1).before args s = true
def lw_Q (_ : Array Value) (s : State) (o : Outcome) (t : State) : Prop := o = .returned (some (.int 1)) ∧ Framed s o t [] 600000 7302250
def lw_Z (below : List Frame) (a : Array Value) (s : State) : State → Prop := fun t => ∃ o, t.status = .running ∧ Ended t below o ∧ lw_Q a s o t
/-- the law's own end, with 1 on the stack, nothing written that was there before, its room as the claim has it -/
theorem lw_ret {p : Program} {l : Launch} {e : Env} {s : State} {m : MethodId} {below : List Frame} {meth : Method} {c : Code} {b : Nat} (hx : p.tables.exec = Jvm.exec) (hb : c.code = code) (hr : meth.sig.returnType = ret) (hlocks : meth.locks = false) {pc : Nat} {H : Heap} {ls : Array Slot} (hdg : decode code pc = .ok (.ireturn, 1)) : W p l e room_1 s m #[Value.ref b] below meth c H [] 600000 7302250 (lw_Z below #[Value.ref b] s) (F0 m pc ls [.int 1]) := by
  intro T hT X
  obtain ⟨fs, hret, hrun, hended, hW, hframe⟩ := X.leave (v := some (.int 1)) (hlocks := hlocks) (fun h => by rw [hr] at h; cases h)
  have hmeth' : T.vm.method? m = some meth := X.method'
  refine ⟨T.setFrames fs, ?_, .returned (some (.int 1)), hrun, hended, rfl, ⟨_, rfl⟩, hW, hframe⟩
  jvm_step X.here [X.here.top, hx, hb, hdg, hmeth', hr, ret, narrow_b1]
  (try refine ⟨rfl, ?_⟩); (try refine ⟨rfl, ?_⟩)
  first | (intro acts; rw [hret _ acts rfl rfl rfl]) | rw [hret _ _ rfl rfl rfl]
  exact Steps.refl _
/-- what holds at the law's entry: the machine, the code, the tables' words (any of lw_tbl by 'hts w (by decide +kernel)'), the script of L ints xs at the cell b, what the Statement gives of the start (any of its parts by flat_of_before) -/
def lw_At (p : Program) (s : State) (m : MethodId) (meth : Method) (c : Code) (b L : Nat) (xs : Nat → Int32) : Prop :=
  p.tables.exec = Jvm.exec ∧ c.code = code ∧ meth.sig.returnType = ret ∧ c.maxLocals = 4 ∧ s.vm.findClass R_law = some m.cls ∧ (∀ w ∈ lw_tbl, w.before #[Value.ref b] s = true) ∧ va_X b L xs s s.heap ∧ b < s.heap.size ∧ meth.locks = false ∧ (Jvm.Cond.and given_1 narrow_1).before #[Value.ref b] s = true
def mm_t1 : List Int32 := [0, 6, 21, 39, 42, 60, 78, 84]
def mm_t2 : List Int32 := [3, 5, 9, 17, 33, 6, 10, 18, 34, 12, 20, 36, 24, 40, 48]
def mm_t3 : List Int32 := [0, 0, 1, 2, 1, 2]
def mm_t4 : List Int32 := [1, 2, 0, 0, 2, 1]
def mm_t5 : List Int32 := [2, 1, 2, 1, 0, 0]
/-- the cells at the start: the script and the tables -/
def mm_m0 (L : Nat) (xs : Nat → Int32) : mm_M := [.inl (0, L, .inl xs), .inl (0, 8, .inl (fun j => mm_t1.getD j 0)), .inl (0, 15, .inl (fun j => mm_t2.getD j 0)), .inl (0, 6, .inl (fun j => mm_t3.getD j 0)), .inl (0, 6, .inl (fun j => mm_t4.getD j 0)), .inl (0, 6, .inl (fun j => mm_t5.getD j 0))]
def mm_sN (L : Nat) : Nat → Nat
  | 0 => L
  | 1 => 8
  | 2 => 15
  | 3 => 6
  | 4 => 6
  | _ => 6
def mm_sf (xs : Nat → Int32) : Nat → Nat → Int32
  | 0 => xs
  | 1 => fun j => mm_t1.getD j 0
  | 2 => fun j => mm_t2.getD j 0
  | 3 => fun j => mm_t3.getD j 0
  | 4 => fun j => mm_t4.getD j 0
  | _ => fun j => mm_t5.getD j 0
set_option maxRecDepth 100000 in
theorem mm_tab1 {s : State} {args : Array Value} (hs : ∀ c ∈ flatC (Jvm.Cond.and given_1 narrow_1), c.before args s = true) : ∃ t : Nat, ((Jvm.Term.static "WhichWord" "FIRST_OF_KIND" "[I")).eval args s none [] s = some (.ref t) ∧ va_T .int t 8 (fun j => .int (mm_t1.getD j 0)) (fun q => s.heap.size ≤ q) s s.heap := by
  refine va_Tof (by decide) (hs _ (by decide +kernel)) (va_eqt (hs _ (by decide +kernel))) ?_ (fun a h => Nat.not_le.mpr h)
  intro j hj
  match j, hj with
  | 0, _ => exact va_eqt (z := 0) (hs _ (by decide +kernel))
  | 1, _ => exact va_eqt (z := 6) (hs _ (by decide +kernel))
  | 2, _ => exact va_eqt (z := 21) (hs _ (by decide +kernel))
  | 3, _ => exact va_eqt (z := 39) (hs _ (by decide +kernel))
  | 4, _ => exact va_eqt (z := 42) (hs _ (by decide +kernel))
  | 5, _ => exact va_eqt (z := 60) (hs _ (by decide +kernel))
  | 6, _ => exact va_eqt (z := 78) (hs _ (by decide +kernel))
  | 7, _ => exact va_eqt (z := 84) (hs _ (by decide +kernel))
  | k + 8, h => exact absurd h (by omega)
set_option maxRecDepth 100000 in
theorem mm_tab2 {s : State} {args : Array Value} (hs : ∀ c ∈ flatC (Jvm.Cond.and given_1 narrow_1), c.before args s = true) : ∃ t : Nat, ((Jvm.Term.static "WhichWord" "JOINED_MARKS" "[I")).eval args s none [] s = some (.ref t) ∧ va_T .int t 15 (fun j => .int (mm_t2.getD j 0)) (fun q => s.heap.size ≤ q) s s.heap := by
  refine va_Tof (by decide) (hs _ (by decide +kernel)) (va_eqt (hs _ (by decide +kernel))) ?_ (fun a h => Nat.not_le.mpr h)
  intro j hj
  match j, hj with
  | 0, _ => exact va_eqt (z := 3) (hs _ (by decide +kernel))
  | 1, _ => exact va_eqt (z := 5) (hs _ (by decide +kernel))
  | 2, _ => exact va_eqt (z := 9) (hs _ (by decide +kernel))
  | 3, _ => exact va_eqt (z := 17) (hs _ (by decide +kernel))
  | 4, _ => exact va_eqt (z := 33) (hs _ (by decide +kernel))
  | 5, _ => exact va_eqt (z := 6) (hs _ (by decide +kernel))
  | 6, _ => exact va_eqt (z := 10) (hs _ (by decide +kernel))
  | 7, _ => exact va_eqt (z := 18) (hs _ (by decide +kernel))
  | 8, _ => exact va_eqt (z := 34) (hs _ (by decide +kernel))
  | 9, _ => exact va_eqt (z := 12) (hs _ (by decide +kernel))
  | 10, _ => exact va_eqt (z := 20) (hs _ (by decide +kernel))
  | 11, _ => exact va_eqt (z := 36) (hs _ (by decide +kernel))
  | 12, _ => exact va_eqt (z := 24) (hs _ (by decide +kernel))
  | 13, _ => exact va_eqt (z := 40) (hs _ (by decide +kernel))
  | 14, _ => exact va_eqt (z := 48) (hs _ (by decide +kernel))
  | k + 15, h => exact absurd h (by omega)
set_option maxRecDepth 100000 in
theorem mm_tab3 {s : State} {args : Array Value} (hs : ∀ c ∈ flatC (Jvm.Cond.and given_1 narrow_1), c.before args s = true) : ∃ t : Nat, ((Jvm.Term.static "WhichWord" "PLACE_OF_WHO" "[I")).eval args s none [] s = some (.ref t) ∧ va_T .int t 6 (fun j => .int (mm_t3.getD j 0)) (fun q => s.heap.size ≤ q) s s.heap := by
  refine va_Tof (by decide) (hs _ (by decide +kernel)) (va_eqt (hs _ (by decide +kernel))) ?_ (fun a h => Nat.not_le.mpr h)
  intro j hj
  match j, hj with
  | 0, _ => exact va_eqt (z := 0) (hs _ (by decide +kernel))
  | 1, _ => exact va_eqt (z := 0) (hs _ (by decide +kernel))
  | 2, _ => exact va_eqt (z := 1) (hs _ (by decide +kernel))
  | 3, _ => exact va_eqt (z := 2) (hs _ (by decide +kernel))
  | 4, _ => exact va_eqt (z := 1) (hs _ (by decide +kernel))
  | 5, _ => exact va_eqt (z := 2) (hs _ (by decide +kernel))
  | k + 6, h => exact absurd h (by omega)
set_option maxRecDepth 100000 in
theorem mm_tab4 {s : State} {args : Array Value} (hs : ∀ c ∈ flatC (Jvm.Cond.and given_1 narrow_1), c.before args s = true) : ∃ t : Nat, ((Jvm.Term.static "WhichWord" "PLACE_OF_DOING" "[I")).eval args s none [] s = some (.ref t) ∧ va_T .int t 6 (fun j => .int (mm_t4.getD j 0)) (fun q => s.heap.size ≤ q) s s.heap := by
  refine va_Tof (by decide) (hs _ (by decide +kernel)) (va_eqt (hs _ (by decide +kernel))) ?_ (fun a h => Nat.not_le.mpr h)
  intro j hj
  match j, hj with
  | 0, _ => exact va_eqt (z := 1) (hs _ (by decide +kernel))
  | 1, _ => exact va_eqt (z := 2) (hs _ (by decide +kernel))
  | 2, _ => exact va_eqt (z := 0) (hs _ (by decide +kernel))
  | 3, _ => exact va_eqt (z := 0) (hs _ (by decide +kernel))
  | 4, _ => exact va_eqt (z := 2) (hs _ (by decide +kernel))
  | 5, _ => exact va_eqt (z := 1) (hs _ (by decide +kernel))
  | k + 6, h => exact absurd h (by omega)
set_option maxRecDepth 100000 in
theorem mm_tab5 {s : State} {args : Array Value} (hs : ∀ c ∈ flatC (Jvm.Cond.and given_1 narrow_1), c.before args s = true) : ∃ t : Nat, ((Jvm.Term.static "WhichWord" "PLACE_OF_WHOM" "[I")).eval args s none [] s = some (.ref t) ∧ va_T .int t 6 (fun j => .int (mm_t5.getD j 0)) (fun q => s.heap.size ≤ q) s s.heap := by
  refine va_Tof (by decide) (hs _ (by decide +kernel)) (va_eqt (hs _ (by decide +kernel))) ?_ (fun a h => Nat.not_le.mpr h)
  intro j hj
  match j, hj with
  | 0, _ => exact va_eqt (z := 2) (hs _ (by decide +kernel))
  | 1, _ => exact va_eqt (z := 1) (hs _ (by decide +kernel))
  | 2, _ => exact va_eqt (z := 2) (hs _ (by decide +kernel))
  | 3, _ => exact va_eqt (z := 1) (hs _ (by decide +kernel))
  | 4, _ => exact va_eqt (z := 0) (hs _ (by decide +kernel))
  | 5, _ => exact va_eqt (z := 0) (hs _ (by decide +kernel))
  | k + 6, h => exact absurd h (by omega)
set_option maxHeartbeats 4000000 in
/-- the law's walk out of the small machine's -/
theorem mm_start (d : Nat) (hd : d ≤ 100) (hwp : ∀ (L : Nat) (xs : Nat → Int32), L ≤ 256 → mm_WP (mm_Sp mm_Pt mm_Al mm_Df d) mm_Al mm_Df (600000, 7302250) cd_law (fun r _ => r = some (.int 1)) 0 (mm_args 4 [.ref 0]) [] (mm_m0 L xs) 0 0)
    {p : Program} {e : Env} {s : State} {m : MethodId} {below : List Frame} {meth : Method} {c : Code} (l : Launch) {b L : Nat} {xs : Nat → Int32} (hL : L ≤ 256) (C0 : lw_At p s m meth c b L xs) : W p l e room_1 s m #[Value.ref b] below meth c s.heap [] 0 0 (lw_Z below #[Value.ref b] s) (entryFrame m ([Value.ref b] : List Value).toArray 4) := by
  obtain ⟨hx, hb, hr, hml, hown, hts, hX, hbl, hlocks, hgv⟩ := id C0
  have hs := flat_of_before _ hgv
  have htG : ∀ w ∈ mm_tG, w.before #[Value.ref b] s = true := fun w hw => hts w (List.mem_filter.mp hw).1
  obtain ⟨t1, ev1, hT1⟩ := mm_tab1 hs
  obtain ⟨t2, ev2, hT2⟩ := mm_tab2 hs
  obtain ⟨t3, ev3, hT3⟩ := mm_tab3 hs
  obtain ⟨t4, ev4, hT4⟩ := mm_tab4 hs
  obtain ⟨t5, ev5, hT5⟩ := mm_tab5 hs
  obtain ⟨c0, i0, hK0⟩ := u_known (C := RX0) (T := TX0) (N := 5) (n := 5) htG mm_wsG0 (hts (.instantiable RX0 5) (by decide +kernel))
  obtain ⟨c1, i1, hK1⟩ := u_known (C := RX1) (T := TX1) (N := 2) (n := 2) htG mm_wsG1 (hts (.instantiable RX1 2) (by decide +kernel))
  obtain ⟨c2, i2, hK2⟩ := u_known (C := RX2) (T := TX2) (N := 1) (n := 1) htG mm_wsG2 (hts (.instantiable RX2 1) (by decide +kernel))
  obtain ⟨c3, i3, hK3⟩ := u_known (C := RX3) (T := TX3) (N := 4) (n := 4) htG mm_wsG3 (hts (.instantiable RX3 4) (by decide +kernel))
  obtain ⟨c4, i4, hK4⟩ := u_known (C := RX4) (T := TX4) (N := 3) (n := 3) htG mm_wsG4 (hts (.instantiable RX4 3) (by decide +kernel))
  obtain ⟨c5, i5, hK5⟩ := u_known (C := RX5) (T := TX5) (N := 12) (n := 12) htG mm_wsG5 (hts (.instantiable RX5 12) (by decide +kernel))
  obtain ⟨c6, i6, hK6⟩ := u_known (C := RX6) (T := TX6) (N := 8) (n := 8) htG mm_wsG6 (hts (.instantiable RX6 8) (by decide +kernel))
  obtain ⟨c7, i7, hK7⟩ := u_known (C := RX7) (T := TX7) (N := 31) (n := 31) htG mm_wsG7 (hts (.instantiable RX7 31) (by decide +kernel))
  obtain ⟨aI, kI, cI, f1, f2, f3⟩ := Cond.arrayClass_spec (hts (.arrayClass .int) (by decide +kernel))
  obtain ⟨aZ, kZ, cZ, z1, z2, z3⟩ := Cond.arrayClass_spec (hts (.arrayClass .boolean) (by decide +kernel))
  have hAO : va_AO RX3 s := va_AO.of (hts (.arrayOver (.object RX3)) (by decide +kernel))
  obtain ⟨comp, cS, kS, g1, g2, g3, g4, g5⟩ := Cond.arrayOver_spec hAO
  obtain ⟨dC, dI, hKc⟩ : ∃ (dC : Nat → ClassId) (dI : Nat → Nat → Nat), ∀ (k : Nat) (q : vw_C), vwCl[k]? = some q → u_Kn s q.1 q.2.1 q.2.2 (dC k) (dI k) := by
    refine ⟨fun k => match k with
      | 0 => c0
      | 1 => c1
      | 2 => c2
      | 3 => c3
      | 4 => c4
      | 5 => c5
      | 6 => c6
      | _ => c7
      , fun k => match k with
      | 0 => i0
      | 1 => i1
      | 2 => i2
      | 3 => i3
      | 4 => i4
      | 5 => i5
      | 6 => i6
      | _ => i7
      , ?_⟩
    intro k q hq
    match k, hq with
    | 0, hq => cases hq; exact hK0
    | 1, hq => cases hq; exact hK1
    | 2, hq => cases hq; exact hK2
    | 3, hq => cases hq; exact hK3
    | 4, hq => cases hq; exact hK4
    | 5, hq => cases hq; exact hK5
    | 6, hq => cases hq; exact hK6
    | 7, hq => cases hq; exact hK7
    | k + 8, hq => simp [vwCl] at hq
  obtain ⟨cA, e0, e1, e2⟩ : ∃ cA : Nat → ClassId, cA 0 = aI ∧ cA 1 = aZ ∧ cA 2 = cS := ⟨fun k => match k with
    | 0 => aI
    | 1 => aZ
    | _ => cS, rfl, rfl, rfl⟩
  have hK : va_K (dC, dI) vwCl (mm_tys cA) s := by
    refine ⟨hKc, fun k q hq => ?_⟩
    match k, hq with
    | 0, hq =>
      cases hq
      rw [e0]
      exact ⟨fun N z => ⟨(fun k h => by cases h), kI, f2, cI, f3⟩, f1⟩
    | 1, hq =>
      cases hq
      rw [e1]
      exact ⟨fun N z => ⟨(fun k h => by cases h), kZ, z2, cZ, z3⟩, z1⟩
    | 2, hq =>
      cases hq
      rw [e2]
      exact ⟨fun N z => ⟨(fun k h => by cases h), kS, g3, comp, g4⟩, kS, comp, g3, g4, g1, g5⟩
    | k + 3, hq => simp at hq
  have hV : mm_Vm dC dI cA s := ⟨fun w hw hg => word_at (State.WarmedH.refl s) (good_of_word hg) (hts w hw), fun w hw hn => by
    have h2 := hts w hw
    cases w <;> first | (exact va_Nw.of rfl h2) | (cases hn), hAO, hK⟩
  obtain ⟨sa, s0, s1, s2, s3, s4, s5⟩ : ∃ sa : Nat → Nat, sa 0 = b ∧ sa 1 = t1 ∧ sa 2 = t2 ∧ sa 3 = t3 ∧ sa 4 = t4 ∧ sa 5 = t5 := ⟨fun k => match k with
    | 0 => b
    | 1 => t1
    | 2 => t2
    | 3 => t3
    | 4 => t4
    | _ => t5, rfl, rfl, rfl, rfl, rfl, rfl⟩
  have hA : ∀ a : Nat, a < s.heap.size → ¬ (fun q : Nat => s.heap.size ≤ q) a := fun a h => Nat.not_le.mpr h
  have hSt : mm_St (mm_g sa s.heap.size) s.heap.size (mm_sN L) (mm_sf xs) s s.heap := by
    refine ⟨fun k hk => ?_, fun k h1 h2 => ?_⟩
    · rw [mm_g_st hk]
      match k, hk with
      | 0, _ =>
        rw [s0]
        obtain ⟨scr, x1, x2, x3, x4, x5⟩ := hX
        exact ⟨scr, x1, x2, x3, Nat.le_of_eq x4.symm, by rw [x4]; rfl, x5, hA b hbl⟩
      | 1, _ => rw [s1]; exact hT1
      | 2, _ => rw [s2]; exact hT2
      | 3, _ => rw [s3]; exact hT3
      | 4, _ => rw [s4]; exact hT4
      | 5, _ => rw [s5]; exact hT5
      | k + 6, hk => exact absurd hk (by omega)
    · rw [mm_g_st h2]
      match k, h1, h2 with
      | 1, _, _ => rw [s1]; exact va_Zref (hts (.laysStatic RX6 "FIRST_OF_KIND" "[I") (by decide +kernel)) (hts (.initialized RX6) (by decide +kernel)) ev1 hA
      | 2, _, _ => rw [s2]; exact va_Zref (hts (.laysStatic RX6 "JOINED_MARKS" "[I") (by decide +kernel)) (hts (.initialized RX6) (by decide +kernel)) ev2 hA
      | 3, _, _ => rw [s3]; exact va_Zref (hts (.laysStatic RX6 "PLACE_OF_WHO" "[I") (by decide +kernel)) (hts (.initialized RX6) (by decide +kernel)) ev3 hA
      | 4, _, _ => rw [s4]; exact va_Zref (hts (.laysStatic RX6 "PLACE_OF_DOING" "[I") (by decide +kernel)) (hts (.initialized RX6) (by decide +kernel)) ev4 hA
      | 5, _, _ => rw [s5]; exact va_Zref (hts (.laysStatic RX6 "PLACE_OF_WHOM" "[I") (by decide +kernel)) (hts (.initialized RX6) (by decide +kernel)) ev5 hA
      | k + 6, _, h2 => exact absurd h2 (by omega)
      | 0, h1, _ => exact absurd h1 (by omega)
  have hg : ∀ k, 6 ≤ k → mm_g sa s.heap.size k = s.heap.size + (k - 6) := fun k hk => mm_g_own hk
  have hRep : mm_Rep (mm_g sa s.heap.size) s.heap.size dC dI cA (mm_sN L) (mm_sf xs) (mm_m0 L xs) s.heap := by
    refine ⟨⟨Nat.le_refl _, rfl⟩, fun k hk => ?_, fun i e hi he => ?_⟩
    · match k, hk with
      | 0, _ => rfl
      | 1, _ => rfl
      | 2, _ => rfl
      | 3, _ => rfl
      | 4, _ => rfl
      | 5, _ => rfl
      | k + 6, hk => exact absurd hk (by omega)
    · have h9 : i < 6 := mm_nth_lt he
      omega
  have X : mm_Cx p s m c code R_law (mm_g sa s.heap.size) s.heap.size dC dI cA (mm_sN L) (mm_sf xs) := ⟨hx, hb, hown, hV, hSt, Nat.le_refl _, hg⟩
  have hent : ([Value.ref b] : List Value) = ([Value.ref 0] : List Value).map (mm_v (mm_g sa s.heap.size)) := by
    show [Value.ref b] = [Value.ref (mm_g sa s.heap.size 0)]
    rw [mm_g_st (by omega), s0]
  have key : mm_at p l e room_1 s m #[Value.ref b] below meth c (lw_Z below #[Value.ref b] s) (mm_g sa s.heap.size) s.heap.size dC dI cA (mm_sN L) (mm_sf xs) 4 0 (mm_args 4 [.ref 0]) [] (mm_m0 L xs) 0 0 := by
    refine hwp L xs hL _ (mm_sim (R := room_1) (d := d) (ini := false) (rt := some .boolean) X hml ⟨by show d + 1 ≤ 2048; omega, by show 100 * d + 2100 ≤ 84000; omega⟩ (fun h => by cases h) (mm_sound mm_prog hg d) ck_law ?_)
    intro pc mem' H locs lr k n v ins hd' hr' hR hS hk hn hq
    subst hq
    refine va_forget hS.2.2 ?_
    refine W.widen (k := 600000) (n := 7302250) hk hn ?_
    unfold mm_isret at hr'
    split at hr'
    · rename_i x hv
      cases hv
      exact lw_ret hx hb hr hlocks hd'
    · rename_i hv
      cases hv
    · rename_i hv
      cases hv
    · exact hr'.elim
  have hl : mm_LR (mm_g sa s.heap.size) 4 (mm_args 4 [.ref 0]) ((lg_sl ([Value.ref b] : List Value) ++ List.replicate (4 - (lg_sl ([Value.ref b] : List Value)).length) Slot.unset).toArray) := by
    rw [hent]
    exact mm_LR_entry (by decide)
  rw [lg_entry_eq]
  exact key s.heap [] _ hRep va_S.rf hl (Nat.zero_le _) (Nat.zero_le _)
