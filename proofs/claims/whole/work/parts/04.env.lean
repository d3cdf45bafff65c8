/-! the small machine's cells beside the heap -/
def mm_g (sa : Nat → Nat) (base k : Nat) : Nat := if k < 6 then sa k else base + (k - 6)
theorem mm_g_own {sa : Nat → Nat} {base k : Nat} (h : 6 ≤ k) : mm_g sa base k = base + (k - 6) := if_neg (by omega)
theorem mm_g_st {sa : Nat → Nat} {base k : Nat} (h : k < 6) : mm_g sa base k = sa k := if_pos h
def mm_cv (g : Nat → Nat) (cA : Nat → ClassId) : va_E → va_E
  | .inl (t, n, .inl f) => .inl (cA t, n, .inl f)
  | .inl (t, n, .inr (.inr (.inr (.inr f)))) => .inl (cA t, n, .inr (.inr (.inr (.inr (fun j => (f j).map g)))))
  | .inl (t, n, .inr (.inl f)) => .inl (cA t, n, .inr (.inl f))
  | .inl (t, n, .inr (.inr (.inl f))) => .inl (cA t, n, .inr (.inr (.inl f)))
  | .inl (t, n, .inr (.inr (.inr (.inl f)))) => .inl (cA t, n, .inr (.inr (.inr (.inl f))))
  | .inr (ci, fs) => .inr (ci, fs.map (mm_v g))
/-- the heap holds the cells: from base on those that were made, in their order; the script and the tables are as they were -/
def mm_Rep (g : Nat → Nat) (base : Nat) (dC : Nat → ClassId) (dI : Nat → Nat → Nat) (cA : Nat → ClassId) (sN : Nat → Nat) (sf : Nat → Nat → Int32) (mem : mm_M) (H : Heap) : Prop :=
  (6 ≤ mem.length ∧ H.size + 6 = base + mem.length) ∧ (∀ k, k < 6 → mm_nth mem k = some (.inl (0, sN k, .inl (sf k)))) ∧ ∀ (i : Nat) (e : va_E), 6 ≤ i → mm_nth mem i = some e → va_at (dC, dI) vwCl (base + (i - 6), mm_cv g cA e) H
theorem mm_nth_app {α : Type} : ∀ (l : List α) (x : α) (i : Nat), mm_nth (l ++ [x]) i = if i = l.length then some x else mm_nth l i
  | [], x, 0 => rfl
  | [], x, i + 1 => by simp [mm_nth]
  | y :: t, x, 0 => by simp [mm_nth]
  | y :: t, x, i + 1 => by
    have h := mm_nth_app t x i
    simp only [List.cons_append, mm_nth, h, List.length_cons, Nat.add_right_cancel_iff]
section MME
variable {g : Nat → Nat} {base : Nat} {dC : Nat → ClassId} {dI : Nat → Nat → Nat} {cA : Nat → ClassId} {sN : Nat → Nat} {sf : Nat → Nat → Int32} {mem : mm_M} {H H1 : Heap}
theorem mm_Rep.set (h : mm_Rep g base dC dI cA sN sf mem H) {r : Nat} {e0 e : va_E} (hr : 6 ≤ r) (h0 : mm_nth mem r = some e0) (z : H1.size = H.size) (oq : ∀ q : Nat, q ≠ base + (r - 6) → H1[q]? = H[q]?) (he : va_at (dC, dI) vwCl (base + (r - 6), mm_cv g cA e) H1) : mm_Rep g base dC dI cA sN sf (mm_set mem r e) H1 := by
  obtain ⟨⟨h1, h2⟩, h3, h4⟩ := h
  refine ⟨⟨by rw [mm_set_len]; exact h1, by rw [mm_set_len, z]; exact h2⟩, fun k hk => ?_, fun i x hi hx => ?_⟩
  · rw [mm_nth_set, if_neg (by omega)]
    exact h3 k hk
  · rw [mm_nth_set] at hx
    split at hx
    · rename_i hc
      cases hx
      rw [hc.1]
      exact he
    · rename_i hc
      have hne : i ≠ r := fun q => hc ⟨q, mm_nth_lt h0⟩
      exact (h4 i x hi hx).kept (oq _ (by show base + (i - 6) ≠ _; omega))
theorem mm_Rep.push (h : mm_Rep g base dC dI cA sN sf mem H) {e : va_E} (z : H1.size = H.size + 1) (oq : ∀ q : Nat, q < H.size → H1[q]? = H[q]?) (he : va_at (dC, dI) vwCl (H.size, mm_cv g cA e) H1) : mm_Rep g base dC dI cA sN sf (mem ++ [e]) H1 := by
  obtain ⟨⟨h1, h2⟩, h3, h4⟩ := h
  refine ⟨⟨by rw [List.length_append]; omega, by rw [List.length_append, z]; simp only [List.length_cons, List.length_nil]; omega⟩, fun k hk => ?_, fun i x hi hx => ?_⟩
  · rw [mm_nth_app, if_neg (by omega)]
    exact h3 k hk
  · rw [mm_nth_app] at hx
    split at hx
    · rename_i hc
      cases hx
      rw [hc, show base + (mem.length - 6) = H.size by omega]
      exact he
    · have hlt := mm_nth_lt hx
      exact (h4 i x hi hx).kept (oq _ (by show base + (i - 6) < _; omega))
theorem mm_Rep.one (h : mm_Rep g base dC dI cA sN sf mem H) {r : Nat} {e : va_E} (hr : 6 ≤ r) (h0 : mm_nth mem r = some e) : va_P (dC, dI) vwCl [(base + (r - 6), mm_cv g cA e)] H := by
  intro k q hk
  cases k with
  | zero => cases hk; exact h.2.2 r e hr h0
  | succ k => cases hk
end MME
/-- the names of the tables -/
def mm_snm : Nat → String
  | 1 => "FIRST_OF_KIND"
  | 2 => "JOINED_MARKS"
  | 3 => "PLACE_OF_WHO"
  | 4 => "PLACE_OF_DOING"
  | _ => "PLACE_OF_WHOM"
def mm_nest : Jvm.Cond → Bool
  | .fieldLinkNest .. => true
  | .methodLinkNest .. => true
  | _ => false
abbrev mm_tys (cA : Nat → ClassId) : List (ClassId × FieldType) := [(cA 0, .int), (cA 1, .boolean), (cA 2, .object RX3)]
/-- what the tables say at a state -/
def mm_Vm (dC : Nat → ClassId) (dI : Nat → Nat → Nat) (cA : Nat → ClassId) (U : State) : Prop :=
  (∀ w ∈ lw_tbl, goodWord w = true → w.before #[] U = true) ∧ (∀ w ∈ lw_tbl, mm_nest w = true → va_Nw w U) ∧ va_AO RX3 U ∧ va_K (dC, dI) vwCl (mm_tys cA) U
theorem mm_Vm.moved {dC : Nat → ClassId} {dI : Nat → Nat → Nat} {cA : Nat → ClassId} {s U : State} (hW : s.WarmedH U.vm) (h : mm_Vm dC dI cA s) : mm_Vm dC dI cA U := by
  refine ⟨fun w hw hg => word_at hW (good_of_word hg) (h.1 w hw hg), fun w hw hn => ?_, h.2.2.1.moved hW.alike, h.2.2.2.moved hW.alike⟩
  have h2 := h.2.1 w hw hn
  cases w <;> first | (exact va_Nw.warmF hW h2) | (exact va_Nw.warmM hW h2) | (cases hn)
theorem mm_Vm.word {dC : Nat → ClassId} {dI : Nat → Nat → Nat} {cA : Nat → ClassId} {U : State} (h : mm_Vm dC dI cA U) {w : Jvm.Cond} (hw : w ∈ lw_tbl) (hg : goodWord w = true) (a : Array Value) : w.before a U = true :=
  word_at (State.WarmedH.refl U) (good_of_word hg) (h.1 w hw hg)
/-- what lies ahead of base: the script, the tables, and the statics that hold these -/
def mm_St (g : Nat → Nat) (base : Nat) (sN : Nat → Nat) (sf : Nat → Nat → Int32) (U : State) (H : Heap) : Prop :=
  (∀ k, k < 6 → va_T .int (g k) (sN k) (fun j => .int (sf k j)) (fun q => base ≤ q) U H) ∧ ∀ k, 1 ≤ k → k < 6 → va_Z RX6 (mm_snm k) "[I" (.ref (g k)) (fun q => base ≤ q) U H
theorem mm_St.moved {g : Nat → Nat} {base : Nat} {sN : Nat → Nat} {sf : Nat → Nat → Int32} {u U : State} {H : Heap} (hvm : u.vm.Alike U.vm) (h : mm_St g base sN sf u H) : mm_St g base sN sf U H :=
  ⟨fun k hk => (h.1 k hk).moved hvm, fun k h1 h2 => (h.2 k h1 h2).moved hvm⟩
theorem mm_St.kept {g : Nat → Nat} {base : Nat} {sN : Nat → Nat} {sf : Nat → Nat → Int32} {U : State} {H H1 : Heap} (h : mm_St g base sN sf U H) (hq : ∀ a : Nat, a < H.size → ¬ base ≤ a → H1[a]? = H[a]?) : mm_St g base sN sf U H1 :=
  ⟨fun k hk => (h.1 k hk).kept hq, fun k h1 h2 => (h.2 k h1 h2).kept hq⟩
theorem mm_words : lw_tbl.all (fun w => goodWord w || mm_nest w || w == .arrayOver (.object RX3) || (match w with | .laysStatic .. => true | .superclass .. => true | .soleField .. => true | .privateMethod .. => true | _ => false)) = true := by decide +kernel
