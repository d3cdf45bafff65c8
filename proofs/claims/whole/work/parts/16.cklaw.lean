/-! the law's code is its code -/
theorem ck_law_1 : mm_chkL 184 mm_Yt "WhichWordLaw" false code (some .boolean) cd_law_1 cp_law_1 = true := by decide +kernel
theorem ck_law_2 : mm_chkL 184 mm_Yt "WhichWordLaw" false code (some .boolean) cd_law_2 cp_law_2 = true := by decide +kernel
theorem ck_law_3 : mm_chkL 184 mm_Yt "WhichWordLaw" false code (some .boolean) cd_law_3 cp_law_3 = true := by decide +kernel
theorem ck_law_4 : mm_chkL 184 mm_Yt "WhichWordLaw" false code (some .boolean) cd_law_4 cp_law_4 = true := by decide +kernel
theorem ck_law_5 : mm_chkL 184 mm_Yt "WhichWordLaw" false code (some .boolean) cd_law_5 cp_law_5 = true := by decide +kernel
theorem ck_law_6 : mm_chkL 184 mm_Yt "WhichWordLaw" false code (some .boolean) cd_law_6 cp_law_6 = true := by decide +kernel
theorem ck_law_7 : mm_chkL 184 mm_Yt "WhichWordLaw" false code (some .boolean) cd_law_7 cp_law_7 = true := by decide +kernel
theorem ck_law_8 : mm_chkL 184 mm_Yt "WhichWordLaw" false code (some .boolean) cd_law_8 cp_law_8 = true := by decide +kernel
theorem ck_law_9 : mm_chkL 184 mm_Yt "WhichWordLaw" false code (some .boolean) cd_law_9 cp_law_9 = true := by decide +kernel
theorem ck_law_10 : mm_chkL 184 mm_Yt "WhichWordLaw" false code (some .boolean) cd_law_10 cp_law_10 = true := by decide +kernel
theorem ck_law_11 : mm_chkL 184 mm_Yt "WhichWordLaw" false code (some .boolean) cd_law_11 cp_law_11 = true := by decide +kernel
theorem ck_law_12 : mm_chkL 184 mm_Yt "WhichWordLaw" false code (some .boolean) cd_law_12 cp_law_12 = true := by decide +kernel
theorem ck_law_13 : mm_chkL 184 mm_Yt "WhichWordLaw" false code (some .boolean) cd_law_13 cp_law_13 = true := by decide +kernel
theorem ck_law_14 : mm_chkL 184 mm_Yt "WhichWordLaw" false code (some .boolean) cd_law_14 cp_law_14 = true := by decide +kernel
theorem ck_law_15 : mm_chkL 184 mm_Yt "WhichWordLaw" false code (some .boolean) cd_law_15 cp_law_15 = true := by decide +kernel
theorem ck_law_16 : mm_chkL 184 mm_Yt "WhichWordLaw" false code (some .boolean) cd_law_16 cp_law_16 = true := by decide +kernel
theorem mm_find_app : ∀ (a b : mm_C) (pc : Nat) (q : mm_I), mm_find (a ++ b) pc = some q → mm_find a pc = some q ∨ mm_find b pc = some q
  | [], _, _, _, h => Or.inr h
  | x :: r, b, pc, q, h => by
    have e1 : mm_find (x :: r ++ b) pc = (match Nat.beq x.1 pc with
      | true => some x.2
      | false => mm_find (r ++ b) pc) := rfl
    have e2 : mm_find (x :: r) pc = (match Nat.beq x.1 pc with
      | true => some x.2
      | false => mm_find r pc) := rfl
    rw [e1] at h
    rw [e2]
    cases hb : Nat.beq x.1 pc
    · rw [hb] at h
      exact mm_find_app r b pc q h
    · rw [hb] at h
      exact Or.inl h
theorem ck_law : ∀ (pc : Nat) (q : mm_I), mm_find cd_law pc = some q → mm_oki mm_Yt "WhichWordLaw" false code (some .boolean) mm_Df pc q.1 q.2.1 q.2.2.1 q.2.2.2.1 q.2.2.2.2.1 q.2.2.2.2.2 := by
  intro pc q h
  unfold cd_law at h
  rcases mm_find_app _ _ _ _ h with h | h
  · exact mm_chkL_ok mm_Yt_ok mm_Df_ok _ _ ck_law_1 pc q h
  rcases mm_find_app _ _ _ _ h with h | h
  · exact mm_chkL_ok mm_Yt_ok mm_Df_ok _ _ ck_law_2 pc q h
  rcases mm_find_app _ _ _ _ h with h | h
  · exact mm_chkL_ok mm_Yt_ok mm_Df_ok _ _ ck_law_3 pc q h
  rcases mm_find_app _ _ _ _ h with h | h
  · exact mm_chkL_ok mm_Yt_ok mm_Df_ok _ _ ck_law_4 pc q h
  rcases mm_find_app _ _ _ _ h with h | h
  · exact mm_chkL_ok mm_Yt_ok mm_Df_ok _ _ ck_law_5 pc q h
  rcases mm_find_app _ _ _ _ h with h | h
  · exact mm_chkL_ok mm_Yt_ok mm_Df_ok _ _ ck_law_6 pc q h
  rcases mm_find_app _ _ _ _ h with h | h
  · exact mm_chkL_ok mm_Yt_ok mm_Df_ok _ _ ck_law_7 pc q h
  rcases mm_find_app _ _ _ _ h with h | h
  · exact mm_chkL_ok mm_Yt_ok mm_Df_ok _ _ ck_law_8 pc q h
  rcases mm_find_app _ _ _ _ h with h | h
  · exact mm_chkL_ok mm_Yt_ok mm_Df_ok _ _ ck_law_9 pc q h
  rcases mm_find_app _ _ _ _ h with h | h
  · exact mm_chkL_ok mm_Yt_ok mm_Df_ok _ _ ck_law_10 pc q h
  rcases mm_find_app _ _ _ _ h with h | h
  · exact mm_chkL_ok mm_Yt_ok mm_Df_ok _ _ ck_law_11 pc q h
  rcases mm_find_app _ _ _ _ h with h | h
  · exact mm_chkL_ok mm_Yt_ok mm_Df_ok _ _ ck_law_12 pc q h
  rcases mm_find_app _ _ _ _ h with h | h
  · exact mm_chkL_ok mm_Yt_ok mm_Df_ok _ _ ck_law_13 pc q h
  rcases mm_find_app _ _ _ _ h with h | h
  · exact mm_chkL_ok mm_Yt_ok mm_Df_ok _ _ ck_law_14 pc q h
  rcases mm_find_app _ _ _ _ h with h | h
  · exact mm_chkL_ok mm_Yt_ok mm_Df_ok _ _ ck_law_15 pc q h
  exact mm_chkL_ok mm_Yt_ok mm_Df_ok _ _ ck_law_16 pc q h
