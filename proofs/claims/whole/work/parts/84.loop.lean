/-! the law: its loop -/
section LP
variable {A B : Nat → Nat → Nat} {i j : Nat} {scr : List Int32}
theorem ix (hl : scr.length ≤ 2560) (h : i + j < scr.length) : (¬ (nI i + nI j) < 0) ∧ scr[(nI i + nI j).toNatClampNeg]? = some scr[i + j] := by
  rw [n_add, n_neg (by omega), n_cl (by omega)]
  exact ⟨id, List.getElem?_eq_getElem h⟩
theorem law_0 (hi : zIV A) (hl : scr.length ≤ 2560) (h : i + 4 < scr.length) : ∃ A2, zIV A2 ∧ zd scr 154 160 [some (.retAddr 0), some (.ref 0), some (.ref 70), some (.int (nI i))] [] (wd A) = zd scr 154 854 [some (.retAddr 0), some (.ref 0), some (.ref 70), some (.int (nI i))] [] (wd A2) := by
  obtain ⟨r, A1, A2, h1, h2, h3⟩ := (op_come scr[i + 1] scr[i + 2] : zOP scr _ _ _) A hi
  exact ⟨A2, h3, (b154_160 (ix hl (by omega)).1 (ix hl (by omega)).2 (ix hl (by omega)).1 (ix hl (by omega)).2 (o_ob o_0) h1 (ix hl (by omega)).1 (ix hl (by omega)).2 (ix hl (by omega)).1 (ix hl (by omega)).2 oR h2).trans (if_pos rfl)⟩
theorem law_1 (hi : zIV A) (hl : scr.length ≤ 2560) (h : i + 4 < scr.length) : ∃ A2, zIV A2 ∧ zd scr 154 193 [some (.retAddr 0), some (.ref 0), some (.ref 70), some (.int (nI i))] [] (wd A) = zd scr 154 854 [some (.retAddr 0), some (.ref 0), some (.ref 70), some (.int (nI i))] [] (wd A2) := by
  obtain ⟨r, A1, A2, h1, h2, h3⟩ := (op_leave scr[i + 1] : zOP scr _ _ _) A hi
  exact ⟨A2, h3, (b154_193 (ix hl (by omega)).1 (ix hl (by omega)).2 (o_ob o_0) h1 (ix hl (by omega)).1 (ix hl (by omega)).2 oR h2).trans (if_pos rfl)⟩
theorem law_2 (hi : zIV A) (hl : scr.length ≤ 2560) (h : i + 4 < scr.length) : ∃ A2, zIV A2 ∧ zd scr 154 216 [some (.retAddr 0), some (.ref 0), some (.ref 70), some (.int (nI i))] [] (wd A) = zd scr 154 854 [some (.retAddr 0), some (.ref 0), some (.ref 70), some (.int (nI i))] [] (wd A2) := by
  obtain ⟨r, A1, A2, h1, h2, h3⟩ := (op_wish scr[i + 1] scr[i + 2] : zOP scr _ _ _) A hi
  exact ⟨A2, h3, (b154_216 (ix hl (by omega)).1 (ix hl (by omega)).2 (ix hl (by omega)).1 (ix hl (by omega)).2 (o_ob o_0) h1 (ix hl (by omega)).1 (ix hl (by omega)).2 (ix hl (by omega)).1 (ix hl (by omega)).2 oR h2).trans (if_pos rfl)⟩
theorem law_3 (hi : zIV A) (hl : scr.length ≤ 2560) (h : i + 4 < scr.length) : ∃ A2, zIV A2 ∧ zd scr 154 249 [some (.retAddr 0), some (.ref 0), some (.ref 70), some (.int (nI i))] [] (wd A) = zd scr 154 854 [some (.retAddr 0), some (.ref 0), some (.ref 70), some (.int (nI i))] [] (wd A2) := by
  obtain ⟨r, A1, A2, h1, h2, h3⟩ := (op_setRule scr[i + 1] : zOP scr _ _ _) A hi
  exact ⟨A2, h3, (b154_249 (ix hl (by omega)).1 (ix hl (by omega)).2 (o_ob o_0) h1 (ix hl (by omega)).1 (ix hl (by omega)).2 oR h2).trans (if_pos rfl)⟩
theorem law_4 (hi : zIV A) (hl : scr.length ≤ 2560) (h : i + 4 < scr.length) : ∃ A2, zIV A2 ∧ zd scr 154 272 [some (.retAddr 0), some (.ref 0), some (.ref 70), some (.int (nI i))] [] (wd A) = zd scr 154 854 [some (.retAddr 0), some (.ref 0), some (.ref 70), some (.int (nI i))] [] (wd A2) := by
  obtain ⟨r, A1, A2, h1, h2, h3⟩ := (op_setPatience scr[i + 1] : zOP scr _ _ _) A hi
  exact ⟨A2, h3, (b154_272 (ix hl (by omega)).1 (ix hl (by omega)).2 (o_ob o_0) h1 (ix hl (by omega)).1 (ix hl (by omega)).2 oR h2).trans (if_pos rfl)⟩
theorem law_5 (hi : zIV A) (hl : scr.length ≤ 2560) (h : i + 4 < scr.length) : ∃ A2, zIV A2 ∧ zd scr 154 295 [some (.retAddr 0), some (.ref 0), some (.ref 70), some (.int (nI i))] [] (wd A) = zd scr 154 854 [some (.retAddr 0), some (.ref 0), some (.ref 70), some (.int (nI i))] [] (wd A2) := by
  obtain ⟨r, A1, A2, h1, h2, h3⟩ := (op_grant scr[i + 1] scr[i + 2] : zOP scr _ _ _) A hi
  exact ⟨A2, h3, (b154_295 (ix hl (by omega)).1 (ix hl (by omega)).2 (ix hl (by omega)).1 (ix hl (by omega)).2 (o_ob o_0) h1 (ix hl (by omega)).1 (ix hl (by omega)).2 (ix hl (by omega)).1 (ix hl (by omega)).2 oR h2).trans (if_pos rfl)⟩
theorem law_6 (hi : zIV A) (hl : scr.length ≤ 2560) (h : i + 4 < scr.length) : ∃ A2, zIV A2 ∧ zd scr 154 328 [some (.retAddr 0), some (.ref 0), some (.ref 70), some (.int (nI i))] [] (wd A) = zd scr 154 854 [some (.retAddr 0), some (.ref 0), some (.ref 70), some (.int (nI i))] [] (wd A2) := by
  obtain ⟨r, A1, A2, h1, h2, h3⟩ := (op_drop scr[i + 1] scr[i + 2] : zOP scr _ _ _) A hi
  exact ⟨A2, h3, (b154_328 (ix hl (by omega)).1 (ix hl (by omega)).2 (ix hl (by omega)).1 (ix hl (by omega)).2 (o_ob o_0) h1 (ix hl (by omega)).1 (ix hl (by omega)).2 (ix hl (by omega)).1 (ix hl (by omega)).2 oR h2).trans (if_pos rfl)⟩
theorem law_7 (hi : zIV A) (hl : scr.length ≤ 2560) (h : i + 4 < scr.length) : ∃ A2, zIV A2 ∧ zd scr 154 361 [some (.retAddr 0), some (.ref 0), some (.ref 70), some (.int (nI i))] [] (wd A) = zd scr 154 854 [some (.retAddr 0), some (.ref 0), some (.ref 70), some (.int (nI i))] [] (wd A2) := by
  obtain ⟨r, A1, A2, h1, h2, h3⟩ := op_round A hi
  exact ⟨A2, h3, (b154_361  (o_ob o_0) h1  oR h2).trans (if_pos rfl)⟩
theorem law_8 (hi : zIV A) (hl : scr.length ≤ 2560) (h : i + 4 < scr.length) : ∃ A2, zIV A2 ∧ zd scr 154 374 [some (.retAddr 0), some (.ref 0), some (.ref 70), some (.int (nI i))] [] (wd A) = zd scr 154 854 [some (.retAddr 0), some (.ref 0), some (.ref 70), some (.int (nI i))] [] (wd A2) := by
  obtain ⟨r, A1, A2, h1, h2, h3⟩ := op_divide A hi
  exact ⟨A2, h3, (b154_374  (o_ob o_0) h1  oR h2).trans (if_pos rfl)⟩
theorem law_9 (hi : zIV A) (hl : scr.length ≤ 2560) (h : i + 4 < scr.length) : ∃ A2, zIV A2 ∧ zd scr 154 387 [some (.retAddr 0), some (.ref 0), some (.ref 70), some (.int (nI i))] [] (wd A) = zd scr 154 854 [some (.retAddr 0), some (.ref 0), some (.ref 70), some (.int (nI i))] [] (wd A2) := by
  obtain ⟨r, A1, A2, h1, h2, h3⟩ := (op_swap scr[i + 1] scr[i + 2] scr[i + 3] scr[i + 4] : zOP scr _ _ _) A hi
  exact ⟨A2, h3, (b154_387 (ix hl (by omega)).1 (ix hl (by omega)).2 (ix hl (by omega)).1 (ix hl (by omega)).2 (ix hl (by omega)).1 (ix hl (by omega)).2 (ix hl (by omega)).1 (ix hl (by omega)).2 (o_ob o_0) h1 (ix hl (by omega)).1 (ix hl (by omega)).2 (ix hl (by omega)).1 (ix hl (by omega)).2 (ix hl (by omega)).1 (ix hl (by omega)).2 (ix hl (by omega)).1 (ix hl (by omega)).2 oR h2).trans (if_pos rfl)⟩
theorem law_10 (hi : zIV A) (hl : scr.length ≤ 2560) (h : i + 4 < scr.length) : ∃ A2, zIV A2 ∧ zd scr 154 440 [some (.retAddr 0), some (.ref 0), some (.ref 70), some (.int (nI i))] [] (wd A) = zd scr 154 854 [some (.retAddr 0), some (.ref 0), some (.ref 70), some (.int (nI i))] [] (wd A2) := by
  obtain ⟨r, A1, A2, h1, h2, h3⟩ := op_settle A hi
  exact ⟨A2, h3, (b154_440  (o_ob o_0) h1  oR h2).trans (if_pos rfl)⟩
theorem law_11 (hi : zIV A) (hl : scr.length ≤ 2560) (h : i + 4 < scr.length) : ∃ A2, zIV A2 ∧ zd scr 154 453 [some (.retAddr 0), some (.ref 0), some (.ref 70), some (.int (nI i))] [] (wd A) = zd scr 154 854 [some (.retAddr 0), some (.ref 0), some (.ref 70), some (.int (nI i))] [] (wd A2) := by
  obtain ⟨r, A1, A2, h1, h2, h3⟩ := (op_heir scr[i + 1] scr[i + 2] : zOP scr _ _ _) A hi
  exact ⟨A2, h3, (b154_453 (ix hl (by omega)).1 (ix hl (by omega)).2 (ix hl (by omega)).1 (ix hl (by omega)).2 (o_ob o_0) h1 (ix hl (by omega)).1 (ix hl (by omega)).2 (ix hl (by omega)).1 (ix hl (by omega)).2 oR h2).trans (if_pos rfl)⟩
theorem law_12 (hi : zIV A) (hl : scr.length ≤ 2560) (h : i + 4 < scr.length) : ∃ A2, zIV A2 ∧ zd scr 154 486 [some (.retAddr 0), some (.ref 0), some (.ref 70), some (.int (nI i))] [] (wd A) = zd scr 154 854 [some (.retAddr 0), some (.ref 0), some (.ref 70), some (.int (nI i))] [] (wd A2) := by
  obtain ⟨r, A1, A2, h1, h2, h3⟩ := (op_bag scr[i + 1] scr[i + 2] scr[i + 3] : zOP scr _ _ _) A hi
  exact ⟨A2, h3, (b154_486 (ix hl (by omega)).1 (ix hl (by omega)).2 (ix hl (by omega)).1 (ix hl (by omega)).2 (ix hl (by omega)).1 (ix hl (by omega)).2 (o_ob o_0) h1 (ix hl (by omega)).1 (ix hl (by omega)).2 (ix hl (by omega)).1 (ix hl (by omega)).2 (ix hl (by omega)).1 (ix hl (by omega)).2 oR h2).trans (if_pos rfl)⟩
theorem law_13 (hi : zIV A) (hl : scr.length ≤ 2560) (h : i + 4 < scr.length) : ∃ A2, zIV A2 ∧ zd scr 154 529 [some (.retAddr 0), some (.ref 0), some (.ref 70), some (.int (nI i))] [] (wd A) = zd scr 154 854 [some (.retAddr 0), some (.ref 0), some (.ref 70), some (.int (nI i))] [] (wd A2) := by
  obtain ⟨r, A1, A2, h1, h2, h3⟩ := (op_hopper scr[i + 1] scr[i + 2] : zOP scr _ _ _) A hi
  exact ⟨A2, h3, (b154_529 (ix hl (by omega)).1 (ix hl (by omega)).2 (ix hl (by omega)).1 (ix hl (by omega)).2 (o_ob o_0) h1 (ix hl (by omega)).1 (ix hl (by omega)).2 (ix hl (by omega)).1 (ix hl (by omega)).2 oR h2).trans (if_pos rfl)⟩
theorem law_14 (hi : zIV A) (hl : scr.length ≤ 2560) (h : i + 4 < scr.length) : ∃ A2, zIV A2 ∧ zd scr 154 562 [some (.retAddr 0), some (.ref 0), some (.ref 70), some (.int (nI i))] [] (wd A) = zd scr 154 854 [some (.retAddr 0), some (.ref 0), some (.ref 70), some (.int (nI i))] [] (wd A2) := by
  obtain ⟨r, A1, A2, h1, h2, h3⟩ := (op_vetoes scr[i + 1] : zOP scr _ _ _) A hi
  exact ⟨A2, h3, (b154_562 (ix hl (by omega)).1 (ix hl (by omega)).2 (o_ob o_0) h1 (ix hl (by omega)).1 (ix hl (by omega)).2 oR h2).trans (if_pos rfl)⟩
theorem law_15 (hi : zIV A) (hl : scr.length ≤ 2560) (h : i + 4 < scr.length) : ∃ A2, zIV A2 ∧ zd scr 154 585 [some (.retAddr 0), some (.ref 0), some (.ref 70), some (.int (nI i))] [] (wd A) = zd scr 154 854 [some (.retAddr 0), some (.ref 0), some (.ref 70), some (.int (nI i))] [] (wd A2) := by
  obtain ⟨r, A1, A2, h1, h2, h3⟩ := (op_at scr[i + 1] : zOP scr _ _ _) A hi
  exact ⟨A2, h3, (b154_585 (ix hl (by omega)).1 (ix hl (by omega)).2 (o_ob o_0) h1 (ix hl (by omega)).1 (ix hl (by omega)).2 oR h2).trans (if_pos rfl)⟩
theorem law_16 (hi : zIV A) (hl : scr.length ≤ 2560) (h : i + 4 < scr.length) : ∃ A2, zIV A2 ∧ zd scr 154 608 [some (.retAddr 0), some (.ref 0), some (.ref 70), some (.int (nI i))] [] (wd A) = zd scr 154 854 [some (.retAddr 0), some (.ref 0), some (.ref 70), some (.int (nI i))] [] (wd A2) := by
  obtain ⟨r, A1, A2, h1, h2, h3⟩ := (op_total scr[i + 1] : zOP scr _ _ _) A hi
  exact ⟨A2, h3, (b154_608 (ix hl (by omega)).1 (ix hl (by omega)).2 (o_ob o_0) h1 (ix hl (by omega)).1 (ix hl (by omega)).2 oR h2).trans (if_pos rfl)⟩
theorem law_17 (hi : zIV A) (hl : scr.length ≤ 2560) (h : i + 4 < scr.length) : ∃ A2, zIV A2 ∧ zd scr 154 631 [some (.retAddr 0), some (.ref 0), some (.ref 70), some (.int (nI i))] [] (wd A) = zd scr 154 854 [some (.retAddr 0), some (.ref 0), some (.ref 70), some (.int (nI i))] [] (wd A2) := by
  obtain ⟨r, A1, A2, h1, h2, h3⟩ := (op_ifDivided scr[i + 1] scr[i + 2] : zOP scr _ _ _) A hi
  exact ⟨A2, h3, (b154_631 (ix hl (by omega)).1 (ix hl (by omega)).2 (ix hl (by omega)).1 (ix hl (by omega)).2 (o_ob o_0) h1 (ix hl (by omega)).1 (ix hl (by omega)).2 (ix hl (by omega)).1 (ix hl (by omega)).2 oR h2).trans (if_pos rfl)⟩
theorem law_18 (hi : zIV A) (hl : scr.length ≤ 2560) (h : i + 4 < scr.length) : ∃ A2, zIV A2 ∧ zd scr 154 664 [some (.retAddr 0), some (.ref 0), some (.ref 70), some (.int (nI i))] [] (wd A) = zd scr 154 854 [some (.retAddr 0), some (.ref 0), some (.ref 70), some (.int (nI i))] [] (wd A2) := by
  obtain ⟨r, A1, A2, h1, h2, h3⟩ := op_fairestRule A hi
  exact ⟨A2, h3, (b154_664  (o_ob o_0) h1  oR h2).trans (if_pos rfl)⟩
theorem law_19 (hi : zIV A) (hl : scr.length ≤ 2560) (h : i + 4 < scr.length) : ∃ A2, zIV A2 ∧ zd scr 154 677 [some (.retAddr 0), some (.ref 0), some (.ref 70), some (.int (nI i))] [] (wd A) = zd scr 154 854 [some (.retAddr 0), some (.ref 0), some (.ref 70), some (.int (nI i))] [] (wd A2) := by
  obtain ⟨r, A1, A2, h1, h2, h3⟩ := (op_whoVetoes scr[i + 1] scr[i + 2] scr[i + 3] scr[i + 4] : zOP scr _ _ _) A hi
  exact ⟨A2, h3, (b154_677 (ix hl (by omega)).1 (ix hl (by omega)).2 (ix hl (by omega)).1 (ix hl (by omega)).2 (ix hl (by omega)).1 (ix hl (by omega)).2 (ix hl (by omega)).1 (ix hl (by omega)).2 (o_ob o_0) h1 (ix hl (by omega)).1 (ix hl (by omega)).2 (ix hl (by omega)).1 (ix hl (by omega)).2 (ix hl (by omega)).1 (ix hl (by omega)).2 (ix hl (by omega)).1 (ix hl (by omega)).2 oR h2).trans (if_pos rfl)⟩
theorem law_20 (hi : zIV A) (hl : scr.length ≤ 2560) (h : i + 4 < scr.length) : ∃ A2, zIV A2 ∧ zd scr 154 730 [some (.retAddr 0), some (.ref 0), some (.ref 70), some (.int (nI i))] [] (wd A) = zd scr 154 854 [some (.retAddr 0), some (.ref 0), some (.ref 70), some (.int (nI i))] [] (wd A2) := by
  obtain ⟨r, A1, A2, h1, h2, h3⟩ := (op_bestSwap scr[i + 1] : zOP scr _ _ _) A hi
  exact ⟨A2, h3, (b154_730 (ix hl (by omega)).1 (ix hl (by omega)).2 (o_ob o_0) h1 (ix hl (by omega)).1 (ix hl (by omega)).2 oR h2).trans (if_pos rfl)⟩
theorem law_21 (hi : zIV A) (hl : scr.length ≤ 2560) (h : i + 4 < scr.length) : ∃ A2, zIV A2 ∧ zd scr 154 753 [some (.retAddr 0), some (.ref 0), some (.ref 70), some (.int (nI i))] [] (wd A) = zd scr 154 854 [some (.retAddr 0), some (.ref 0), some (.ref 70), some (.int (nI i))] [] (wd A2) := by
  obtain ⟨r, A1, A2, h1, h2, h3⟩ := (op_append scr[i + 1] : zOP scr _ _ _) A hi
  exact ⟨A2, h3, (b154_753 (ix hl (by omega)).1 (ix hl (by omega)).2 (o_ob o_0) h1 (ix hl (by omega)).1 (ix hl (by omega)).2 oR h2).trans (if_pos rfl)⟩
theorem law_22 (hi : zIV A) (hl : scr.length ≤ 2560) (h : i + 4 < scr.length) : ∃ A2, zIV A2 ∧ zd scr 154 776 [some (.retAddr 0), some (.ref 0), some (.ref 70), some (.int (nI i))] [] (wd A) = zd scr 154 854 [some (.retAddr 0), some (.ref 0), some (.ref 70), some (.int (nI i))] [] (wd A2) := by
  obtain ⟨r, A1, A2, h1, h2, h3⟩ := op_clearText A hi
  exact ⟨A2, h3, (b154_776  (o_ob o_0) h1  oR h2).trans (if_pos rfl)⟩
theorem law_23 (hi : zIV A) (hl : scr.length ≤ 2560) (h : i + 4 < scr.length) : ∃ A2, zIV A2 ∧ zd scr 154 789 [some (.retAddr 0), some (.ref 0), some (.ref 70), some (.int (nI i))] [] (wd A) = zd scr 154 854 [some (.retAddr 0), some (.ref 0), some (.ref 70), some (.int (nI i))] [] (wd A2) := by
  obtain ⟨r, A1, A2, h1, h2, h3⟩ := op_errorPosition A hi
  exact ⟨A2, h3, (b154_789  (o_ob o_0) h1  oR h2).trans (if_pos rfl)⟩
theorem law_24 (hi : zIV A) (hl : scr.length ≤ 2560) (h : i + 4 < scr.length) : ∃ A2, zIV A2 ∧ zd scr 154 802 [some (.retAddr 0), some (.ref 0), some (.ref 70), some (.int (nI i))] [] (wd A) = zd scr 154 854 [some (.retAddr 0), some (.ref 0), some (.ref 70), some (.int (nI i))] [] (wd A2) := by
  obtain ⟨r, A1, A2, h1, h2, h3⟩ := op_pour A hi
  exact ⟨A2, h3, (b154_802  (o_ob o_0) h1  oR h2).trans (if_pos rfl)⟩
theorem law_25 (hi : zIV A) (hl : scr.length ≤ 2560) (h : i + 4 < scr.length) : ∃ A2, zIV A2 ∧ zd scr 154 815 [some (.retAddr 0), some (.ref 0), some (.ref 70), some (.int (nI i))] [] (wd A) = zd scr 154 854 [some (.retAddr 0), some (.ref 0), some (.ref 70), some (.int (nI i))] [] (wd A2) := by
  obtain ⟨r, A1, A2, h1, h2, h3⟩ := op_undo A hi
  exact ⟨A2, h3, (b154_815  (o_ob o_0) h1  oR h2).trans (if_pos rfl)⟩
theorem law_26 (hi : zIV A) (hl : scr.length ≤ 2560) (h : i + 4 < scr.length) : ∃ A2, zIV A2 ∧ zd scr 154 828 [some (.retAddr 0), some (.ref 0), some (.ref 70), some (.int (nI i))] [] (wd A) = zd scr 154 854 [some (.retAddr 0), some (.ref 0), some (.ref 70), some (.int (nI i))] [] (wd A2) := by
  obtain ⟨r, A1, A2, h1, h2, h3⟩ := op_save A hi
  exact ⟨A2, h3, (b154_828  (o_ob o_0) h1  oR h2).trans (if_pos rfl)⟩
theorem law_27 (hi : zIV A) (hl : scr.length ≤ 2560) (h : i + 4 < scr.length) : ∃ A2, zIV A2 ∧ zd scr 154 841 [some (.retAddr 0), some (.ref 0), some (.ref 70), some (.int (nI i))] [] (wd A) = zd scr 154 854 [some (.retAddr 0), some (.ref 0), some (.ref 70), some (.int (nI i))] [] (wd A2) := by
  obtain ⟨r, A1, A2, h1, h2, h3⟩ := op_restore A hi
  exact ⟨A2, h3, (b154_841  (o_ob o_0) h1  oR h2).trans (if_pos rfl)⟩
theorem law_step (hi : zIV A) (hl : scr.length ≤ 2560) (h : i + 4 < scr.length) : ∃ A2, zIV A2 ∧ zd scr 154 26 [some (.retAddr 0), some (.ref 0), some (.ref 70), some (.int (nI i))] [] (wd A) = zd scr 154 18 [some (.retAddr 0), some (.ref 0), some (.ref 70), some (.int (nI (i + 5)))] [] (wd A2) := by
  have n0 : ¬ nI i < 0 := by rw [n_neg (by omega)]; exact id
  have g0 : scr[(nI i).toNatClampNeg]? = some scr[i] := by rw [n_cl (by omega)]; exact List.getElem?_eq_getElem (by omega)
  have fin : ∀ A2, zd scr 154 854 [some (.retAddr 0), some (.ref 0), some (.ref 70), some (.int (nI i))] [] (wd A2) = zd scr 154 18 [some (.retAddr 0), some (.ref 0), some (.ref 70), some (.int (nI (i + 5)))] [] (wd A2) := fun A2 => by
    rw [← n_add]; exact b154_854
  rcases i5_cases (scr[i] &&& nI 31) 27 (by omega) with ⟨k, hk, e⟩ | ⟨-, e⟩
  case inr => exact ⟨A, hi, (b154_26_d n0 g0 e).trans (fin A)⟩
  have hk2 : k = 0 ∨ k = 1 ∨ k = 2 ∨ k = 3 ∨ k = 4 ∨ k = 5 ∨ k = 6 ∨ k = 7 ∨ k = 8 ∨ k = 9 ∨ k = 10 ∨ k = 11 ∨ k = 12 ∨ k = 13 ∨ k = 14 ∨ k = 15 ∨ k = 16 ∨ k = 17 ∨ k = 18 ∨ k = 19 ∨ k = 20 ∨ k = 21 ∨ k = 22 ∨ k = 23 ∨ k = 24 ∨ k = 25 ∨ k = 26 ∨ k = 27 := by omega
  rcases hk2 with rfl | rfl | rfl | rfl | rfl | rfl | rfl | rfl | rfl | rfl | rfl | rfl | rfl | rfl | rfl | rfl | rfl | rfl | rfl | rfl | rfl | rfl | rfl | rfl | rfl | rfl | rfl | rfl
  · obtain ⟨A2, a1, a2⟩ := law_0 hi hl h; exact ⟨A2, a1, (b154_26_c0 n0 g0 e).trans (a2.trans (fin A2))⟩
  · obtain ⟨A2, a1, a2⟩ := law_1 hi hl h; exact ⟨A2, a1, (b154_26_c1 n0 g0 e).trans (a2.trans (fin A2))⟩
  · obtain ⟨A2, a1, a2⟩ := law_2 hi hl h; exact ⟨A2, a1, (b154_26_c2 n0 g0 e).trans (a2.trans (fin A2))⟩
  · obtain ⟨A2, a1, a2⟩ := law_3 hi hl h; exact ⟨A2, a1, (b154_26_c3 n0 g0 e).trans (a2.trans (fin A2))⟩
  · obtain ⟨A2, a1, a2⟩ := law_4 hi hl h; exact ⟨A2, a1, (b154_26_c4 n0 g0 e).trans (a2.trans (fin A2))⟩
  · obtain ⟨A2, a1, a2⟩ := law_5 hi hl h; exact ⟨A2, a1, (b154_26_c5 n0 g0 e).trans (a2.trans (fin A2))⟩
  · obtain ⟨A2, a1, a2⟩ := law_6 hi hl h; exact ⟨A2, a1, (b154_26_c6 n0 g0 e).trans (a2.trans (fin A2))⟩
  · obtain ⟨A2, a1, a2⟩ := law_7 hi hl h; exact ⟨A2, a1, (b154_26_c7 n0 g0 e).trans (a2.trans (fin A2))⟩
  · obtain ⟨A2, a1, a2⟩ := law_8 hi hl h; exact ⟨A2, a1, (b154_26_c8 n0 g0 e).trans (a2.trans (fin A2))⟩
  · obtain ⟨A2, a1, a2⟩ := law_9 hi hl h; exact ⟨A2, a1, (b154_26_c9 n0 g0 e).trans (a2.trans (fin A2))⟩
  · obtain ⟨A2, a1, a2⟩ := law_10 hi hl h; exact ⟨A2, a1, (b154_26_c10 n0 g0 e).trans (a2.trans (fin A2))⟩
  · obtain ⟨A2, a1, a2⟩ := law_11 hi hl h; exact ⟨A2, a1, (b154_26_c11 n0 g0 e).trans (a2.trans (fin A2))⟩
  · obtain ⟨A2, a1, a2⟩ := law_12 hi hl h; exact ⟨A2, a1, (b154_26_c12 n0 g0 e).trans (a2.trans (fin A2))⟩
  · obtain ⟨A2, a1, a2⟩ := law_13 hi hl h; exact ⟨A2, a1, (b154_26_c13 n0 g0 e).trans (a2.trans (fin A2))⟩
  · obtain ⟨A2, a1, a2⟩ := law_14 hi hl h; exact ⟨A2, a1, (b154_26_c14 n0 g0 e).trans (a2.trans (fin A2))⟩
  · obtain ⟨A2, a1, a2⟩ := law_15 hi hl h; exact ⟨A2, a1, (b154_26_c15 n0 g0 e).trans (a2.trans (fin A2))⟩
  · obtain ⟨A2, a1, a2⟩ := law_16 hi hl h; exact ⟨A2, a1, (b154_26_c16 n0 g0 e).trans (a2.trans (fin A2))⟩
  · obtain ⟨A2, a1, a2⟩ := law_17 hi hl h; exact ⟨A2, a1, (b154_26_c17 n0 g0 e).trans (a2.trans (fin A2))⟩
  · obtain ⟨A2, a1, a2⟩ := law_18 hi hl h; exact ⟨A2, a1, (b154_26_c18 n0 g0 e).trans (a2.trans (fin A2))⟩
  · obtain ⟨A2, a1, a2⟩ := law_19 hi hl h; exact ⟨A2, a1, (b154_26_c19 n0 g0 e).trans (a2.trans (fin A2))⟩
  · obtain ⟨A2, a1, a2⟩ := law_20 hi hl h; exact ⟨A2, a1, (b154_26_c20 n0 g0 e).trans (a2.trans (fin A2))⟩
  · obtain ⟨A2, a1, a2⟩ := law_21 hi hl h; exact ⟨A2, a1, (b154_26_c21 n0 g0 e).trans (a2.trans (fin A2))⟩
  · obtain ⟨A2, a1, a2⟩ := law_22 hi hl h; exact ⟨A2, a1, (b154_26_c22 n0 g0 e).trans (a2.trans (fin A2))⟩
  · obtain ⟨A2, a1, a2⟩ := law_23 hi hl h; exact ⟨A2, a1, (b154_26_c23 n0 g0 e).trans (a2.trans (fin A2))⟩
  · obtain ⟨A2, a1, a2⟩ := law_24 hi hl h; exact ⟨A2, a1, (b154_26_c24 n0 g0 e).trans (a2.trans (fin A2))⟩
  · obtain ⟨A2, a1, a2⟩ := law_25 hi hl h; exact ⟨A2, a1, (b154_26_c25 n0 g0 e).trans (a2.trans (fin A2))⟩
  · obtain ⟨A2, a1, a2⟩ := law_26 hi hl h; exact ⟨A2, a1, (b154_26_c26 n0 g0 e).trans (a2.trans (fin A2))⟩
  · obtain ⟨A2, a1, a2⟩ := law_27 hi hl h; exact ⟨A2, a1, (b154_26_c27 n0 g0 e).trans (a2.trans (fin A2))⟩
theorem law_loop (hl : scr.length ≤ 2560) : ∀ n i (A : Nat → Nat → Nat), zIV A → scr.length ≤ i + n → i ≤ 2570 → ∃ A2, zd scr 154 18 [some (.retAddr 0), some (.ref 0), some (.ref 70), some (.int (nI i))] [] (wd A) = some (some (.int (nI 1)), wd A2) := by
  intro n
  have stop : ∀ i (A : Nat → Nat → Nat), i ≤ 2570 → ¬ i + 4 < scr.length → zd scr 154 18 [some (.retAddr 0), some (.ref 0), some (.ref 70), some (.int (nI i))] [] (wd A) = some (some (.int (nI 1)), wd A) := fun i A hi h => by
    refine b154_18.trans ((if_neg ?_).trans b154_860)
    show ¬ nI i ≤ nI scr.length - nI 5
    rw [Int32.le_iff_toInt_le, n_subI (by omega) (by omega), n_toInt (by omega)]
    omega
  induction n with
  | zero => intro i A _ h hi; exact ⟨A, stop i A hi (by omega)⟩
  | succ n ih =>
    intro i A hv h hi
    by_cases c : i + 4 < scr.length
    · obtain ⟨A2, a1, a2⟩ := law_step hv hl c
      obtain ⟨A3, a3⟩ := ih (i + 5) A2 a1 (by omega) (by omega)
      refine ⟨A3, b154_18.trans ((if_pos ?_).trans (a2.trans a3))⟩
      show nI i ≤ nI scr.length - nI 5
      rw [Int32.le_iff_toInt_le, n_subI (by omega) (by omega), n_toInt (by omega)]
      omega
    · exact ⟨A, stop i A hi c⟩
end LP
