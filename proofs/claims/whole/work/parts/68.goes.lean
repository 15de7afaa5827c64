/-! MarbleHeirsModel: the buffer -/
/-- both buffers hold the same -/
def zTX (A : Nat → Nat → Nat) : Prop := txOk A ∧ A 70 7 = A 67 1 ∧ ∀ i, i < A 67 1 → A 75 i = A 68 i
def nxt (A : Nat → Nat → Nat) (j : Nat) : Nat := if j < A 67 1 then A 68 j else 0
def drN (b : Nat → Nat) (x : Nat) : Nat → Nat → Nat
  | 0 => b
  | n + 1 => drB (drN b x n) x
def itB (A : Nat → Nat → Nat) : Nat → Nat → (Nat → Nat) → (Nat → Nat)
  | 0, _, b => b
  | n + 1, i, b => if i = A 67 1 then b else itB A n (i + itd A i + 2) (drN b (itx A i) (itm A i))
section GS
variable {A B : Nat → Nat → Nat} {b c : Nat → Nat} {p q h k g n m i j t : Nat} {scr : List Int32}
/-- the same buffers, told by A -/
def zTB (A B : Nat → Nat → Nat) : Prop := B 70 7 = A 67 1 ∧ ∀ i, i < A 67 1 → B 75 i = A 68 i
theorem r_next (hB : zTB A B) (ho : txOk A) : zC scr 147 [.ref 70, .int (nI j)] (wd B) = some (some (.int (nI (nxt A j))), wd B) ∨ 2147483648 ≤ j := by
  by_cases hj : j < 2147483648
  · left
    have hl := ho.1
    rw [zC_of zh147]
    refine (b147_0 gR7).trans ?_
    rw [hB.1]
    unfold nxt
    by_cases c : j < A 67 1
    · rw [i_lt c (by omega), if_pos c]
      refine (b147_8 gR6 (w_al zra75 (by omega) (by omega))).trans ?_
      rw [hB.2 j c]
    · rw [i_nlt c hj, if_neg c]
      exact b147_17
  · right; omega
theorem r_next' (hB : zTB A B) (ho : txOk A) (hj : j < 1000) : zC scr 147 [.ref 70, .int (nI j)] (wd B) = some (some (.int (nI (nxt A j))), wd B) := (r_next hB ho).resolve_right (by omega)
theorem nxt_lt (ho : txOk A) (j : Nat) : nxt A j < 127 := by
  unfold nxt
  by_cases c : j < A 67 1
  · rw [if_pos c]; have := ho.2 j c; omega
  · rw [if_neg c]; omega
theorem isD_0 : isD 0 = false := by decide
theorem isL_0 : isL 0 = false := by decide
theorem r_dig {c : Nat} (hc : c < 1000) : zC scr 87 [.int (nI c), .int (nI 49), .int (nI 57)] (wd B) = some (some (.int (if isD c = true then nI 1 else nI 0)), wd B) := by
  rw [r_in]
  refine congrArg (fun y => some (some (Value.int y), wd B)) (ite_iff ?_ _ _)
  rw [n_lt (by omega) (by omega), n_le (by omega) (by omega), isD_iff]
  omega
theorem r_colourFor {c : Nat} (hc : c < 1000) : zC scr 146 [.int (nI c)] (wd B) = some (some (.int (if isL c = true then nI (clr c) else -6)), wd B) := by
  have hne : ∀ k, k < 1000 → ¬ c = k → ¬ nI c = nI k := fun k hk h => by rw [n_inj (by omega) (by omega)]; exact h
  rw [zC_of zh146]
  by_cases h98 : c = 98
  · subst h98; exact (b146_0_c98 rfl).trans b146_64
  by_cases h103 : c = 103
  · subst h103; exact (b146_0_c103 rfl).trans b146_62
  by_cases h107 : c = 107
  · subst h107; exact (b146_0_c107 rfl).trans b146_70
  by_cases h114 : c = 114
  · subst h114; exact (b146_0_c114 rfl).trans b146_60
  by_cases h119 : c = 119
  · subst h119; exact (b146_0_c119 rfl).trans b146_68
  by_cases h121 : c = 121
  · subst h121; exact (b146_0_c121 rfl).trans b146_66
  rw [if_neg (by rw [isL_iff]; omega)]
  exact (b146_0_d (hne _ (by omega) h98) (hne _ (by omega) h103) (hne _ (by omega) h107) (hne _ (by omega) h114) (hne _ (by omega) h119) (hne _ (by omega) h121)).trans b146_72
theorem r_drops {c v : Nat} (h6 : A 71 6 < 100) : zC scr 125 [.ref 70, .int (nI c), .int (nI v)] (wd A) = some (none, wd (sb A (drB (A 71) (c * 10 + v)))) := by
  rw [zC_of zh125]
  refine (b125_0 (f3 := nI (A 71 6)) (f5 := nI (A 71 6)) (w1 := wd (sb A (ups (A 71) (30 + A 71 6) (c * 10 + v)))) gR0 gR0 (aR (by omega)) (by rw [n_add, n_mul, n_add, sR _ (by omega), up71, Nat.mul_comm]) gR0 (by rw [aR' (by omega), ups_ne (by omega)]) (by rw [n_add, sR' (by omega)])).trans ?_
  rfl
/-- from an item to behind its letter and digit -/
theorem r_item {d : Nat} {v3 v4 v5 : Option Value} (hB : zTB A B) (ho : txOk A) (hi : i < A 67 1 ∨ i = 0) (hil : i ≤ A 67 1) (hd : d < 2) : zd scr 148 7 [some (.ref 70), some (.int (nI d)), some (.int (nI i)), v3, v4, v5] [] (wd B) = if ¬ isL (nxt A (i + itd A i)) = true ∨ (i = A 67 1) then some (some (.int (nI (if i = A 67 1 then i else i + itd A i))), wd B) else if ¬ isD (nxt A (i + itd A i + 1)) = true then some (some (.int (nI (i + itd A i + 1))), wd B) else zd scr 148 113 [some (.ref 70), some (.int (nI d)), some (.int (nI (i + itd A i))), some (.int (nI (itm A i))), some (.int (nI (clr (nxt A (i + itd A i))))), some (.int (nI 0))] [] (wd B) := by
  have hl := ho.1
  have hdl := itd_le (A := A) i
  -- in the loop
  have s19 : zd scr 148 7 [some (.ref 70), some (.int (nI d)), some (.int (nI i)), v3, v4, v5] [] (wd B) = zd scr 148 19 [some (.ref 70), some (.int (nI d)), some (.int (nI i)), v3, v4, v5] [] (wd B) := by
    refine (b148_7 gR7).trans ?_
    rw [hB.1]
    by_cases c : i < A 67 1
    · exact i_lt c (by omega)
    · refine (i_nlt c (by omega)).trans (b148_15.trans (i_eq0 (by omega)))
  -- from the letter on
  have sL : ∀ (e : Nat) (many : Nat), e = 0 ∨ e = 1 → zd scr 148 (if e = 0 then 67 else 63) [some (.ref 70), some (.int (nI d)), some (.int (nI i)), some (.int (nI many)), v4, v5] [.int (nI i)] (wd B) = if ¬ isL (nxt A (i + e)) = true then some (some (.int (nI (i + e))), wd B) else if ¬ isD (nxt A (i + e + 1)) = true then some (some (.int (nI (i + e + 1))), wd B) else zd scr 148 113 [some (.ref 70), some (.int (nI d)), some (.int (nI (i + e))), some (.int (nI many)), some (.int (nI (clr (nxt A (i + e))))), some (.int (nI 0))] [] (wd B) := by
    intro e many he
    have n1 := nxt_lt ho (i + e)
    have n2 := nxt_lt ho (i + e + 1)
    have s89 : ¬ ¬ isL (nxt A (i + e)) = true → zd scr 148 89 [some (.ref 70), some (.int (nI d)), some (.int (nI (i + e))), some (.int (nI many)), some (.int (nI (clr (nxt A (i + e))))), v5] [] (wd B) = if ¬ isD (nxt A (i + e + 1)) = true then some (some (.int (nI (i + e + 1))), wd B) else zd scr 148 113 [some (.ref 70), some (.int (nI d)), some (.int (nI (i + e))), some (.int (nI many)), some (.int (nI (clr (nxt A (i + e))))), some (.int (nI 0))] [] (wd B) := by
      intro _
      refine (b148_89 oR (by rw [n_add]; exact r_next' hB ho (by omega)) (r_dig (by omega))).trans ?_
      by_cases c : isD (nxt A (i + e + 1)) = true
      · rw [if_pos c, if_neg (show ¬ nI 1 = 0 by decide), if_neg (show ¬ ¬ isD (nxt A (i + e + 1)) = true from fun q => q c)]
        exact b148_110
      · rw [if_neg c, if_pos c, if_pos (by decide)]
        refine b148_106.trans ?_
        rw [n_add]
    have tail : (if (if isL (nxt A (i + e)) = true then nI (clr (nxt A (i + e))) else -6) = -6 then zd scr 148 87 [some (.ref 70), some (.int (nI d)), some (.int (nI (i + e))), some (.int (nI many)), some (.int (if isL (nxt A (i + e)) = true then nI (clr (nxt A (i + e))) else -6)), v5] [] (wd B) else zd scr 148 89 [some (.ref 70), some (.int (nI d)), some (.int (nI (i + e))), some (.int (nI many)), some (.int (if isL (nxt A (i + e)) = true then nI (clr (nxt A (i + e))) else -6)), v5] [] (wd B)) = if ¬ isL (nxt A (i + e)) = true then some (some (.int (nI (i + e))), wd B) else if ¬ isD (nxt A (i + e + 1)) = true then some (some (.int (nI (i + e + 1))), wd B) else zd scr 148 113 [some (.ref 70), some (.int (nI d)), some (.int (nI (i + e))), some (.int (nI many)), some (.int (nI (clr (nxt A (i + e))))), some (.int (nI 0))] [] (wd B) := by
      by_cases c : isL (nxt A (i + e)) = true
      · have := clr_lt (nxt A (i + e))
        simp only [if_pos c]
        rw [if_neg (nI_ne6 (by omega)), if_neg (fun q => q c)]
        exact s89 (fun q => q c)
      · simp only [if_neg c]
        rw [if_pos trivial, if_pos c]
        exact b148_87
    rcases he with rfl | rfl
    · rw [if_pos rfl]
      refine (b148_67 oR (by rw [n_add]; exact r_next' hB ho (by omega)) (r_colourFor (by omega))).trans ?_
      rw [n_add]
      exact tail
    · rw [if_neg (by omega)]
      refine (b148_63 oR (by rw [n_add]; exact r_next' hB ho (by omega)) (r_colourFor (by omega))).trans ?_
      rw [n_add]
      exact tail
  refine s19.trans ?_
  have n0 := nxt_lt ho i
  refine (b148_19 oR (r_next' hB ho (by omega)) (r_dig (by omega))).trans ?_
  by_cases c : isD (nxt A i) = true
  · have hiL : i < A 67 1 := by
      by_cases c2 : i < A 67 1
      · exact c2
      · exfalso
        unfold nxt at c
        rw [if_neg c2, isD_0] at c
        cases c
    have e1 : nxt A i = A 68 i := if_pos hiL
    rw [e1] at c
    have hdd : itd A i = 1 := if_pos c
    have hmm : itm A i = A 68 i - 48 := if_pos c
    have d0 := (isD_iff _).mp c
    rw [e1, if_pos c, if_neg (by decide)]
    refine (b148_34 oR (r_next' hB ho (by omega)) oR (r_next' hB ho (by omega)) (r_dig (by omega))).trans ?_
    rw [e1, if_pos c, if_neg (by decide), n_sub (by omega)]
    have := sL 1 (A 68 i - 48) (Or.inr rfl)
    rw [if_neg (by omega)] at this
    refine this.trans ?_
    rw [hdd, hmm, if_neg (show ¬ i = A 67 1 by omega)]
    by_cases c3 : ¬ isL (nxt A (i + 1)) = true
    · rw [if_pos c3, if_pos (Or.inl c3)]
    · exact (if_neg c3).trans (if_neg (fun q => q.elim c3 (fun q => by omega))).symm
  · rw [if_neg c, if_pos (by decide)]
    refine (b148_45 oR (r_next' hB ho (by omega)) (r_dig (by omega))).trans ?_
    rw [if_neg c, if_pos (by decide)]
    have := sL 0 1 (Or.inl rfl)
    rw [if_pos rfl] at this
    refine this.trans ?_
    rw [Nat.add_zero]
    by_cases c2 : i = A 67 1
    · have e0 : nxt A i = 0 := if_neg (by omega)
      rw [if_pos (Or.inr c2), if_pos c2, e0, isL_0, if_pos (by decide)]
    · have e1 : nxt A i = A 68 i := if_pos (by omega)
      rw [e1] at c
      have hdd : itd A i = 0 := if_neg c
      have hmm : itm A i = 1 := if_neg c
      simp only [hdd, hmm, Nat.add_zero, if_neg c2]
      by_cases c3 : ¬ isL (nxt A i) = true
      · rw [if_pos c3, if_pos (Or.inl c3)]
      · exact (if_neg c3).trans (if_neg (fun q => q.elim c3 c2)).symm
end GS
