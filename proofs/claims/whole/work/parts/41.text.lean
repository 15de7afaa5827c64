/-! Text: the buffer -/
def isL (c : Nat) : Bool := c == 98 || c == 103 || c == 107 || c == 114 || c == 119 || c == 121
def clr (c : Nat) : Nat := if c = 98 then 2 else if c = 103 then 1 else if c = 107 then 5 else if c = 114 then 0 else if c = 119 then 4 else 3
def isD (c : Nat) : Bool := Nat.ble 49 c && Nat.ble c 57
/-- what the character after these can be -/
def stg (s c : Nat) : Nat := if s = 2 then (if isD c then 0 else 3) else if isL c then 2 else if s = 0 ∧ isD c = true then 1 else 3
section TX
variable {A B : Nat → Nat → Nat} {p q h : Nat} {scr : List Int32}
theorem clr_lt (c : Nat) : clr c < 6 := by unfold clr; (repeat' split) <;> omega
theorem isL_iff (c : Nat) : isL c = true ↔ (c = 98 ∨ c = 103 ∨ c = 107 ∨ c = 114 ∨ c = 119 ∨ c = 121) := by
  unfold isL
  simp only [Bool.or_eq_true, beq_iff_eq, or_assoc]
theorem isD_iff (c : Nat) : isD c = true ↔ (49 ≤ c ∧ c ≤ 57) := by
  unfold isD
  simp only [Bool.and_eq_true, Nat.ble_eq]
theorem isDL {c : Nat} (h : isL c = true) : isD c = false := by
  rw [isL_iff] at h
  rw [Bool.eq_false_iff]
  intro q
  rw [isD_iff] at q
  omega
theorem t_colour {c : Nat} (hc : c < 1000) : zC scr 51 [.int (nI c)] (wd A) = some (some (.int (if isL c then nI (clr c) else -1)), wd A) := by
  have hne : ∀ k, k < 1000 → ¬ c = k → ¬ nI c = nI k := fun k hk h => by rw [n_inj (by omega) (by omega)]; exact h
  rw [zC_of zh51]
  by_cases h98 : c = 98
  · subst h98; exact (b51_0_c98 rfl).trans b51_64
  by_cases h103 : c = 103
  · subst h103; exact (b51_0_c103 rfl).trans b51_62
  by_cases h107 : c = 107
  · subst h107; exact (b51_0_c107 rfl).trans b51_70
  by_cases h114 : c = 114
  · subst h114; exact (b51_0_c114 rfl).trans b51_60
  by_cases h119 : c = 119
  · subst h119; exact (b51_0_c119 rfl).trans b51_68
  by_cases h121 : c = 121
  · subst h121; exact (b51_0_c121 rfl).trans b51_66
  rw [if_neg (by rw [isL_iff]; omega)]
  exact (b51_0_d (hne _ (by omega) h98) (hne _ (by omega) h103) (hne _ (by omega) h107) (hne _ (by omega) h114) (hne _ (by omega) h119) (hne _ (by omega) h121)).trans b51_72
theorem t_isL {c : Nat} (hc : c < 1000) : zC scr 50 [.int (nI c)] (wd A) = some (some (.int (if isL c then nI 1 else nI 0)), wd A) := by
  rw [zC_of zh50]
  refine (b50_0 (t_colour hc)).trans ?_
  by_cases h : isL c = true
  · rw [if_pos h, if_pos h, if_neg]
    · exact b50_8
    · have := clr_lt c
      rcases (show clr c = 0 ∨ clr c = 1 ∨ clr c = 2 ∨ clr c = 3 ∨ clr c = 4 ∨ clr c = 5 by omega) with e | e | e | e | e | e <;> rw [e] <;> decide
  · rw [if_neg h, if_neg h, if_pos rfl]
    exact b50_12
theorem t_stage {s c : Nat} (hs : s < 4) (hc : c < 1000) : zC scr 49 [.int (nI s), .int (nI c)] (wd A) = some (some (.int (nI (stg s c))), wd A) := by
  rw [zC_of zh49]
  have hd : ∀ d : Nat, (d = if isD c then 1 else 0) → (if nI s = nI 2 then zd scr 49 23 [some (.int (nI s)), some (.int (nI c)), some (.int (nI d))] [] (wd A) else zd scr 49 33 [some (.int (nI s)), some (.int (nI c)), some (.int (nI d))] [] (wd A)) = some (some (.int (nI (stg s c))), wd A) := by
    intro d hdd
    unfold stg
    by_cases h2 : s = 2
    · rw [i_eq h2, if_pos h2]
      refine b49_23.trans ?_
      by_cases hD : isD c = true
      · rw [if_pos hD] at hdd
        rw [i_ne0 (by omega) (by omega), if_pos hD]; exact b49_27
      · rw [if_neg hD] at hdd
        rw [i_eq0 hdd, if_neg hD]; exact b49_31
    · rw [i_ne h2 (by omega) (by omega), if_neg h2]
      refine (b49_33 (t_isL hc)).trans ?_
      by_cases hL : isL c = true
      · rw [if_pos hL, if_pos hL, if_neg (by decide)]; exact b49_40
      · rw [if_neg hL, if_neg hL, if_pos (by decide)]
        refine b49_42.trans ?_
        by_cases h0 : s = 0
        · rw [i_eq0 h0]
          refine b49_46.trans ?_
          by_cases hD : isD c = true
          · rw [if_pos hD] at hdd
            rw [i_ne0 (by omega) (by omega), if_pos ⟨h0, hD⟩]; exact b49_50
          · rw [if_neg hD] at hdd
            rw [i_eq0 hdd, if_neg (fun q => hD q.2)]; exact b49_54
        · rw [i_ne0 h0 (by omega), if_neg (fun q => h0 q.1)]; exact b49_54
  refine b49_0.trans ?_
  by_cases c1 : c < 49
  · rw [i_lt c1 (by omega)]
    refine b49_16.trans (hd 0 ?_)
    rw [if_neg]
    rw [isD_iff]; omega
  · rw [i_nlt c1 (by omega)]
    refine b49_6.trans ?_
    by_cases c2 : c ≤ 57
    · rw [i_le c2 (by omega)]
      refine b49_12.trans (hd 1 ?_)
      rw [if_pos]
      rw [isD_iff]; omega
    · rw [i_nle c2 (by omega)]
      refine b49_16.trans (hd 0 ?_)
      rw [if_neg]
      rw [isD_iff]; omega
theorem stg_lt (s c : Nat) : stg s c < 4 := by unfold stg; (repeat' split) <;> omega
/-- the buffer's characters -/
def txOk (A : Nat → Nat → Nat) : Prop := A 67 1 ≤ 50 ∧ ∀ i, i < A 67 1 → 33 ≤ A 68 i ∧ A 68 i ≤ 126
/-- the first error, from place i on, n characters left, in stage s -/
def feN (A : Nat → Nat → Nat) : Nat → Nat → Nat → Int32
  | 0, _, s => if s = 0 ∧ 0 < A 67 1 then -6 else nI (A 67 1)
  | n + 1, i, s => if stg s (A 68 i) = 3 then nI i else feN A n (i + 1) (stg s (A 68 i))
theorem t_gf : zgf (wd A) 67 4 1 = some (.int (nI (A 67 1))) := o_gf o_67 rfl
theorem t_pf (x : Nat) : zpf (wd A) 67 4 1 (.int (nI x)) = some (wd (up A 67 1 x)) := o_pf o_67 (by show 1 < 2; omega) o_67 (by simp [up])
theorem t_firstError (ho : txOk A) : zC scr 46 [.ref 67] (wd A) = some (some (.int (feN A (A 67 1) 0 0)), wd A) := by
  have hl := ho.1
  rw [zC_of zh46]
  refine b46_0.trans ?_
  have key : ∀ n i s, i + n = A 67 1 → s < 3 → zd scr 46 4 [some (.ref 67), some (.int (nI s)), some (.int (nI i))] [] (wd A) = some (some (.int (feN A n i s)), wd A) := by
    intro n
    induction n with
    | zero =>
      intro i s hi hs
      refine (b46_4 t_gf).trans ((i_nlt (by omega) (by omega)).trans (b46_36.trans ?_))
      unfold feN
      by_cases h0 : s = 0
      · refine (i_eq0 h0).trans ((b46_40 t_gf).trans ?_)
        by_cases h1 : 0 < A 67 1
        · rw [i_pos h1 (by omega), if_pos ⟨h0, h1⟩]; exact b46_47
        · rw [i_npos (by omega), if_neg (fun q => h1 q.2)]; exact b46_52 t_gf
      · refine (i_ne0 h0 (by omega)).trans ?_
        rw [if_neg (fun q => h0 q.1)]
        exact b46_52 t_gf
    | succ n ih =>
      intro i s hi hs
      have hc := ho.2 i (by omega)
      have hsl := stg_lt s (A 68 i)
      refine (b46_4 t_gf).trans ((i_lt (by omega) (by omega)).trans ((b46_12 (o_gf o_67 rfl) (w_al zra68 (by omega) (by omega)) (t_stage (by omega) (by omega))).trans ?_))
      unfold feN
      by_cases h3 : stg s (A 68 i) = 3
      · rw [i_eq h3, if_pos h3]; exact b46_28
      · rw [i_ne h3 (by omega) (by omega), if_neg h3]
        refine b46_30.trans ?_
        rw [n_add]
        exact ih (i + 1) _ (by omega) (by omega)
  exact key _ 0 0 (by omega) (by omega)
def txA (A : Nat → Nat → Nat) (c : Nat) : Nat → Nat → Nat := up (up A 68 (A 67 1) c) 67 1 (A 67 1 + 1)
theorem t_add {c : Nat} (hl : A 67 1 < 50) : zC scr 45 [.ref 67, .int (nI c)] (wd A) = some (none, wd (txA A c)) := by
  rw [zC_of zh45]
  refine (b45_0 t_gf).trans ((i_lt hl (by omega)).trans ?_)
  have e : up A 68 (A 67 1) c 67 1 = A 67 1 := if_neg (by omega)
  exact b45_9 (f3 := nI (A 67 1)) (o_gf o_67 rfl) t_gf (w_as c zra68 hl (by omega)) (by rw [t_gf, e]) (by rw [n_add]; exact t_pf _)
/-- so many marbles of a kind are put to the hopper -/
def deA (A : Nat → Nat → Nat) (p x : Nat) : Nat → Nat → Nat → Nat
  | 0 => A
  | n + 1 => zadd1 (deA A p x n) p x
theorem ad_st {x i : Nat} : zadd1 A p x (p + 3) i = if i = 7 then A (p + 3) 7 + 1 else A (p + 3) i := by
  simp only [zadd1, up, true_and]
  by_cases h : i = 7
  · rw [if_pos h, if_pos h]
  · rw [if_neg h, if_neg h, if_neg (by omega)]
theorem ad_off {x c i : Nat} (h2 : c ≠ p + 2) (h3 : c ≠ p + 3) : zadd1 A p x c i = A c i := by
  simp only [zadd1, up]
  rw [if_neg (by omega), if_neg (by omega)]
theorem ad_mo {x : Nat} (hm : zmo A p) (h : A (p + 3) 7 < 120) : zmo (zadd1 A p x) p := by
  refine ⟨fun j hj => ?_, ?_⟩
  · rw [ad_st, ad_st, if_neg (by omega)]
    have := hm.1 j hj
    split
    · have e : A (p + 3) (j + 1) = A (p + 3) 7 := by rw [show j + 1 = 7 by omega]
      omega
    · exact this
  · rw [ad_st, if_pos rfl]; omega
theorem ad_cnt {x : Nat} (hm : zmo A p) : zcnt (zadd1 A p x) p 6 = zcnt A p 6 + 1 := by
  have := hm.1 6 (by omega)
  show zadd1 A p x (p + 3) 7 - zadd1 A p x (p + 3) 6 = A (p + 3) 7 - A (p + 3) 6 + 1
  rw [ad_st, ad_st, if_pos rfl, if_neg (by omega)]
  have e : A (p + 3) (6 + 1) = A (p + 3) 7 := rfl
  omega
theorem deA_ok {x : Nat} (hm : zmo A p) : ∀ n, zcnt A p 6 + n ≤ 40 → A (p + 3) 7 + n ≤ 120 → zmo (deA A p x n) p ∧ zcnt (deA A p x n) p 6 = zcnt A p 6 + n ∧ deA A p x n (p + 3) 7 = A (p + 3) 7 + n
  | 0, _, _ => ⟨hm, rfl, rfl⟩
  | n + 1, h1, h2 => by
    have ih := deA_ok (x := x) hm n (by omega) (by omega)
    exact ⟨ad_mo ih.1 (by omega), by rw [deA, ad_cnt ih.1]; omega, by rw [deA, ad_st, if_pos rfl]; omega⟩
theorem deA_off {x c i : Nat} (h2 : c ≠ p + 2) (h3 : c ≠ p + 3) : ∀ n, deA A p x n c i = A c i
  | 0 => rfl
  | n + 1 => by rw [deA, ad_off h2 h3, deA_off h2 h3 n]
/-- all find room -/
theorem t_dropEach1 {n c v : Nat} (hp : zsb p) (hm : zmo A p) (hn : n < 1000) (h1 : zcnt A p 6 + n ≤ 40) (h2 : A (p + 3) 7 + n ≤ 120) : zC scr 48 [.ref (p + 1), .int (nI n), .int (nI c), .int (nI v)] (wd A) = some (some (.int (nI 1)), wd (deA A p (c * 10 + v) n)) := by
  rw [zC_of zh48]
  refine b48_0.trans ?_
  refine (zloopA (scr := scr) (mi := 48) (pc := 3) (st := []) (L := fun j => [some (.ref (p + 1)), some (.int (nI n)), some (.int (nI c)), some (.int (nI v)), some (.int (nI j))]) (W := deA A p (c * 10 + v)) n rfl (fun j hj => ?_)).trans ?_
  · have hk := deA_ok (x := c * 10 + v) hm j (by omega) (by omega)
    refine b48_3.trans ((i_lt hj (by omega)).trans ((b48_9 (f1 := nI 1) (w1 := wd (deA A p (c * 10 + v) (j + 1))) (o_ob (o_mb hp)) ((m_add hp hk.1).trans (if_pos (by omega)))).trans ?_))
    rw [if_neg (by decide)]
    refine b48_20.trans ?_
    rw [n_add]
  · exact b48_3.trans ((i_nlt (by omega) (by omega)).trans b48_26)
/-- one finds none -/
theorem t_dropEach0 {n c v : Nat} (hp : zsb p) (hm : zmo A p) (hn : n < 1000) (h40 : zcnt A p 6 ≤ 40) (h : ¬ (zcnt A p 6 + n ≤ 40 ∧ A (p + 3) 7 + n ≤ 120)) : ∃ B, zC scr 48 [.ref (p + 1), .int (nI n), .int (nI c), .int (nI v)] (wd A) = some (some (.int (nI 0)), wd B) ∧ ∀ k i, k ≠ p + 2 → k ≠ p + 3 → B k i = A k i := by
  have h120 := hm.2
  obtain ⟨r, hr⟩ : ∃ r, r < n ∧ zcnt A p 6 + r ≤ 40 ∧ A (p + 3) 7 + r ≤ 120 ∧ ¬ (zcnt A p 6 + r < 40 ∧ A (p + 3) 7 + r < 120) := by
    by_cases hc : 40 - zcnt A p 6 ≤ 120 - A (p + 3) 7
    · exact ⟨40 - zcnt A p 6, by omega, by omega, by omega, by omega⟩
    · exact ⟨120 - A (p + 3) 7, by omega, by omega, by omega, by omega⟩
  refine ⟨deA A p (c * 10 + v) r, ?_, fun k i h2 h3 => deA_off h2 h3 r⟩
  rw [zC_of zh48]
  refine b48_0.trans ?_
  refine (zloopA (scr := scr) (mi := 48) (pc := 3) (st := []) (L := fun j => [some (.ref (p + 1)), some (.int (nI n)), some (.int (nI c)), some (.int (nI v)), some (.int (nI j))]) (W := deA A p (c * 10 + v)) r rfl (fun j hj => ?_)).trans ?_
  · have hk := deA_ok (x := c * 10 + v) hm j (by omega) (by omega)
    refine b48_3.trans ((i_lt (by omega) (by omega)).trans ((b48_9 (f1 := nI 1) (w1 := wd (deA A p (c * 10 + v) (j + 1))) (o_ob (o_mb hp)) ((m_add hp hk.1).trans (if_pos (by omega)))).trans ?_))
    rw [if_neg (by decide)]
    refine b48_20.trans ?_
    rw [n_add]
  · have hk := deA_ok (x := c * 10 + v) hm r (by omega) (by omega)
    refine b48_3.trans ((i_lt hr.1 (by omega)).trans ((b48_9 (f1 := nI 0) (w1 := wd (deA A p (c * 10 + v) r)) (o_ob (o_mb hp)) ((m_add hp hk.1).trans (if_neg (by omega)))).trans ?_))
    rw [if_pos (by decide)]
    exact b48_18
end TX
