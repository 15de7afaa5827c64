/-! isBest: the law's own search -/
/-- one candidate, as the law weighs it: code, growth and difference of the best so far -/
def stp (A : Nat → Nat → Nat) (h k g l : Nat) (s : Int32 × Nat × Nat) : Int32 × Nat × Nat := if gmi A 1 h k g l < gpl A 1 h k g l ∧ (s.2.1 < gpl A 1 h k g l - gmi A 1 h k g l ∨ (gpl A 1 h k g l - gmi A 1 h k g l = s.2.1 ∧ dif (mval A 1 h k) (mval A 1 g l) < s.2.2)) ∧ vtr A 1 h k g l = -6 then (nI (729 * h + 81 * k + 9 * g + l), gpl A 1 h k g l - gmi A 1 h k g l, dif (mval A 1 h k) (mval A 1 g l)) else s
def c9 (A : Nat → Nat → Nat) (h : Nat) : Nat := if zcnt A 1 h < 9 then zcnt A 1 h else 9
def lJ (A : Nat → Nat → Nat) (h k g : Nat) (s : Int32 × Nat × Nat) : Nat → Int32 × Nat × Nat
  | 0 => s
  | l + 1 => stp A h k g l (lJ A h k g s l)
def lG (A : Nat → Nat → Nat) (h k : Nat) (s : Int32 × Nat × Nat) : Nat → Int32 × Nat × Nat
  | 0 => s
  | m + 1 => lJ A h k (h + 1 + m) (lG A h k s m) (c9 A (h + 1 + m))
def lK (A : Nat → Nat → Nat) (h : Nat) (s : Int32 × Nat × Nat) : Nat → Int32 × Nat × Nat
  | 0 => s
  | k + 1 => lG A h k (lK A h s k) (A 1 1 - (h + 1))
def lH (A : Nat → Nat → Nat) : Nat → Int32 × Nat × Nat
  | 0 => (-6, 0, 0)
  | h + 1 => lK A h (lH A h) (c9 A h)
section BE
variable {A B C : Nat → Nat → Nat} {b c : Nat → Nat} {p q h k g n m i j t r mj l : Nat} {scr : List Int32} {G : zAW} {s : Int32 × Nat × Nat} {x2 x3 x4 x5 : Int32} {v7 v8 v9 v10 v11 v12 v13 v14 : Option Value}
theorem dif_lt {x y : Nat} (hx : x < 10) (hy : y < 10) : dif x y < 10 := by
  unfold dif
  split <;> omega
theorem mv10 : mval A 1 h i < 10 := Nat.mod_lt _ (by omega)
theorem gpl_le2 : gpl A 1 h k g l ≤ 2 := by
  unfold gpl
  have h1 := one1_le (mcol A 1 h k) (A (1 + 5) g)
  have h2 := one1_le (mcol A 1 g l) (A (1 + 5) h)
  omega
def s_sm (s : Int32 × Nat × Nat) : Prop := s.2.1 ≤ 2 ∧ s.2.2 < 10
theorem stp_sm (hs : s_sm s) : s_sm (stp A h k g l s) := by
  unfold stp
  split
  · exact ⟨by have := gpl_le2 (A := A) (h := h) (k := k) (g := g) (l := l); show gpl A 1 h k g l - gmi A 1 h k g l ≤ 2; omega, dif_lt mv10 mv10⟩
  · exact hs
theorem lJ_sm (hs : s_sm s) : ∀ l, s_sm (lJ A h k g s l)
  | 0 => hs
  | l + 1 => stp_sm (lJ_sm hs l)
theorem lG_sm (hs : s_sm s) : ∀ m, s_sm (lG A h k s m)
  | 0 => hs
  | m + 1 => lJ_sm (lG_sm hs m) _
theorem lK_sm (hs : s_sm s) : ∀ k, s_sm (lK A h s k)
  | 0 => hs
  | k + 1 => lG_sm (lK_sm hs k) _
theorem lH_sm : ∀ h, s_sm (lH A h)
  | 0 => ⟨Nat.zero_le 2, by show 0 < 10; omega⟩
  | h + 1 => lK_sm (lH_sm h) _
theorem one1_c (a b : Nat) : one1 a b = one1 b a := one1_comm a b
/-! the sum of what a swap gives and takes -/
theorem bs0 (hr : zRR A 1 b) (hh : h < A 1 1) (hk : k < zcnt A 1 h) (hg : g < A 1 1) (hl : l < zcnt A 1 g) : zd scr 91 86 [some (.ref 0), some (.int (nI (A 1 1))), some (.int x2), some (.int x3), some (.int x4), some (.int x5), some (.int (nI h)), some (.int (nI k)), some (.int (nI g)), some (.int (nI l)), v10, v11, v12, v13, v14] [] (hw A G) = zd scr 91 (if one1 (mcol A 1 g l) (A 6 h) = 1 then 120 else 124) [some (.ref 0), some (.int (nI (A 1 1))), some (.int x2), some (.int x3), some (.int x4), some (.int x5), some (.int (nI h)), some (.int (nI k)), some (.int (nI g)), some (.int (nI l)), some (.int (nI (mcol A 1 h k))), some (.int (nI (mcol A 1 g l))), v12, v13, v14] [] (hw A G) := by
  have h0 := hr.1.2.2.1
  have c1 := zcnt_le (h := h) hr.1.1 (by omega)
  have c2 := zcnt_le (h := g) hr.1.1 (by omega)
  have r1 := (row_sm hr (by omega) hk).2
  have r2 := (row_sm hr (by omega) hl).2
  have w1 : A 6 h < 6 := (hr.1.2.2.2.1 h hh).2.1
  have b1 := h_bagc (scr := scr) (G := G) hr (h := h) (i := k) (by omega) (by omega)
  have b2 := h_bagc (scr := scr) (G := G) hr (h := g) (i := l) (by omega) (by omega)
  have b3 := h_heir1 (scr := scr) (G := G) 1 hr hh (by omega)
  rw [show bgc A h k = nI (mcol A 1 h k) by unfold bgc; rw [if_pos ⟨hh, hk⟩]] at b1
  rw [show bgc A g l = nI (mcol A 1 g l) by unfold bgc; rw [if_pos ⟨hg, hl⟩]] at b2
  refine (b91_86 ob0 b1 ob0 b2 ob0 b3).trans ?_
  show (if nI (A 6 h) = nI (mcol A 1 g l) then _ else _) = _
  have m2 : mcol A 1 g l < 1000 := by unfold mcol; omega
  by_cases e : A 6 h = mcol A 1 g l
  · rw [i_eq e, show one1 (mcol A 1 g l) (A 6 h) = 1 by unfold one1; rw [if_pos e.symm], if_pos rfl]
  · rw [i_ne e (by omega) (by omega), show one1 (mcol A 1 g l) (A 6 h) = 0 by unfold one1; rw [if_neg (fun q => e q.symm)], if_neg (by decide)]
theorem bs1 (hr : zRR A 1 b) (hh : h < A 1 1) (hk : k < zcnt A 1 h) (hg : g < A 1 1) (hl : l < zcnt A 1 g) (a : Nat) (ha : a = 0 ∨ a = 1) : zd scr 91 (if a = 1 then 120 else 124) [some (.ref 0), some (.int (nI (A 1 1))), some (.int x2), some (.int x3), some (.int x4), some (.int x5), some (.int (nI h)), some (.int (nI k)), some (.int (nI g)), some (.int (nI l)), some (.int (nI (mcol A 1 h k))), some (.int (nI (mcol A 1 g l))), v12, v13, v14] [] (hw A G) = zd scr 91 (if one1 (mcol A 1 h k) (A 6 g) = 1 then 137 else 141) [some (.ref 0), some (.int (nI (A 1 1))), some (.int x2), some (.int x3), some (.int x4), some (.int x5), some (.int (nI h)), some (.int (nI k)), some (.int (nI g)), some (.int (nI l)), some (.int (nI (mcol A 1 h k))), some (.int (nI (mcol A 1 g l))), v12, v13, v14] [.int (nI a)] (hw A G) := by
  have h0 := hr.1.2.2.1
  have r1 := (row_sm hr (by omega) hk).2
  have w1 : A 6 g < 6 := (hr.1.2.2.2.1 g hg).2.1
  have b3 := h_heir1 (scr := scr) (G := G) 1 hr hg (by omega)
  have m1 : mcol A 1 h k < 1000 := by unfold mcol; omega
  have e0 : zd scr 91 (if a = 1 then 120 else 124) [some (.ref 0), some (.int (nI (A 1 1))), some (.int x2), some (.int x3), some (.int x4), some (.int x5), some (.int (nI h)), some (.int (nI k)), some (.int (nI g)), some (.int (nI l)), some (.int (nI (mcol A 1 h k))), some (.int (nI (mcol A 1 g l))), v12, v13, v14] [] (hw A G) = if nI (A 6 g) = nI (mcol A 1 h k) then zd scr 91 137 [some (.ref 0), some (.int (nI (A 1 1))), some (.int x2), some (.int x3), some (.int x4), some (.int x5), some (.int (nI h)), some (.int (nI k)), some (.int (nI g)), some (.int (nI l)), some (.int (nI (mcol A 1 h k))), some (.int (nI (mcol A 1 g l))), v12, v13, v14] [.int (nI a)] (hw A G) else zd scr 91 141 [some (.ref 0), some (.int (nI (A 1 1))), some (.int x2), some (.int x3), some (.int x4), some (.int x5), some (.int (nI h)), some (.int (nI k)), some (.int (nI g)), some (.int (nI l)), some (.int (nI (mcol A 1 h k))), some (.int (nI (mcol A 1 g l))), v12, v13, v14] [.int (nI a)] (hw A G) := by
    rcases ha with rfl | rfl
    · exact b91_124 ob0 b3
    · exact b91_120 ob0 b3
  rw [e0]
  by_cases e : A 6 g = mcol A 1 h k
  · rw [i_eq e, show one1 (mcol A 1 h k) (A 6 g) = 1 by unfold one1; rw [if_pos e.symm], if_pos rfl]
  · rw [i_ne e (by omega) (by omega), show one1 (mcol A 1 h k) (A 6 g) = 0 by unfold one1; rw [if_neg (fun q => e q.symm)], if_neg (by decide)]
theorem bs2 (hr : zRR A 1 b) (hh : h < A 1 1) (hk : k < zcnt A 1 h) (hg : g < A 1 1) (hl : l < zcnt A 1 g) (a : Nat) (ha : a = 0 ∨ a = 1) (y : Int32) : zd scr 91 (if a = 1 then 137 else 141) [some (.ref 0), some (.int (nI (A 1 1))), some (.int x2), some (.int x3), some (.int x4), some (.int x5), some (.int (nI h)), some (.int (nI k)), some (.int (nI g)), some (.int (nI l)), some (.int (nI (mcol A 1 h k))), some (.int (nI (mcol A 1 g l))), v12, v13, v14] [.int y] (hw A G) = zd scr 91 (if one1 (mcol A 1 h k) (A 6 h) = 1 then 155 else 159) [some (.ref 0), some (.int (nI (A 1 1))), some (.int x2), some (.int x3), some (.int x4), some (.int x5), some (.int (nI h)), some (.int (nI k)), some (.int (nI g)), some (.int (nI l)), some (.int (nI (mcol A 1 h k))), some (.int (nI (mcol A 1 g l))), v12, v13, v14] [.int (y + nI a)] (hw A G) := by
  have h0 := hr.1.2.2.1
  have r1 := (row_sm hr (by omega) hk).2
  have w1 : A 6 h < 6 := (hr.1.2.2.2.1 h hh).2.1
  have b3 := h_heir1 (scr := scr) (G := G) 1 hr hh (by omega)
  have m1 : mcol A 1 h k < 1000 := by unfold mcol; omega
  have e0 : zd scr 91 (if a = 1 then 137 else 141) [some (.ref 0), some (.int (nI (A 1 1))), some (.int x2), some (.int x3), some (.int x4), some (.int x5), some (.int (nI h)), some (.int (nI k)), some (.int (nI g)), some (.int (nI l)), some (.int (nI (mcol A 1 h k))), some (.int (nI (mcol A 1 g l))), v12, v13, v14] [.int y] (hw A G) = if nI (A 6 h) = nI (mcol A 1 h k) then zd scr 91 155 [some (.ref 0), some (.int (nI (A 1 1))), some (.int x2), some (.int x3), some (.int x4), some (.int x5), some (.int (nI h)), some (.int (nI k)), some (.int (nI g)), some (.int (nI l)), some (.int (nI (mcol A 1 h k))), some (.int (nI (mcol A 1 g l))), v12, v13, v14] [.int (y + nI a)] (hw A G) else zd scr 91 159 [some (.ref 0), some (.int (nI (A 1 1))), some (.int x2), some (.int x3), some (.int x4), some (.int x5), some (.int (nI h)), some (.int (nI k)), some (.int (nI g)), some (.int (nI l)), some (.int (nI (mcol A 1 h k))), some (.int (nI (mcol A 1 g l))), v12, v13, v14] [.int (y + nI a)] (hw A G) := by
    rcases ha with rfl | rfl
    · exact b91_141 ob0 b3
    · exact b91_137 ob0 b3
  rw [e0]
  by_cases e : A 6 h = mcol A 1 h k
  · rw [i_eq e, show one1 (mcol A 1 h k) (A 6 h) = 1 by unfold one1; rw [if_pos e.symm], if_pos rfl]
  · rw [i_ne e (by omega) (by omega), show one1 (mcol A 1 h k) (A 6 h) = 0 by unfold one1; rw [if_neg (fun q => e q.symm)], if_neg (by decide)]
theorem bs3 (hr : zRR A 1 b) (hh : h < A 1 1) (hk : k < zcnt A 1 h) (hg : g < A 1 1) (hl : l < zcnt A 1 g) (a : Nat) (ha : a = 0 ∨ a = 1) (y : Int32) : zd scr 91 (if a = 1 then 155 else 159) [some (.ref 0), some (.int (nI (A 1 1))), some (.int x2), some (.int x3), some (.int x4), some (.int x5), some (.int (nI h)), some (.int (nI k)), some (.int (nI g)), some (.int (nI l)), some (.int (nI (mcol A 1 h k))), some (.int (nI (mcol A 1 g l))), v12, v13, v14] [.int y] (hw A G) = zd scr 91 (if one1 (mcol A 1 g l) (A 6 g) = 1 then 173 else 177) [some (.ref 0), some (.int (nI (A 1 1))), some (.int x2), some (.int x3), some (.int x4), some (.int x5), some (.int (nI h)), some (.int (nI k)), some (.int (nI g)), some (.int (nI l)), some (.int (nI (mcol A 1 h k))), some (.int (nI (mcol A 1 g l))), v12, v13, v14] [.int (y - nI a)] (hw A G) := by
  have h0 := hr.1.2.2.1
  have r1 := (row_sm hr (by omega) hl).2
  have w1 : A 6 g < 6 := (hr.1.2.2.2.1 g hg).2.1
  have b3 := h_heir1 (scr := scr) (G := G) 1 hr hg (by omega)
  have m1 : mcol A 1 g l < 1000 := by unfold mcol; omega
  have e0 : zd scr 91 (if a = 1 then 155 else 159) [some (.ref 0), some (.int (nI (A 1 1))), some (.int x2), some (.int x3), some (.int x4), some (.int x5), some (.int (nI h)), some (.int (nI k)), some (.int (nI g)), some (.int (nI l)), some (.int (nI (mcol A 1 h k))), some (.int (nI (mcol A 1 g l))), v12, v13, v14] [.int y] (hw A G) = if nI (A 6 g) = nI (mcol A 1 g l) then zd scr 91 173 [some (.ref 0), some (.int (nI (A 1 1))), some (.int x2), some (.int x3), some (.int x4), some (.int x5), some (.int (nI h)), some (.int (nI k)), some (.int (nI g)), some (.int (nI l)), some (.int (nI (mcol A 1 h k))), some (.int (nI (mcol A 1 g l))), v12, v13, v14] [.int (y - nI a)] (hw A G) else zd scr 91 177 [some (.ref 0), some (.int (nI (A 1 1))), some (.int x2), some (.int x3), some (.int x4), some (.int x5), some (.int (nI h)), some (.int (nI k)), some (.int (nI g)), some (.int (nI l)), some (.int (nI (mcol A 1 h k))), some (.int (nI (mcol A 1 g l))), v12, v13, v14] [.int (y - nI a)] (hw A G) := by
    rcases ha with rfl | rfl
    · exact b91_159 ob0 b3
    · exact b91_155 ob0 b3
  rw [e0]
  by_cases e : A 6 g = mcol A 1 g l
  · rw [i_eq e, show one1 (mcol A 1 g l) (A 6 g) = 1 by unfold one1; rw [if_pos e.symm], if_pos rfl]
  · rw [i_ne e (by omega) (by omega), show one1 (mcol A 1 g l) (A 6 g) = 0 by unfold one1; rw [if_neg (fun q => e q.symm)], if_neg (by decide)]
theorem bs4 (hr : zRR A 1 b) (hh : h < A 1 1) (hk : k < zcnt A 1 h) (hg : g < A 1 1) (hl : l < zcnt A 1 g) (a : Nat) (ha : a = 0 ∨ a = 1) (y : Int32) : zd scr 91 (if a = 1 then 173 else 177) [some (.ref 0), some (.int (nI (A 1 1))), some (.int x2), some (.int x3), some (.int x4), some (.int x5), some (.int (nI h)), some (.int (nI k)), some (.int (nI g)), some (.int (nI l)), some (.int (nI (mcol A 1 h k))), some (.int (nI (mcol A 1 g l))), v12, v13, v14] [.int y] (hw A G) = if 0 < y - nI a then zd scr 91 222 [some (.ref 0), some (.int (nI (A 1 1))), some (.int x2), some (.int x3), some (.int x4), some (.int x5), some (.int (nI h)), some (.int (nI k)), some (.int (nI g)), some (.int (nI l)), some (.int (nI (mcol A 1 h k))), some (.int (nI (mcol A 1 g l))), some (.int (y - nI a)), some (.int (nI (dif (mval A 1 h k) (mval A 1 g l)))), v14] [] (hw A G) else zd scr 91 264 [some (.ref 0), some (.int (nI (A 1 1))), some (.int x2), some (.int x3), some (.int x4), some (.int x5), some (.int (nI h)), some (.int (nI k)), some (.int (nI g)), some (.int (nI l)), some (.int (nI (mcol A 1 h k))), some (.int (nI (mcol A 1 g l))), some (.int (y - nI a)), some (.int (nI (dif (mval A 1 h k) (mval A 1 g l)))), v14] [] (hw A G) := by
  have h0 := hr.1.2.2.1
  have c1 := zcnt_le (h := h) hr.1.1 (by omega)
  have c2 := zcnt_le (h := g) hr.1.1 (by omega)
  have m1 := mv10 (A := A) (h := h) (i := k)
  have m2 := mv10 (A := A) (h := g) (i := l)
  have b1 := h_bagv (scr := scr) (G := G) hr (h := h) (i := k) (by omega) (by omega)
  have b2 := h_bagv (scr := scr) (G := G) hr (h := g) (i := l) (by omega) (by omega)
  rw [show bgv A h k = nI (mval A 1 h k) by unfold bgv; rw [if_pos ⟨hh, hk⟩]] at b1
  rw [show bgv A g l = nI (mval A 1 g l) by unfold bgv; rw [if_pos ⟨hg, hl⟩]] at b2
  have e0 : zd scr 91 (if a = 1 then 173 else 177) [some (.ref 0), some (.int (nI (A 1 1))), some (.int x2), some (.int x3), some (.int x4), some (.int x5), some (.int (nI h)), some (.int (nI k)), some (.int (nI g)), some (.int (nI l)), some (.int (nI (mcol A 1 h k))), some (.int (nI (mcol A 1 g l))), v12, v13, v14] [.int y] (hw A G) = if (nI (mval A 1 h k) - nI (mval A 1 g l)) < 0 then zd scr 91 207 [some (.ref 0), some (.int (nI (A 1 1))), some (.int x2), some (.int x3), some (.int x4), some (.int x5), some (.int (nI h)), some (.int (nI k)), some (.int (nI g)), some (.int (nI l)), some (.int (nI (mcol A 1 h k))), some (.int (nI (mcol A 1 g l))), some (.int (y - nI a)), some (.int (nI (mval A 1 h k) - nI (mval A 1 g l))), v14] [] (hw A G) else zd scr 91 213 [some (.ref 0), some (.int (nI (A 1 1))), some (.int x2), some (.int x3), some (.int x4), some (.int x5), some (.int (nI h)), some (.int (nI k)), some (.int (nI g)), some (.int (nI l)), some (.int (nI (mcol A 1 h k))), some (.int (nI (mcol A 1 g l))), some (.int (y - nI a)), some (.int (nI (mval A 1 h k) - nI (mval A 1 g l))), v14] [] (hw A G) := by
    rcases ha with rfl | rfl
    · exact b91_177 ob0 b1 ob0 b2
    · exact b91_173 ob0 b1 ob0 b2
  rw [e0]
  by_cases e : mval A 1 g l ≤ mval A 1 h k
  · rw [n_sub e, i_neg (by omega)]
    refine b91_213.trans ?_
    rw [show dif (mval A 1 h k) (mval A 1 g l) = mval A 1 h k - mval A 1 g l by unfold dif; rw [if_pos e]]
  · have e2 : nI (mval A 1 h k) - nI (mval A 1 g l) < 0 := by
      rw [Int32.lt_iff_toInt_lt, n_subI (by omega) (by omega), Int32.toInt_zero]
      omega
    rw [if_pos e2]
    refine b91_207.trans ?_
    have e3 : -(nI (mval A 1 h k) - nI (mval A 1 g l)) = nI (dif (mval A 1 h k) (mval A 1 g l)) := by
      rw [show dif (mval A 1 h k) (mval A 1 g l) = mval A 1 g l - mval A 1 h k by unfold dif; rw [if_neg e], ← n_sub (by omega), Int32.neg_sub]
    rw [e3]
theorem bitsB : ∀ a, a < 2 → ∀ c, c < 2 → ∀ d, d < 2 → ∀ e, e < 2 → ((0 < ((nI a + nI c) - nI d) - nI e) ↔ d + e < c + a) ∧ (d + e < c + a → ((nI a + nI c) - nI d) - nI e = nI (c + a - (d + e))) := by
  intro a ha c hc d hd e he
  rcases (show a = 0 ∨ a = 1 by omega) with rfl | rfl <;> rcases (show c = 0 ∨ c = 1 by omega) with rfl | rfl <;> rcases (show d = 0 ∨ d = 1 by omega) with rfl | rfl <;> rcases (show e = 0 ∨ e = 1 by omega) with rfl | rfl <;> decide
theorem one01 (a b : Nat) : one1 a b = 0 ∨ one1 a b = 1 := by
  unfold one1
  split
  · exact Or.inr rfl
  · exact Or.inl rfl
/-- one candidate -/
theorem best_step (hr : zRR A 1 b) (hh : h < A 1 1) (hk : k < zcnt A 1 h) (hg : g < A 1 1) (hl : l < zcnt A 1 g) (hlt : h < g) (hs : s_sm s) : ∃ w10 w11 w12 w13 w14, zd scr 91 86 [some (.ref 0), some (.int (nI (A 1 1))), some (.int x2), some (.int s.1), some (.int (nI s.2.1)), some (.int (nI s.2.2)), some (.int (nI h)), some (.int (nI k)), some (.int (nI g)), some (.int (nI l)), v10, v11, v12, v13, v14] [] (hw A G) = zd scr 91 67 [some (.ref 0), some (.int (nI (A 1 1))), some (.int x2), some (.int (stp A h k g l s).1), some (.int (nI (stp A h k g l s).2.1)), some (.int (nI (stp A h k g l s).2.2)), some (.int (nI h)), some (.int (nI k)), some (.int (nI g)), some (.int (nI (l + 1))), w10, w11, w12, w13, w14] [] (hw A G) := by
  have h0 := hr.1.2.2.1
  have c1 := zcnt_le (h := h) hr.1.1 (by omega)
  have c2 := zcnt_le (h := g) hr.1.1 (by omega)
  obtain ⟨X, hX⟩ : ∃ X : Int32, X = ((nI (one1 (mcol A 1 g l) (A 6 h)) + nI (one1 (mcol A 1 h k) (A 6 g))) - nI (one1 (mcol A 1 h k) (A 6 h))) - nI (one1 (mcol A 1 g l) (A 6 g)) := ⟨_, rfl⟩
  have hb := bitsB _ (Nat.lt_succ_of_le (one1_le (mcol A 1 g l) (A 6 h))) _ (Nat.lt_succ_of_le (one1_le (mcol A 1 h k) (A 6 g))) _ (Nat.lt_succ_of_le (one1_le (mcol A 1 h k) (A 6 h))) _ (Nat.lt_succ_of_le (one1_le (mcol A 1 g l) (A 6 g)))
  have ep : one1 (mcol A 1 h k) (A 6 g) + one1 (mcol A 1 g l) (A 6 h) = gpl A 1 h k g l := rfl
  have em : one1 (mcol A 1 h k) (A 6 h) + one1 (mcol A 1 g l) (A 6 g) = gmi A 1 h k g l := rfl
  rw [← hX, ep, em] at hb
  have e0 : zd scr 91 86 [some (.ref 0), some (.int (nI (A 1 1))), some (.int x2), some (.int s.1), some (.int (nI s.2.1)), some (.int (nI s.2.2)), some (.int (nI h)), some (.int (nI k)), some (.int (nI g)), some (.int (nI l)), v10, v11, v12, v13, v14] [] (hw A G) = if 0 < X then zd scr 91 222 [some (.ref 0), some (.int (nI (A 1 1))), some (.int x2), some (.int s.1), some (.int (nI s.2.1)), some (.int (nI s.2.2)), some (.int (nI h)), some (.int (nI k)), some (.int (nI g)), some (.int (nI l)), some (.int (nI (mcol A 1 h k))), some (.int (nI (mcol A 1 g l))), some (.int X), some (.int (nI (dif (mval A 1 h k) (mval A 1 g l)))), v14] [] (hw A G) else zd scr 91 264 [some (.ref 0), some (.int (nI (A 1 1))), some (.int x2), some (.int s.1), some (.int (nI s.2.1)), some (.int (nI s.2.2)), some (.int (nI h)), some (.int (nI k)), some (.int (nI g)), some (.int (nI l)), some (.int (nI (mcol A 1 h k))), some (.int (nI (mcol A 1 g l))), some (.int X), some (.int (nI (dif (mval A 1 h k) (mval A 1 g l)))), v14] [] (hw A G) := by
    rw [hX]
    exact (bs0 hr hh hk hg hl).trans ((bs1 hr hh hk hg hl _ (one01 _ _)).trans ((bs2 hr hh hk hg hl _ (one01 _ _) _).trans ((bs3 hr hh hk hg hl _ (one01 _ _) _).trans (bs4 hr hh hk hg hl _ (one01 _ _) _))))
  have hno : stp A h k g l s = s → ∃ w10 w11 w12 w13 w14, zd scr 91 264 [some (.ref 0), some (.int (nI (A 1 1))), some (.int x2), some (.int s.1), some (.int (nI s.2.1)), some (.int (nI s.2.2)), some (.int (nI h)), some (.int (nI k)), some (.int (nI g)), some (.int (nI l)), some (.int (nI (mcol A 1 h k))), some (.int (nI (mcol A 1 g l))), some (.int X), some (.int (nI (dif (mval A 1 h k) (mval A 1 g l)))), v14] [] (hw A G) = zd scr 91 67 [some (.ref 0), some (.int (nI (A 1 1))), some (.int x2), some (.int (stp A h k g l s).1), some (.int (nI (stp A h k g l s).2.1)), some (.int (nI (stp A h k g l s).2.2)), some (.int (nI h)), some (.int (nI k)), some (.int (nI g)), some (.int (nI (l + 1))), w10, w11, w12, w13, w14] [] (hw A G) := fun e => by
    refine ⟨some (.int (nI (mcol A 1 h k))), some (.int (nI (mcol A 1 g l))), some (.int X), some (.int (nI (dif (mval A 1 h k) (mval A 1 g l)))), some (.int (nI 0)), ?_⟩
    refine b91_264.trans ((if_pos (by decide)).trans (b91_296.trans ((if_pos (by decide)).trans (b91_308.trans ((if_pos (by decide)).trans (b91_322.trans ?_))))))
    rw [n_add, e]
  have g2 := gpl_le2 (A := A) (h := h) (k := k) (g := g) (l := l)
  have dl := dif_lt (mv10 (A := A) (h := h) (i := k)) (mv10 (A := A) (h := g) (i := l))
  obtain ⟨hs1, hs2⟩ := hs
  by_cases c : gmi A 1 h k g l < gpl A 1 h k g l
  case neg =>
    rw [e0, if_neg (fun q => c (hb.1.mp q))]
    exact hno (by unfold stp; rw [if_neg (fun q => c q.1)])
  rw [e0, if_pos (hb.1.mpr c)]
  have eX := hb.2 c
  -- who vetoes
  have w0 := h_who (scr := scr) (G := G) hr (h := h) (i := k) (g := g) (j := l) (by omega) (by omega) (by omega) (by omega)
  rw [show whv A h k g l = vtr A 1 h k g l by unfold whv; rw [if_pos ⟨⟨hh, hk⟩, hg, hl⟩, if_neg (by omega)]] at w0
  have yes : (s.2.1 < (gpl A 1 h k g l - gmi A 1 h k g l) ∨ ((gpl A 1 h k g l - gmi A 1 h k g l) = s.2.1 ∧ (dif (mval A 1 h k) (mval A 1 g l)) < s.2.2)) → ∃ w10 w11 w12 w13 w14, zd scr 91 243 [some (.ref 0), some (.int (nI (A 1 1))), some (.int x2), some (.int s.1), some (.int (nI s.2.1)), some (.int (nI s.2.2)), some (.int (nI h)), some (.int (nI k)), some (.int (nI g)), some (.int (nI l)), some (.int (nI (mcol A 1 h k))), some (.int (nI (mcol A 1 g l))), some (.int X), some (.int (nI (dif (mval A 1 h k) (mval A 1 g l)))), v14] [] (hw A G) = zd scr 91 67 [some (.ref 0), some (.int (nI (A 1 1))), some (.int x2), some (.int (stp A h k g l s).1), some (.int (nI (stp A h k g l s).2.1)), some (.int (nI (stp A h k g l s).2.2)), some (.int (nI h)), some (.int (nI k)), some (.int (nI g)), some (.int (nI (l + 1))), w10, w11, w12, w13, w14] [] (hw A G) := fun hc => by
    have e1 := b91_243 (scr := scr) (x1 := nI (A 1 1)) (x2 := x2) (x3 := s.1) (x4 := nI s.2.1) (x5 := nI s.2.2) (x10 := (nI (mcol A 1 h k))) (x11 := (nI (mcol A 1 g l))) (x12 := X) (x13 := nI (dif (mval A 1 h k) (mval A 1 g l))) (v14 := v14) ob0 w0
    by_cases cv : vtr A 1 h k g l = -6
    · rw [if_pos cv] at e1
      refine ⟨some (.int (nI (mcol A 1 h k))), some (.int (nI (mcol A 1 g l))), some (.int X), some (.int (nI (dif (mval A 1 h k) (mval A 1 g l)))), some (.int (nI 1)), e1.trans ?_⟩
      refine b91_260.trans ((if_neg (by decide)).trans (b91_272.trans ((if_neg (by decide)).trans (b91_303.trans ((if_neg (by decide)).trans (b91_317.trans ?_))))))
      have es : stp A h k g l s = ((nI (729 * h + 81 * k + 9 * g + l)), (gpl A 1 h k g l - gmi A 1 h k g l), (dif (mval A 1 h k) (mval A 1 g l))) := by unfold stp; rw [if_pos ⟨c, hc, cv⟩]
      rw [n_mul, n_mul, n_mul, n_add, n_add, n_add, n_add, es, eX]
    · rw [if_neg cv] at e1
      obtain ⟨w10, w11, w12, w13, w14, e2⟩ := hno (by unfold stp; rw [if_neg (fun q => cv q.2.2)])
      exact ⟨w10, w11, w12, w13, w14, e1.trans e2⟩
  have e2 := b91_222 (scr := scr) (w := hw A G) (a0 := 0) (x1 := nI (A 1 1)) (x2 := x2) (x3 := s.1) (x4 := nI s.2.1) (x5 := nI s.2.2) (x6 := nI h) (x7 := nI k) (x8 := nI g) (x9 := nI l) (x10 := (nI (mcol A 1 h k))) (x11 := (nI (mcol A 1 g l))) (x12 := X) (x13 := nI (dif (mval A 1 h k) (mval A 1 g l))) (v14 := v14)
  by_cases c2 : s.2.1 < (gpl A 1 h k g l - gmi A 1 h k g l)
  · rw [eX, i_nle (by omega) (by omega), ← eX] at e2
    obtain ⟨w10, w11, w12, w13, w14, e3⟩ := yes (Or.inl c2)
    exact ⟨w10, w11, w12, w13, w14, e2.trans e3⟩
  · rw [eX, i_le (by omega) (by omega), ← eX] at e2
    have e3 := b91_229 (scr := scr) (w := hw A G) (a0 := 0) (x1 := nI (A 1 1)) (x2 := x2) (x3 := s.1) (x4 := nI s.2.1) (x5 := nI s.2.2) (x6 := nI h) (x7 := nI k) (x8 := nI g) (x9 := nI l) (x10 := (nI (mcol A 1 h k))) (x11 := (nI (mcol A 1 g l))) (x12 := X) (x13 := nI (dif (mval A 1 h k) (mval A 1 g l))) (v14 := v14)
    by_cases c3 : (gpl A 1 h k g l - gmi A 1 h k g l) = s.2.1
    · rw [eX, i_eq c3, ← eX] at e3
      have e4 := b91_236 (scr := scr) (w := hw A G) (a0 := 0) (x1 := nI (A 1 1)) (x2 := x2) (x3 := s.1) (x4 := nI s.2.1) (x5 := nI s.2.2) (x6 := nI h) (x7 := nI k) (x8 := nI g) (x9 := nI l) (x10 := (nI (mcol A 1 h k))) (x11 := (nI (mcol A 1 g l))) (x12 := X) (x13 := nI (dif (mval A 1 h k) (mval A 1 g l))) (v14 := v14)
      by_cases c4 : (dif (mval A 1 h k) (mval A 1 g l)) < s.2.2
      · rw [i_lt c4 (by omega)] at e4
        obtain ⟨w10, w11, w12, w13, w14, e5⟩ := yes (Or.inr ⟨c3, c4⟩)
        exact ⟨w10, w11, w12, w13, w14, e2.trans (e3.trans (e4.trans e5))⟩
      · rw [i_nlt c4 (by omega)] at e4
        obtain ⟨w10, w11, w12, w13, w14, e5⟩ := hno (by unfold stp; rw [if_neg (fun q => q.2.1.elim c2 (fun q => c4 q.2))])
        exact ⟨w10, w11, w12, w13, w14, e2.trans (e3.trans (e4.trans e5))⟩
    · rw [eX, i_ne c3 (by omega) (by omega), ← eX] at e3
      obtain ⟨w10, w11, w12, w13, w14, e5⟩ := hno (by unfold stp; rw [if_neg (fun q => q.2.1.elim c2 (fun q => c3 q.1))])
      exact ⟨w10, w11, w12, w13, w14, e2.trans (e3.trans e5)⟩
end BE
