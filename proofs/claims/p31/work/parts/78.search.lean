/-! isBest: the loops of the law's search, and the class's search beside it -/
/-- how the law's best and the class's one stand to each other; 'few': no bag has more than nine -/
def Rl (few : Prop) (A : Nat → Nat → Nat) (s : Int32 × Nat × Nat) (B : Nat → Nat → Nat) : Prop := (∀ c i, c ≠ 69 → B c i = A c i) ∧ s.2.1 ≤ B 69 4 ∧ (few → s.2.1 = B 69 4 ∧ s.2.2 = B 69 5 ∧ (B 69 4 = 0 → s.1 = -6) ∧ (0 < B 69 4 → s.1 = nI (729 * B 69 0 + 81 * B 69 1 + 9 * B 69 2 + B 69 3) ∧ 729 * B 69 0 + 81 * B 69 1 + 9 * B 69 2 + B 69 3 < 100000))
section BL
variable {A B C : Nat → Nat → Nat} {b c : Nat → Nat} {p q h k g n m i j t r mj l : Nat} {scr : List Int32} {G : zAW} {s : Int32 × Nat × Nat} {x2 x3 x4 x5 : Int32} {few : Prop}
theorem c9_le : c9 A h ≤ zcnt A 1 h ∧ c9 A h ≤ 9 := by
  unfold c9
  split <;> omega
theorem c9_end : ¬ (c9 A h < zcnt A 1 h ∧ c9 A h < 9) := by
  unfold c9
  split <;> omega
theorem j_loop (hr : zRR A 1 b) (hh : h < A 1 1) (hk : k < zcnt A 1 h) (hg : g < A 1 1) (hlt : h < g) (hs : s_sm s) (v10 v11 v12 v13 v14 : Option Value) : ∀ l, l ≤ c9 A g → ∃ w10 w11 w12 w13 w14, zd scr 91 67 [some (.ref 0), some (.int (nI (A 1 1))), some (.int x2), some (.int (s).1), some (.int (nI (s).2.1)), some (.int (nI (s).2.2)), some (.int (nI h)), some (.int (nI k)), some (.int (nI g)), some (.int (nI 0)), v10, v11, v12, v13, v14] [] (hw A G) = zd scr 91 67 [some (.ref 0), some (.int (nI (A 1 1))), some (.int x2), some (.int (lJ A h k g s l).1), some (.int (nI (lJ A h k g s l).2.1)), some (.int (nI (lJ A h k g s l).2.2)), some (.int (nI h)), some (.int (nI k)), some (.int (nI g)), some (.int (nI l)), w10, w11, w12, w13, w14] [] (hw A G)
  | 0, _ => ⟨v10, v11, v12, v13, v14, rfl⟩
  | l + 1, hl => by
    obtain ⟨w10, w11, w12, w13, w14, e1⟩ := j_loop hr hh hk hg hlt hs v10 v11 v12 v13 v14 l (by omega)
    have h0 := hr.1.2.2.1
    have h9 := c9_le (A := A) (h := g)
    have c2 := zcnt_le (h := g) hr.1.1 (by omega)
    obtain ⟨u10, u11, u12, u13, u14, e2⟩ := best_step (scr := scr) (G := G) (x2 := x2) (v10 := w10) (v11 := w11) (v12 := w12) (v13 := w13) (v14 := w14) hr hh hk hg (l := l) (by omega) hlt (lJ_sm (A := A) (h := h) (k := k) (g := g) hs l)
    refine ⟨u10, u11, u12, u13, u14, e1.trans ?_⟩
    refine (b91_67 ob0 (h_heir1 2 hr hg (by omega))).trans ?_
    show (if nI l < nI (zcnt A 1 g) then _ else _) = _
    rw [i_lt (by omega) (by omega)]
    refine b91_79.trans ?_
    rw [i_lt (by omega) (by omega)]
    exact e2
theorem j_all (hr : zRR A 1 b) (hh : h < A 1 1) (hk : k < zcnt A 1 h) (hg : g < A 1 1) (hlt : h < g) (hs : s_sm s) (v9 v10 v11 v12 v13 v14 : Option Value) : ∃ w9 w10 w11 w12 w13 w14, zd scr 91 64 [some (.ref 0), some (.int (nI (A 1 1))), some (.int x2), some (.int (s).1), some (.int (nI (s).2.1)), some (.int (nI (s).2.2)), some (.int (nI h)), some (.int (nI k)), some (.int (nI g)), v9, v10, v11, v12, v13, v14] [] (hw A G) = zd scr 91 58 [some (.ref 0), some (.int (nI (A 1 1))), some (.int x2), some (.int (lJ A h k g s (c9 A g)).1), some (.int (nI (lJ A h k g s (c9 A g)).2.1)), some (.int (nI (lJ A h k g s (c9 A g)).2.2)), some (.int (nI h)), some (.int (nI k)), some (.int (nI (g + 1))), w9, w10, w11, w12, w13, w14] [] (hw A G) := by
  have h0 := hr.1.2.2.1
  have h9 := c9_le (A := A) (h := g)
  have he := c9_end (A := A) (h := g)
  have c2 := zcnt_le (h := g) hr.1.1 (by omega)
  obtain ⟨w10, w11, w12, w13, w14, e1⟩ := j_loop (scr := scr) (G := G) (x2 := x2) hr hh hk hg hlt hs v10 v11 v12 v13 v14 (c9 A g) (Nat.le_refl _)
  have e2 : zd scr 91 67 [some (.ref 0), some (.int (nI (A 1 1))), some (.int x2), some (.int (lJ A h k g s (c9 A g)).1), some (.int (nI (lJ A h k g s (c9 A g)).2.1)), some (.int (nI (lJ A h k g s (c9 A g)).2.2)), some (.int (nI h)), some (.int (nI k)), some (.int (nI g)), some (.int (nI (c9 A g))), w10, w11, w12, w13, w14] [] (hw A G) = zd scr 91 332 [some (.ref 0), some (.int (nI (A 1 1))), some (.int x2), some (.int (lJ A h k g s (c9 A g)).1), some (.int (nI (lJ A h k g s (c9 A g)).2.1)), some (.int (nI (lJ A h k g s (c9 A g)).2.2)), some (.int (nI h)), some (.int (nI k)), some (.int (nI g)), some (.int (nI (c9 A g))), w10, w11, w12, w13, w14] [] (hw A G) := by
    refine (b91_67 ob0 (h_heir1 2 hr hg (by omega))).trans ?_
    show (if nI (c9 A g) < nI (zcnt A 1 g) then _ else _) = _
    by_cases c : c9 A g < zcnt A 1 g
    · rw [i_lt c (by omega)]
      refine b91_79.trans ?_
      rw [i_nlt (by omega) (by omega)]
    · rw [i_nlt c (by omega)]
  refine ⟨some (.int (nI (c9 A g))), w10, w11, w12, w13, w14, b91_64.trans (e1.trans (e2.trans (b91_332.trans ?_)))⟩
  rw [n_add]
theorem g_loop (hr : zRR A 1 b) (hh : h < A 1 1) (hk : k < zcnt A 1 h) (hs : s_sm s) (v9 v10 v11 v12 v13 v14 : Option Value) : ∀ m, h + 1 + m ≤ A 1 1 → ∃ w9 w10 w11 w12 w13 w14, zd scr 91 58 [some (.ref 0), some (.int (nI (A 1 1))), some (.int x2), some (.int (s).1), some (.int (nI (s).2.1)), some (.int (nI (s).2.2)), some (.int (nI h)), some (.int (nI k)), some (.int (nI (h + 1))), v9, v10, v11, v12, v13, v14] [] (hw A G) = zd scr 91 58 [some (.ref 0), some (.int (nI (A 1 1))), some (.int x2), some (.int (lG A h k s m).1), some (.int (nI (lG A h k s m).2.1)), some (.int (nI (lG A h k s m).2.2)), some (.int (nI h)), some (.int (nI k)), some (.int (nI (h + 1 + m))), w9, w10, w11, w12, w13, w14] [] (hw A G)
  | 0, _ => ⟨v9, v10, v11, v12, v13, v14, rfl⟩
  | m + 1, hm => by
    have h0 := hr.1.2.2.1
    obtain ⟨w9, w10, w11, w12, w13, w14, e1⟩ := g_loop hr hh hk hs v9 v10 v11 v12 v13 v14 m (by omega)
    obtain ⟨u9, u10, u11, u12, u13, u14, e2⟩ := j_all (scr := scr) (G := G) (x2 := x2) hr hh hk (g := h + 1 + m) (by omega) (by omega) (lG_sm (A := A) (h := h) (k := k) hs m) w9 w10 w11 w12 w13 w14
    exact ⟨u9, u10, u11, u12, u13, u14, e1.trans (b91_58.trans ((i_lt (by omega) (by omega)).trans e2))⟩
theorem g_all (hr : zRR A 1 b) (hh : h < A 1 1) (hk : k < zcnt A 1 h) (hs : s_sm s) (v9 v10 v11 v12 v13 v14 : Option Value) : ∃ w8 w9 w10 w11 w12 w13 w14, zd scr 91 58 [some (.ref 0), some (.int (nI (A 1 1))), some (.int x2), some (.int (s).1), some (.int (nI (s).2.1)), some (.int (nI (s).2.2)), some (.int (nI h)), some (.int (nI k)), some (.int (nI (h + 1))), v9, v10, v11, v12, v13, v14] [] (hw A G) = zd scr 91 33 [some (.ref 0), some (.int (nI (A 1 1))), some (.int x2), some (.int (lG A h k s (A 1 1 - (h + 1))).1), some (.int (nI (lG A h k s (A 1 1 - (h + 1))).2.1)), some (.int (nI (lG A h k s (A 1 1 - (h + 1))).2.2)), some (.int (nI h)), some (.int (nI (k + 1))), w8, w9, w10, w11, w12, w13, w14] [] (hw A G) := by
  have h0 := hr.1.2.2.1
  obtain ⟨w9, w10, w11, w12, w13, w14, e1⟩ := g_loop (scr := scr) (G := G) (x2 := x2) hr hh hk hs v9 v10 v11 v12 v13 v14 (A 1 1 - (h + 1)) (by omega)
  refine ⟨some (.int (nI (h + 1 + (A 1 1 - (h + 1))))), w9, w10, w11, w12, w13, w14, e1.trans (b91_58.trans ((i_nlt (by omega) (by omega)).trans (b91_338.trans ?_)))⟩
  rw [n_add]
theorem k_loop (hr : zRR A 1 b) (hh : h < A 1 1) (hs : s_sm s) (v8 v9 v10 v11 v12 v13 v14 : Option Value) : ∀ k, k ≤ c9 A h → ∃ w8 w9 w10 w11 w12 w13 w14, zd scr 91 33 [some (.ref 0), some (.int (nI (A 1 1))), some (.int x2), some (.int (s).1), some (.int (nI (s).2.1)), some (.int (nI (s).2.2)), some (.int (nI h)), some (.int (nI 0)), v8, v9, v10, v11, v12, v13, v14] [] (hw A G) = zd scr 91 33 [some (.ref 0), some (.int (nI (A 1 1))), some (.int x2), some (.int (lK A h s k).1), some (.int (nI (lK A h s k).2.1)), some (.int (nI (lK A h s k).2.2)), some (.int (nI h)), some (.int (nI k)), w8, w9, w10, w11, w12, w13, w14] [] (hw A G)
  | 0, _ => ⟨v8, v9, v10, v11, v12, v13, v14, rfl⟩
  | k + 1, hk => by
    have h0 := hr.1.2.2.1
    have h9 := c9_le (A := A) (h := h)
    have c2 := zcnt_le (h := h) hr.1.1 (by omega)
    obtain ⟨w8, w9, w10, w11, w12, w13, w14, e1⟩ := k_loop hr hh hs v8 v9 v10 v11 v12 v13 v14 k (by omega)
    obtain ⟨u8, u9, u10, u11, u12, u13, u14, e2⟩ := g_all (scr := scr) (G := G) (x2 := x2) hr hh (k := k) (by omega) (lK_sm (A := A) (h := h) hs k) w9 w10 w11 w12 w13 w14
    refine ⟨u8, u9, u10, u11, u12, u13, u14, e1.trans ?_⟩
    refine (b91_33 ob0 (h_heir1 2 hr hh (by omega))).trans ?_
    show (if nI k < nI (zcnt A 1 h) then _ else _) = _
    rw [i_lt (by omega) (by omega)]
    refine b91_45.trans ((i_lt (by omega) (by omega)).trans (b91_52.trans ?_))
    rw [n_add]
    exact e2
theorem k_all (hr : zRR A 1 b) (hh : h < A 1 1) (hs : s_sm s) (v7 v8 v9 v10 v11 v12 v13 v14 : Option Value) : ∃ w7 w8 w9 w10 w11 w12 w13 w14, zd scr 91 30 [some (.ref 0), some (.int (nI (A 1 1))), some (.int x2), some (.int (s).1), some (.int (nI (s).2.1)), some (.int (nI (s).2.2)), some (.int (nI h)), v7, v8, v9, v10, v11, v12, v13, v14] [] (hw A G) = zd scr 91 24 [some (.ref 0), some (.int (nI (A 1 1))), some (.int x2), some (.int (lK A h s (c9 A h)).1), some (.int (nI (lK A h s (c9 A h)).2.1)), some (.int (nI (lK A h s (c9 A h)).2.2)), some (.int (nI (h + 1))), w7, w8, w9, w10, w11, w12, w13, w14] [] (hw A G) := by
  have h0 := hr.1.2.2.1
  have h9 := c9_le (A := A) (h := h)
  have he := c9_end (A := A) (h := h)
  have c2 := zcnt_le (h := h) hr.1.1 (by omega)
  obtain ⟨w8, w9, w10, w11, w12, w13, w14, e1⟩ := k_loop (scr := scr) (G := G) (x2 := x2) hr hh hs v8 v9 v10 v11 v12 v13 v14 (c9 A h) (Nat.le_refl _)
  have e2 : zd scr 91 33 [some (.ref 0), some (.int (nI (A 1 1))), some (.int x2), some (.int (lK A h s (c9 A h)).1), some (.int (nI (lK A h s (c9 A h)).2.1)), some (.int (nI (lK A h s (c9 A h)).2.2)), some (.int (nI h)), some (.int (nI (c9 A h))), w8, w9, w10, w11, w12, w13, w14] [] (hw A G) = zd scr 91 344 [some (.ref 0), some (.int (nI (A 1 1))), some (.int x2), some (.int (lK A h s (c9 A h)).1), some (.int (nI (lK A h s (c9 A h)).2.1)), some (.int (nI (lK A h s (c9 A h)).2.2)), some (.int (nI h)), some (.int (nI (c9 A h))), w8, w9, w10, w11, w12, w13, w14] [] (hw A G) := by
    refine (b91_33 ob0 (h_heir1 2 hr hh (by omega))).trans ?_
    show (if nI (c9 A h) < nI (zcnt A 1 h) then _ else _) = _
    by_cases c : c9 A h < zcnt A 1 h
    · rw [i_lt c (by omega)]
      refine b91_45.trans ?_
      rw [i_nlt (by omega) (by omega)]
    · rw [i_nlt c (by omega)]
  refine ⟨some (.int (nI (c9 A h))), w8, w9, w10, w11, w12, w13, w14, b91_30.trans (e1.trans (e2.trans (b91_344.trans ?_)))⟩
  rw [n_add]
theorem h_loop (hr : zRR A 1 b) (v7 v8 v9 v10 v11 v12 v13 v14 : Option Value) : ∀ h, h ≤ A 1 1 → ∃ w7 w8 w9 w10 w11 w12 w13 w14, zd scr 91 24 [some (.ref 0), some (.int (nI (A 1 1))), some (.int x2), some (.int (lH A 0).1), some (.int (nI (lH A 0).2.1)), some (.int (nI (lH A 0).2.2)), some (.int (nI 0)), v7, v8, v9, v10, v11, v12, v13, v14] [] (hw A G) = zd scr 91 24 [some (.ref 0), some (.int (nI (A 1 1))), some (.int x2), some (.int (lH A h).1), some (.int (nI (lH A h).2.1)), some (.int (nI (lH A h).2.2)), some (.int (nI h)), w7, w8, w9, w10, w11, w12, w13, w14] [] (hw A G)
  | 0, _ => ⟨v7, v8, v9, v10, v11, v12, v13, v14, rfl⟩
  | h + 1, hh => by
    have h0 := hr.1.2.2.1
    obtain ⟨w7, w8, w9, w10, w11, w12, w13, w14, e1⟩ := h_loop hr v7 v8 v9 v10 v11 v12 v13 v14 h (by omega)
    obtain ⟨u7, u8, u9, u10, u11, u12, u13, u14, e2⟩ := k_all (scr := scr) (G := G) (x2 := x2) hr (h := h) (by omega) (lH_sm (A := A) h) w7 w8 w9 w10 w11 w12 w13 w14
    exact ⟨u7, u8, u9, u10, u11, u12, u13, u14, e1.trans (b91_24.trans ((i_lt (by omega) (by omega)).trans e2))⟩
/-- few marbles in each bag -/
def fwN (A : Nat → Nat → Nat) : Nat → Nat
  | 0 => 1
  | t + 1 => if fwN A t = 1 ∧ zcnt A 1 t < 10 then 1 else 0
theorem fwN_01 : ∀ t, fwN A t = 0 ∨ fwN A t = 1
  | 0 => Or.inr rfl
  | t + 1 => by
    rw [fwN]
    split
    · exact Or.inr rfl
    · exact Or.inl rfl
theorem fwN_1 : ∀ t, fwN A t = 1 → ∀ i, i < t → zcnt A 1 i < 10
  | 0, _, i, hi => absurd hi (Nat.not_lt_zero i)
  | t + 1, e, i, hi => by
    rw [fwN] at e
    split at e
    · rename_i c
      by_cases e2 : i = t
      · rw [e2]; exact c.2
      · exact fwN_1 t c.1 i (by omega)
    · cases e
theorem f_loop (hr : zRR A 1 b) (v8 v9 v10 v11 v12 v13 v14 : Option Value) : ∀ t, t ≤ A 1 1 → zd scr 91 356 [some (.ref 0), some (.int (nI (A 1 1))), some (.int x2), some (.int (s).1), some (.int (nI (s).2.1)), some (.int (nI (s).2.2)), some (.int (nI 1)), some (.int (nI 0)), v8, v9, v10, v11, v12, v13, v14] [] (hw A G) = zd scr 91 356 [some (.ref 0), some (.int (nI (A 1 1))), some (.int x2), some (.int (s).1), some (.int (nI (s).2.1)), some (.int (nI (s).2.2)), some (.int (nI (fwN A t))), some (.int (nI t)), v8, v9, v10, v11, v12, v13, v14] [] (hw A G)
  | 0, _ => rfl
  | t + 1, ht => by
    have h0 := hr.1.2.2.1
    have c2 := zcnt_le (h := t) hr.1.1 (by omega)
    refine (f_loop hr v8 v9 v10 v11 v12 v13 v14 t (by omega)).trans ?_
    refine b91_356.trans ((i_lt (by omega) (by omega)).trans (b91_362.trans ?_))
    rw [fwN]
    rcases fwN_01 (A := A) t with e | e
    · rw [e, if_pos (by decide), if_neg (by omega)]
      refine b91_383.trans ?_
      rw [n_add]
    · rw [e, if_neg (by decide)]
      refine (b91_367 ob0 (h_heir1 2 hr (by omega) (by omega))).trans ?_
      show (if nI (zcnt A 1 t) < nI 10 then _ else _) = _
      by_cases c : zcnt A 1 t < 10
      · rw [i_lt c (by omega), if_pos ⟨rfl, c⟩]
        refine b91_379.trans ?_
        rw [n_add]
      · rw [i_nlt c (by omega), if_neg (fun q => c q.2)]
        refine b91_383.trans ?_
        rw [n_add]
/-! the class's search beside it -/
theorem off_m (ho : ∀ c i, c ≠ 69 → B c i = A c i) : gpl B 1 h k g l = gpl A 1 h k g l ∧ gmi B 1 h k g l = gmi A 1 h k g l ∧ mval B 1 h k = mval A 1 h k ∧ mval B 1 g l = mval A 1 g l ∧ vtr B 1 h k g l = vtr A 1 h k g l := by
  have m1 : ∀ x y, mcol B 1 x y = mcol A 1 x y := fun x y => by
    unfold mcol
    rw [ho _ _ (by omega), ho _ _ (by omega)]
  have m2 : ∀ x y, mval B 1 x y = mval A 1 x y := fun x y => by
    unfold mval
    rw [ho _ _ (by omega), ho _ _ (by omega)]
  refine ⟨?_, ?_, m2 _ _, m2 _ _, ?_⟩
  · unfold gpl
    rw [m1, m1, ho _ _ (by omega), ho _ _ (by omega)]
  · unfold gmi
    rw [m1, m1, ho _ _ (by omega), ho _ _ (by omega)]
  · unfold vtr
    rw [m2, m2, ho _ _ (by omega), ho _ _ (by omega), ho _ _ (by omega), ho _ _ (by omega), ho _ _ (by omega)]
theorem wgB_get {d gr : Nat} : wgB B h k g l gr d 69 0 = h ∧ wgB B h k g l gr d 69 1 = k ∧ wgB B h k g l gr d 69 2 = g ∧ wgB B h k g l gr d 69 3 = l ∧ wgB B h k g l gr d 69 4 = gr ∧ wgB B h k g l gr d 69 5 = d := by
  unfold wgB
  refine ⟨?_, ?_, ?_, ?_, ?_, up_eq⟩
  · rw [up_ne (by omega), up_ne (by omega), up_ne (by omega), up_ne (by omega), up_ne (by omega), up_eq]
  · rw [up_ne (by omega), up_ne (by omega), up_ne (by omega), up_ne (by omega), up_eq]
  · rw [up_ne (by omega), up_ne (by omega), up_ne (by omega), up_eq]
  · rw [up_ne (by omega), up_ne (by omega), up_eq]
  · rw [up_ne (by omega), up_eq]
theorem cd_mono : B 69 4 ≤ cdA B 1 h k g l 69 4 := by
  unfold cdA
  by_cases c : gmi B 1 h k g l < gpl B 1 h k g l ∧ B 69 4 ≤ gpl B 1 h k g l - gmi B 1 h k g l
  · rw [if_pos c]
    unfold wgA
    by_cases c2 : (B 69 4 < gpl B 1 h k g l - gmi B 1 h k g l ∨ dif (mval B 1 h k) (mval B 1 g l) < B 69 5) ∧ vtr B 1 h k g l = -6
    · rw [if_pos c2, wgB_get.2.2.2.2.1]; exact c.2
    · rw [if_neg c2]; exact Nat.le_refl _
  · rw [if_neg c]; exact Nat.le_refl _
theorem rl_step (hR : Rl few A s B) (hh : h < 6) (hk : k < 9) (hg : g < 6) (hl : l < 9) : Rl few A (stp A h k g l s) (cdA B 1 h k g l) := by
  obtain ⟨ho, hle, hf⟩ := hR
  obtain ⟨m1, m2, m3, m4, m5⟩ := off_m (h := h) (k := k) (g := g) (l := l) ho
  obtain ⟨GR, hGR⟩ : ∃ GR, GR = gpl A 1 h k g l - gmi A 1 h k g l := ⟨_, rfl⟩
  obtain ⟨DF, hDF⟩ : ∃ DF, DF = dif (mval A 1 h k) (mval A 1 g l) := ⟨_, rfl⟩
  have eS : stp A h k g l s = if gmi A 1 h k g l < gpl A 1 h k g l ∧ (s.2.1 < GR ∨ (GR = s.2.1 ∧ DF < s.2.2)) ∧ vtr A 1 h k g l = -6 then (nI (729 * h + 81 * k + 9 * g + l), GR, DF) else s := by rw [hGR, hDF]; rfl
  have eC : cdA B 1 h k g l = if gmi A 1 h k g l < gpl A 1 h k g l ∧ B 69 4 ≤ GR then (if (B 69 4 < GR ∨ DF < B 69 5) ∧ vtr A 1 h k g l = -6 then wgB B h k g l GR DF else B) else B := by
    unfold cdA wgA
    rw [m1, m2, m3, m4, m5, ← hGR, ← hDF]
  have hoff : ∀ c i, c ≠ 69 → cdA B 1 h k g l c i = A c i := fun c i hc => by rw [cd_off hc, ho c i hc]
  have same : stp A h k g l s = s → cdA B 1 h k g l = B → Rl few A (stp A h k g l s) (cdA B 1 h k g l) := fun q1 q2 => by
    rw [q1, q2]
    exact ⟨ho, hle, hf⟩
  by_cases c : gmi A 1 h k g l < gpl A 1 h k g l
  case neg => exact same (by rw [eS, if_neg (fun q => c q.1)]) (by rw [eC, if_neg (fun q => c q.1)])
  by_cases cv : vtr A 1 h k g l = -6
  case neg =>
    refine same (by rw [eS, if_neg (fun q => cv q.2.2)]) ?_
    rw [eC]
    by_cases c2 : gmi A 1 h k g l < gpl A 1 h k g l ∧ B 69 4 ≤ GR
    · rw [if_pos c2, if_neg (fun q => cv q.2)]
    · rw [if_neg c2]
  by_cases cc : B 69 4 ≤ GR ∧ (B 69 4 < GR ∨ DF < B 69 5)
  · have e1 : cdA B 1 h k g l = wgB B h k g l GR DF := by rw [eC, if_pos ⟨c, cc.1⟩, if_pos ⟨cc.2, cv⟩]
    have w := wgB_get (B := B) (h := h) (k := k) (g := g) (l := l) (gr := GR) (d := DF)
    refine ⟨hoff, ?_, fun f => ?_⟩
    · rw [e1, w.2.2.2.2.1, eS]
      split
      · exact Nat.le_refl _
      · omega
    · obtain ⟨f1, f2, -, -⟩ := hf f
      have lc : s.2.1 < GR ∨ (GR = s.2.1 ∧ DF < s.2.2) := by
        rw [f1, f2]
        rcases cc.2 with q | q
        · exact Or.inl q
        · by_cases e : B 69 4 < GR
          · exact Or.inl e
          · exact Or.inr ⟨by omega, q⟩
      have e2 : stp A h k g l s = (nI (729 * h + 81 * k + 9 * g + l), GR, DF) := by rw [eS, if_pos ⟨c, lc, cv⟩]
      rw [e1, e2, w.1, w.2.1, w.2.2.1, w.2.2.2.1, w.2.2.2.2.1, w.2.2.2.2.2]
      refine ⟨rfl, rfl, fun q => ?_, fun _ => ⟨rfl, by omega⟩⟩
      omega
  · have e1 : cdA B 1 h k g l = B := by
      rw [eC]
      by_cases c2 : gmi A 1 h k g l < gpl A 1 h k g l ∧ B 69 4 ≤ GR
      · rw [if_pos c2, if_neg (fun q => cc ⟨c2.2, q.1⟩)]
      · rw [if_neg c2]
    by_cases lc : s.2.1 < GR ∨ (GR = s.2.1 ∧ DF < s.2.2)
    · have e2 : stp A h k g l s = (nI (729 * h + 81 * k + 9 * g + l), GR, DF) := by rw [eS, if_pos ⟨c, lc, cv⟩]
      have hgg : GR ≤ B 69 4 := by
        by_cases q : GR ≤ B 69 4
        · exact q
        · exact absurd ⟨by omega, Or.inl (by omega)⟩ cc
      refine ⟨hoff, by rw [e1, e2]; exact hgg, fun f => ?_⟩
      obtain ⟨f1, f2, -, -⟩ := hf f
      rw [f1, f2] at lc
      exact absurd ⟨by rcases lc with q | q <;> omega, by rcases lc with q | q; exact Or.inl q; exact Or.inr q.2⟩ cc
    · exact same (by rw [eS, if_neg (fun q => lc q.2.1)]) e1
theorem itJ_mono : ∀ d j, itJ B 1 h k g j 69 4 ≤ itJ B 1 h k g (j + d) 69 4
  | 0, _ => Nat.le_refl _
  | d + 1, j => Nat.le_trans (itJ_mono d j) cd_mono
theorem itG_mono : ∀ d m, itG B 1 h k m 69 4 ≤ itG B 1 h k (m + d) 69 4
  | 0, _ => Nat.le_refl _
  | d + 1, m => Nat.le_trans (itG_mono d m) (by
    have := itJ_mono (B := itG B 1 h k (m + d)) (h := h) (k := k) (g := h + 1 + (m + d)) (zcnt B 1 (h + 1 + (m + d))) 0
    rw [Nat.zero_add] at this
    exact this)
theorem itI_mono : ∀ d m, itI B 1 h m 69 4 ≤ itI B 1 h (m + d) 69 4
  | 0, _ => Nat.le_refl _
  | d + 1, m => Nat.le_trans (itI_mono d m) (by
    have := itG_mono (B := itI B 1 h (m + d)) (h := h) (k := m + d) (B 1 1 - (h + 1)) 0
    rw [Nat.zero_add] at this
    exact this)
/-- more steps of the class alone -/
theorem rl_more (hR : Rl few A s B) (ho : ∀ c i, c ≠ 69 → C c i = A c i) (hm : B 69 4 ≤ C 69 4) (he : few → C = B) : Rl few A s C := by
  refine ⟨ho, Nat.le_trans hR.2.1 hm, fun f => ?_⟩
  rw [he f]
  exact hR.2.2 f
theorem few_c9 (hf : few → ∀ i, i < A 1 1 → zcnt A 1 i < 10) (hg : g < A 1 1) : few → c9 A g = zcnt A 1 g := fun f => by
  have := hf f g hg
  unfold c9
  split <;> omega
theorem rl_J (hR : Rl few A s B) (hh : h < 6) (hk : k < 9) (hg : g < 6) : ∀ l, l ≤ 9 → Rl few A (lJ A h k g s l) (itJ B 1 h k g l)
  | 0, _ => hR
  | l + 1, hl => rl_step (rl_J hR hh hk hg l (by omega)) hh hk hg (by omega)
theorem rl_G (hA : A 1 1 ≤ 6) (hf : few → ∀ i, i < A 1 1 → zcnt A 1 i < 10) (hR : Rl few A s B) (hh : h < A 1 1) (hk : k < 9) : ∀ m, h + 1 + m ≤ A 1 1 → Rl few A (lG A h k s m) (itG B 1 h k m)
  | 0, _ => hR
  | m + 1, hm => by
    have ih := rl_G hA hf hR hh hk m (by omega)
    have h9 := c9_le (A := A) (h := h + 1 + m)
    have hj := rl_J ih (show h < 6 by omega) hk (show h + 1 + m < 6 by omega) (c9 A (h + 1 + m)) h9.2
    have ez : zcnt B 1 (h + 1 + m) = zcnt A 1 (h + 1 + m) := by
      unfold zcnt
      rw [hR.1 _ _ (by omega), hR.1 _ _ (by omega)]
    show Rl few A (lJ A h k (h + 1 + m) (lG A h k s m) (c9 A (h + 1 + m))) (itJ (itG B 1 h k m) 1 h k (h + 1 + m) (zcnt B 1 (h + 1 + m)))
    rw [ez]
    refine rl_more hj (fun c i hc => by rw [itJ_off _ _ _ hc]; exact ih.1 c i hc) ?_ (fun f => by rw [few_c9 hf (by omega) f])
    have := itJ_mono (B := itG B 1 h k m) (h := h) (k := k) (g := h + 1 + m) (zcnt A 1 (h + 1 + m) - c9 A (h + 1 + m)) (c9 A (h + 1 + m))
    rw [show c9 A (h + 1 + m) + (zcnt A 1 (h + 1 + m) - c9 A (h + 1 + m)) = zcnt A 1 (h + 1 + m) by omega] at this
    exact this
theorem rl_K (hA : A 1 1 ≤ 6) (hf : few → ∀ i, i < A 1 1 → zcnt A 1 i < 10) (hR : Rl few A s B) (hh : h < A 1 1) : ∀ k, k ≤ 9 → Rl few A (lK A h s k) (itI B 1 h k)
  | 0, _ => hR
  | k + 1, hk => by
    have ih := rl_K hA hf hR hh k (by omega)
    have e1 : B 1 1 = A 1 1 := hR.1 _ _ (by omega)
    show Rl few A (lG A h k (lK A h s k) (A 1 1 - (h + 1))) (itG (itI B 1 h k) 1 h k (B 1 1 - (h + 1)))
    rw [e1]
    exact rl_G hA hf ih hh (by omega) _ (by omega)
theorem rl_H (hA : A 1 1 ≤ 6) (hf : few → ∀ i, i < A 1 1 → zcnt A 1 i < 10) : ∀ h, h ≤ A 1 1 → Rl few A (lH A h) (itH (up (up A 69 4 0) 69 5 0) 1 h)
  | 0, _ => by
    refine ⟨fun c i hc => by show up (up A 69 4 0) 69 5 0 c i = _; rw [up_ne (by omega), up_ne (by omega)], Nat.zero_le _, fun _ => ?_⟩
    have e4 : up (up A 69 4 0) 69 5 0 69 4 = 0 := by rw [up_ne (by omega), up_eq]
    refine ⟨?_, ?_, fun _ => rfl, fun q => ?_⟩
    · show 0 = up (up A 69 4 0) 69 5 0 69 4
      rw [e4]
    · show 0 = up (up A 69 4 0) 69 5 0 69 5
      rw [up_eq]
    · exact absurd (show 0 < up (up A 69 4 0) 69 5 0 69 4 from q) (by omega)
  | h + 1, hh => by
    have ih := rl_H hA hf h (by omega)
    have h9 := c9_le (A := A) (h := h)
    have hk := rl_K hA hf ih (show h < A 1 1 by omega) (c9 A h) h9.2
    have ez : zcnt (itH (up (up A 69 4 0) 69 5 0) 1 h) 1 h = zcnt A 1 h := by
      unfold zcnt
      rw [ih.1 _ _ (by omega), ih.1 _ _ (by omega)]
    have ez2 : zcnt (up (up A 69 4 0) 69 5 0) 1 h = zcnt A 1 h := by
      unfold zcnt
      rw [up_ne (by omega), up_ne (by omega), up_ne (by omega), up_ne (by omega)]
    show Rl few A (lK A h (lH A h) (c9 A h)) (itI (itH (up (up A 69 4 0) 69 5 0) 1 h) 1 h (zcnt (up (up A 69 4 0) 69 5 0) 1 h))
    rw [ez2]
    refine rl_more hk (fun c i hc => by rw [itI_off _ _ _ hc]; exact ih.1 c i hc) ?_ (fun f => by rw [few_c9 hf (by omega) f])
    have := itI_mono (B := itH (up (up A 69 4 0) 69 5 0) 1 h) (h := h) (zcnt A 1 h - c9 A h) (c9 A h)
    rw [show c9 A h + (zcnt A 1 h - c9 A h) = zcnt A 1 h by omega] at this
    exact this
theorem rl_all (hA : A 1 1 ≤ 6) (hf : few → ∀ i, i < A 1 1 → zcnt A 1 i < 10) : Rl few A (lH A (A 1 1)) (srA A 1) := rl_H hA hf (A 1 1) (Nat.le_refl _)
/-- the class finds the same again -/
theorem sr_fix (h1 : zRR A 1 b) (h2 : zRR B 1 b) : (srA A 1 69 4 = 0 ∧ srA B 1 69 4 = 0) ∨ (0 < srA A 1 69 4 ∧ ∀ i, i < 5 → srA B 1 69 i = srA A 1 69 i) := by
  rcases rr_best (s := fun _ => 0) (by omega) h1 with ⟨a1, a2⟩ | ⟨a1, a2, -⟩
  · rcases rr_best (s := fun _ => 0) (by omega) h2 with ⟨b1, b2⟩ | ⟨b1, b2, -⟩
    · exact Or.inl ⟨a1, b1⟩
    · have q1 := a2 0 (by omega)
      have q2 := b2 0 (by omega)
      omega
  · rcases rr_best (s := fun _ => 0) (by omega) h2 with ⟨b1, b2⟩ | ⟨b1, b2, -⟩
    · have q1 := a2 0 (by omega)
      have q2 := b2 0 (by omega)
      omega
    · refine Or.inr ⟨a1, fun i hi => ?_⟩
      have q1 := a2 i hi
      have q2 := b2 i hi
      omega
theorem n_ne6 {a : Nat} (ha : a < 2147483648) : ¬ nI a = -6 := by
  intro h
  have h1 := congrArg Int32.toInt h
  rw [n_toInt ha] at h1
  have e : Int32.toInt (-6) = -6 := by decide
  omega
theorem isBest_ok (hi : pvA A b) : ∃ A', pvA A' b ∧ (∀ c i, c ≠ 69 → A' c i = A c i) ∧ zC scr 91 [.ref 0] (hw A G) = some (some (.int (nI 1)), hw A' G) := by
  have hA1 := pv_sr hi
  obtain ⟨A1, hd⟩ : ∃ A1, A1 = srA A 1 := ⟨_, rfl⟩
  have hb0 := h_best (scr := scr) (G := G) 4 hi.1 (by omega)
  rw [← hd] at hA1 hb0
  have ho1 : ∀ c i, c ≠ 69 → A1 c i = A c i := fun c i hc => by rw [hd]; exact srA_off c i hc
  have h11 : A1 1 1 = A 1 1 := ho1 _ _ (by omega)
  have h6 := hA1.1.1.2.2.1
  have sok := (srA_ok z1 hA1.1.1).2.1
  -- what bestSwap(4) told is what a search now would tell
  have hx2 : (if A1 69 4 = 0 then (-6 : Int32) else nI (A1 69 4)) = if srA A1 1 69 4 = 0 then -6 else nI (srA A1 1 69 4) := by
    rw [hd]
    rcases sr_fix hi.1 (pv_sr hi).1 with ⟨a1, a2⟩ | ⟨a1, a2⟩
    · rw [if_pos a1, if_pos a2]
    · rw [a2 4 (by omega)]
  have ebeg : zC scr 91 [.ref 0] (hw A G) = zd scr 91 24 [some (.ref 0), some (.int (nI (A1 1 1))), some (.int (if srA A1 1 69 4 = 0 then -6 else nI (srA A1 1 69 4))), some (.int (lH A1 0).1), some (.int (nI (lH A1 0).2.1)), some (.int (nI (lH A1 0).2.2)), some (.int (nI 0)), none, none, none, none, none, none, none, none] [] (hw A1 G) := by
    rw [zC_of zh91, ← hx2, h11, hd]
    rw [hd] at hb0
    exact b91_0 ob0 (h_total 0 hi.1 (by omega)) ob0 hb0
  obtain ⟨w7, w8, w9, w10, w11, w12, w13, w14, e1⟩ := h_loop (scr := scr) (G := G) (x2 := if srA A1 1 69 4 = 0 then -6 else nI (srA A1 1 69 4)) hA1.1 none none none none none none none none (A1 1 1) (Nat.le_refl _)
  have e2 := f_loop (scr := scr) (G := G) (s := lH A1 (A1 1 1)) (x2 := if srA A1 1 69 4 = 0 then -6 else nI (srA A1 1 69 4)) hA1.1 w8 w9 w10 w11 w12 w13 w14 (A1 1 1) (Nat.le_refl _)
  have e3 := ebeg.trans (e1.trans (b91_24.trans ((i_nlt (by omega) (by omega)).trans (b91_350.trans (e2.trans (b91_356.trans (i_nlt (by omega) (by omega))))))))
  have hR := rl_all (few := fwN A1 (A1 1 1) = 1) h6 (fun f => fwN_1 _ f)
  have hsm := lH_sm (A := A1) (A1 1 1)
  obtain ⟨-, hle, hfew⟩ := hR
  rcases fwN_01 (A := A1) (A1 1 1) with f | f
  · refine ⟨A1, hA1, ho1, e3.trans (b91_392.trans ?_)⟩
    rw [f, if_pos (by decide)]
    refine b91_397.trans ?_
    by_cases c : (lH A1 (A1 1 1)).2.1 = 0
    · rw [i_eq0 c]
      exact b91_408
    · rw [i_ne0 c (by have := hsm.1; omega)]
      refine b91_402.trans ?_
      rw [if_neg (show ¬ srA A1 1 69 4 = 0 by omega), i_nlt (by omega) (by omega)]
      exact b91_408
  · obtain ⟨f1, f2, f3, f4⟩ := hfew f
    have e4 : zC scr 91 [.ref 0] (hw A G) = if (lH A1 (A1 1 1)).1 = -6 then zd scr 91 420 [some (.ref 0), some (.int (nI (A1 1 1))), some (.int (if srA A1 1 69 4 = 0 then -6 else nI (srA A1 1 69 4))), some (.int (lH A1 (A1 1 1)).1), some (.int (nI (lH A1 (A1 1 1)).2.1)), some (.int (nI (lH A1 (A1 1 1)).2.2)), some (.int (nI (fwN A1 (A1 1 1)))), some (.int (nI (A1 1 1))), w8, w9, w10, w11, w12, w13, w14] [] (hw A1 G) else zd scr 91 444 [some (.ref 0), some (.int (nI (A1 1 1))), some (.int (if srA A1 1 69 4 = 0 then -6 else nI (srA A1 1 69 4))), some (.int (lH A1 (A1 1 1)).1), some (.int (nI (lH A1 (A1 1 1)).2.1)), some (.int (nI (lH A1 (A1 1 1)).2.2)), some (.int (nI (fwN A1 (A1 1 1)))), some (.int (nI (A1 1 1))), w8, w9, w10, w11, w12, w13, w14] [] (hw A1 G) := by
      refine e3.trans (b91_392.trans ((if_neg ?_).trans b91_414))
      rw [f]
      decide
    have p2 := pv_sr hA1
    by_cases c : srA A1 1 69 4 = 0
    · have hb := h_best (scr := scr) (G := G) 0 hA1.1 (by omega)
      rw [if_pos c] at hb
      refine ⟨srA A1 1, p2, fun c i hc => (srA_off c i hc).trans (ho1 c i hc), e4.trans ?_⟩
      rw [if_pos (f3 c), if_pos c]
      refine b91_420.trans ?_
      rw [if_pos rfl]
      refine (b91_426 ob0 hb).trans ?_
      rw [if_pos rfl]
      exact b91_436
    · obtain ⟨g1, g2⟩ := f4 (by omega)
      have p3 := pv_sr p2
      have p4 := pv_sr p3
      have p5 := pv_sr p4
      have k1 := h_best (scr := scr) (G := G) 0 hA1.1 (by omega)
      have k2 := h_best (scr := scr) (G := G) 1 p2.1 (by omega)
      have k3 := h_best (scr := scr) (G := G) 2 p3.1 (by omega)
      have k4 := h_best (scr := scr) (G := G) 3 p4.1 (by omega)
      have fx : ∀ C, zRR C 1 b → ∀ i, i < 5 → srA C 1 69 i = srA A1 1 69 i := fun C hC i hi => by
        rcases sr_fix hA1.1 hC with ⟨a1, -⟩ | ⟨-, a2⟩
        · exact absurd a1 c
        · exact a2 i hi
      rw [if_neg c] at k1
      rw [fx _ p2.1 4 (by omega), if_neg c, fx _ p2.1 1 (by omega)] at k2
      rw [fx _ p3.1 4 (by omega), if_neg c, fx _ p3.1 2 (by omega)] at k3
      rw [fx _ p4.1 4 (by omega), if_neg c, fx _ p4.1 3 (by omega)] at k4
      refine ⟨_, p5, fun c i hc => (srA_off c i hc).trans ((srA_off c i hc).trans ((srA_off c i hc).trans ((srA_off c i hc).trans (ho1 c i hc)))), e4.trans ?_⟩
      rw [if_neg (by rw [g1]; exact n_ne6 (by omega)), if_neg c]
      refine b91_444.trans ?_
      rw [f1, if_pos rfl]
      refine (b91_450 ob0 k1 ob0 k2 ob0 k3 ob0 k4).trans ?_
      rw [n_mul, n_mul, n_mul, n_add, n_add, n_add, g1, if_pos rfl]
      exact b91_487
end BL
