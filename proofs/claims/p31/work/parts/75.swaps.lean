/-! swaps -/
section SW
variable {A B C : Nat → Nat → Nat} {b c : Nat → Nat} {p q h k g n m i j t r mj : Nat} {scr : List Int32} {G : zAW}
theorem bgc_neg (hn : ¬ (h < A 1 1 ∧ i < zcnt A 1 h)) : bgc A h i < 0 := by
  unfold bgc
  rw [if_neg hn]
  decide
theorem bgc_pos (hr : zRR A 1 b) (hn : h < A 1 1 ∧ i < zcnt A 1 h) : ¬ bgc A h i < 0 := by
  have h0 := hr.1.2.2.1
  have h1 := (row_sm hr (h := h) (i := i) (by omega) hn.2).2
  unfold bgc
  rw [if_pos hn, n_neg]
  · exact id
  · unfold mcol
    omega
/-- what can't be swapped -/
theorem swaps_bad (hi : pvA A b) (hh : h < 1000) (hi2 : i < 1000) (hg : g < 1000) (hj : j < 1000) {e : Int32} (he : swe A h i g j = e) (hw2 : whv A h i g j = e) (hne : ¬ e = 0) : zd scr 90 105 [some (.ref 0), some (.int (nI h)), some (.int (nI i)), some (.int (nI g)), some (.int (nI j)), some (.int (whv A h i g j)), some (.int (bgc A h i)), some (.int (bgv A h i)), some (.int (bgc A g j)), some (.int (bgv A g j)), some (.int (nI (A 1 9))), some (.int (nI (A 1 10))), some (.int e), none, none, none, none, none] [] (hw A G) = some (some (.int (nI 1)), hw A G) := by
  have hs := c_swapE (scr := scr) hi hh hi2 hg hj (by rw [he]; exact hne)
  rw [he] at hs
  refine (b90_105 ob0 (lf hs)).trans ?_
  rw [if_pos rfl]
  refine (b90_119 ob0 (h_total 6 hi.1 (by omega))).trans ?_
  rw [show fig A 1 6 = A 1 9 from rfl, if_pos rfl]
  refine (b90_130 ob0 (h_total 7 hi.1 (by omega))).trans ?_
  rw [show fig A 1 7 = A 1 10 from rfl, if_pos rfl]
  exact b90_141
/-- a swap that nobody vetoes -/
theorem swaps_t0 (hi : pvA A b) (hh : h < A 1 1) (hi2 : i < zcnt A 1 h) (hg : g < A 1 1) (hj : j < zcnt A 1 g) (hne : h ≠ g) (hv : vtr A 1 h i g j = -6) : ∃ A' b', pvA A' b' ∧ WA A' = WA A ∧ A' 4 7 = A 4 7 ∧ zd scr 90 232 [some (.ref 0), some (.int (nI h)), some (.int (nI i)), some (.int (nI g)), some (.int (nI j)), some (.int (vtr A 1 h i g j)), some (.int (nI (mcol A 1 h i))), some (.int (nI (mval A 1 h i))), some (.int (nI (mcol A 1 g j))), some (.int (nI (mval A 1 g j))), some (.int (nI (A 1 9))), some (.int (nI (A 1 10))), some (.int (nI (mval A 1 h i) - nI (mval A 1 g j))), some (.int (nI (A 5 h))), some (.int (nI (A 5 g))), some (.int (-6)), none, none] [] (hw A G) = some (some (.int (nI 1)), hw A' G) := by
  obtain ⟨hs, b', hp⟩ := c_swap0 (scr := scr) hi hh hi2 hg hj hne hv
  have ho := hi.2.1
  have h0 := hi.1.1.2.2.1
  have c1 := zcnt_le (h := h) hi.1.1.1 (by omega)
  have c2 := zcnt_le (h := g) hi.1.1.1 (by omega)
  have i1 := in_all hi.1.1.1 (show h < 7 by omega) hi2
  have i2 := in_all hi.1.1.1 (show g < 7 by omega) hj
  have k47 : kpA A 1 4 7 = A 4 7 := kp_off ho (by omega)
  have hw1 := WA_ex (A := kpA A 1) (one := A 4 h + i) (two := A 4 g + j) (by rw [k47]; exact i1) (by rw [k47]; exact i2)
  obtain ⟨B, hB⟩ : ∃ B, B = exA (kpA A 1) 1 (A 4 h + i) (A 4 g + j) := ⟨_, rfl⟩
  have b4 : ∀ x, B 4 x = A 4 x := fun x => by
    rw [hB]
    unfold exA trA
    rw [up_ne (by omega), up_ne (by omega), up_ne (by omega), kp_off ho (by omega)]
  have b11 : B 1 1 = A 1 1 := by
    rw [hB]
    unfold exA trA
    rw [up_ne (by omega), up_ne (by omega), up_ne (by omega), kp_off ho (by omega)]
  have b19 : B 1 9 = A 1 9 + 1 := by
    rw [hB]
    unfold exA
    rw [up_eq, kp_off ho (by omega)]
  have b110 : B 1 10 = A 1 10 := by
    rw [hB]
    unfold exA trA
    rw [up_ne (by omega), up_ne (by omega), up_ne (by omega), kp_off ho (by omega)]
  have bc : ∀ x, zcnt B 1 x = zcnt A 1 x := fun x => by
    show B 4 (x + 1) - B 4 x = A 4 (x + 1) - A 4 x
    rw [b4, b4]
  have r1 : B 3 (A 4 g + j) = A 3 (A 4 h + i) := by
    rw [hB]
    unfold exA trA
    rw [up_ne (by omega), show (3 : Nat) = 1 + 2 from rfl, up_eq, kp_off ho (by omega)]
  have r2 : B 3 (A 4 h + i) = A 3 (A 4 g + j) := by
    by_cases e : A 4 h + i = A 4 g + j
    · rw [e, r1, e]
    · rw [hB]
      unfold exA trA
      rw [up_ne (by omega), up_ne (by omega), show (3 : Nat) = 1 + 2 from rfl, up_eq, kp_off ho (by omega)]
  rw [← hB] at hs hp hw1
  have m1 : bgc B h i = nI (mcol A 1 g j) ∧ bgv B h i = nI (mval A 1 g j) := by
    unfold bgc bgv
    rw [b11, bc, if_pos ⟨hh, hi2⟩, if_pos ⟨hh, hi2⟩]
    have e : B (1 + 2) (B (1 + 3) h + i) = A (1 + 2) (A (1 + 3) g + j) := by
      have := r2
      rw [← b4 h] at this
      exact this
    unfold mcol mval
    rw [e]
    exact ⟨rfl, rfl⟩
  have m2 : bgc B g j = nI (mcol A 1 h i) ∧ bgv B g j = nI (mval A 1 h i) := by
    unfold bgc bgv
    rw [b11, bc, if_pos ⟨hg, hj⟩, if_pos ⟨hg, hj⟩]
    have e : B (1 + 2) (B (1 + 3) g + j) = A (1 + 2) (A (1 + 3) h + i) := by
      have := r1
      rw [← b4 g] at this
      exact this
    unfold mcol mval
    rw [e]
    exact ⟨rfl, rfl⟩
  refine ⟨B, b', hp, hw1.trans (WA_kp ho), b4 7, ?_⟩
  refine b90_232.trans ?_
  rw [hv, if_pos rfl]
  refine (b90_251 ob0 (lf hs)).trans ?_
  rw [if_pos rfl]
  refine (b90_265 ob0 (h_total 6 hp.1 (by omega))).trans ?_
  rw [if_pos rfl]
  refine b90_280.trans ?_
  rw [show fig B 1 6 = A 1 9 + 1 from b19, n_add, if_pos rfl]
  refine (b90_289 ob0 (h_total 7 hp.1 (by omega))).trans ?_
  rw [if_pos rfl]
  refine b90_304.trans ?_
  rw [show fig B 1 7 = A 1 10 from b110, n_add, Nat.add_zero, if_pos rfl]
  refine b90_313.trans ?_
  rw [if_pos rfl]
  refine b90_375.trans ?_
  rw [if_neg (by decide)]
  refine (b90_380 ob0 (h_bagc hp.1 (by omega) (by omega))).trans ?_
  rw [m1.1, if_pos rfl]
  refine (b90_392 ob0 (h_bagv hp.1 (by omega) (by omega))).trans ?_
  rw [m1.2, if_pos rfl]
  refine (b90_404 ob0 (h_bagc hp.1 (by omega) (by omega))).trans ?_
  rw [m2.1, if_pos rfl]
  refine (b90_417 ob0 (h_bagv hp.1 (by omega) (by omega))).trans ?_
  rw [m2.2, if_pos rfl]
  exact b90_430
/-- a swap that a mother vetoes -/
theorem swaps_t1 (hi : pvA A b) (hh : h < A 1 1) (hi2 : i < zcnt A 1 h) (hg : g < A 1 1) (hj : j < zcnt A 1 g) (hne : h ≠ g) (hm : m < 4) (ht : 0 < A 8 m) (hv : vtr A 1 h i g j = nI m) : ∃ A' b', pvA A' b' ∧ WA A' = WA A ∧ A' 4 7 = A 4 7 ∧ zd scr 90 236 [some (.ref 0), some (.int (nI h)), some (.int (nI i)), some (.int (nI g)), some (.int (nI j)), some (.int (vtr A 1 h i g j)), some (.int (nI (mcol A 1 h i))), some (.int (nI (mval A 1 h i))), some (.int (nI (mcol A 1 g j))), some (.int (nI (mval A 1 g j))), some (.int (nI (A 1 9))), some (.int (nI (A 1 10))), some (.int (nI (mval A 1 h i) - nI (mval A 1 g j))), some (.int (nI (A 5 h))), some (.int (nI (A 5 g))), some (.int (nI m)), none, none] [] (hw A G) = some (some (.int (nI 1)), hw A' G) := by
  obtain ⟨hs, b', hp⟩ := c_swap1 (scr := scr) hi hh hi2 hg hj hne hm ht hv
  have ho := hi.2.1
  have h0 := hi.1.1.2.2.1
  have c1 := zcnt_le (h := h) hi.1.1.1 (by omega)
  have c2 := zcnt_le (h := g) hi.1.1.1 (by omega)
  obtain ⟨B, hB⟩ : ∃ B, B = vtA (kpA A 1) 1 m := ⟨_, rfl⟩
  have bo : ∀ x y, x ≠ 8 → ¬ (x = 1 ∧ y = 10) → ¬ (25 ≤ x ∧ x < 67) → B x y = A x y := fun x y h1 h2 h3 => by
    rw [hB]
    unfold vtA
    rw [up_ne h2, up_ne (by omega), kp_off ho h3]
  have b110 : B 1 10 = A 1 10 + 1 := by
    rw [hB]
    unfold vtA
    rw [up_eq, kp_off ho (by omega)]
  have b8 : B 8 m = A 8 m - 1 := by
    rw [hB]
    unfold vtA
    rw [up_ne (by omega), show (8 : Nat) = 1 + 7 from rfl, up_eq, kp_off ho (by omega)]
  rw [← hB] at hs hp
  have bc : ∀ x, zcnt B 1 x = zcnt A 1 x := fun x => by
    show B 4 (x + 1) - B 4 x = A 4 (x + 1) - A 4 x
    rw [bo _ _ (by omega) (by omega) (by omega), bo _ _ (by omega) (by omega) (by omega)]
  have m1 : bgc B h i = nI (mcol A 1 h i) ∧ bgv B h i = nI (mval A 1 h i) := by
    unfold bgc bgv
    rw [bo 1 1 (by omega) (by omega) (by omega), bc, if_pos ⟨hh, hi2⟩, if_pos ⟨hh, hi2⟩]
    unfold mcol mval
    rw [bo _ _ (by omega) (by omega) (by omega), bo _ _ (by omega) (by omega) (by omega)]
    exact ⟨rfl, rfl⟩
  refine ⟨B, b', hp, WA_of (fun i => bo _ _ (by omega) (by omega) (by omega)) (bo _ _ (by omega) (by omega) (by omega)), bo _ _ (by omega) (by omega) (by omega), ?_⟩
  have n6 : ¬ nI m = -6 := nI_ne6 (by omega)
  refine (b90_236 ob0 (h_vetoes hm)).trans ?_
  rw [hv, if_pos rfl]
  refine (b90_251 ob0 (lf hs)).trans ?_
  rw [if_pos rfl]
  refine (b90_265 ob0 (h_total 6 hp.1 (by omega))).trans ?_
  rw [if_neg n6]
  refine b90_284.trans ?_
  rw [show fig B 1 6 = A 1 9 from bo _ _ (by omega) (by omega) (by omega), n_add, Nat.add_zero, if_pos rfl]
  refine (b90_289 ob0 (h_total 7 hp.1 (by omega))).trans ?_
  rw [if_neg n6]
  refine b90_308.trans ?_
  rw [show fig B 1 7 = A 1 10 + 1 from b110, n_add, if_pos rfl]
  refine b90_313.trans ?_
  rw [if_neg n6]
  refine b90_327.trans ?_
  rw [if_neg (by decide)]
  refine (b90_332 ob0 (h_vetoes hm)).trans ?_
  rw [b8, n_sub (by omega), if_pos rfl]
  refine (b90_345 ob0 (h_bagc hp.1 (by omega) (by omega))).trans ?_
  rw [m1.1, if_pos rfl]
  refine (b90_357 ob0 (h_bagv hp.1 (by omega) (by omega))).trans ?_
  rw [m1.2, if_pos rfl]
  exact b90_369
theorem swaps_good (hi : pvA A b) (hh : h < A 1 1) (hi2 : i < zcnt A 1 h) (hg : g < A 1 1) (hj : j < zcnt A 1 g) (hne : h ≠ g) : ∃ A' b', pvA A' b' ∧ WA A' = WA A ∧ A' 4 7 = A 4 7 ∧ zd scr 90 147 [some (.ref 0), some (.int (nI h)), some (.int (nI i)), some (.int (nI g)), some (.int (nI j)), some (.int (vtr A 1 h i g j)), some (.int (nI (mcol A 1 h i))), some (.int (nI (mval A 1 h i))), some (.int (nI (mcol A 1 g j))), some (.int (nI (mval A 1 g j))), some (.int (nI (A 1 9))), some (.int (nI (A 1 10))), none, none, none, none, none, none] [] (hw A G) = some (some (.int (nI 1)), hw A' G) := by
  have h0 := hi.1.1.2.2.1
  have m1 := hi.1.1.2.2.2.1 h hh
  have m2 := hi.1.1.2.2.2.1 g hg
  have p9 := hi.1.1.2.2.2.2.2.1
  have v1 : mval A 1 h i < 10 := Nat.mod_lt _ (by omega)
  have v2 : mval A 1 g j < 10 := Nat.mod_lt _ (by omega)
  have w1 := hi.1.1.2.2.2.2.2.2 (A 5 h) m1.1
  have w2 := hi.1.1.2.2.2.2.2.2 (A 5 g) m2.1
  have ev : vtr A 1 h i g j = if A 1 7 + mval A 1 g j < mval A 1 h i ∧ 0 < A 8 (A 5 h) then nI (A 5 h) else if A 1 7 + mval A 1 h i < mval A 1 g j ∧ 0 < A 8 (A 5 g) then nI (A 5 g) else -6 := rfl
  have e0 := (b90_147 (scr := scr) (x1 := nI h) (x2 := nI i) (x3 := nI g) (x4 := nI j) (x5 := vtr A 1 h i g j) (x6 := nI (mcol A 1 h i)) (x7 := nI (mval A 1 h i)) (x8 := nI (mcol A 1 g j)) (x9 := nI (mval A 1 g j)) (x10 := nI (A 1 9)) (x11 := nI (A 1 10)) (ob0 (A := A) (G := G)) (h_heir1 0 hi.1 hh (by omega)) ob0 (h_heir1 0 hi.1 hg (by omega)) ob0 (h_total 12 hi.1 (by omega)))
  rw [show fig A 1 12 = A 1 7 from rfl, show abt A 1 h 0 = A 5 h from rfl, show abt A 1 g 0 = A 5 g from rfl] at e0
  -- the other one
  have second : (¬ (A 1 7 + mval A 1 g j < mval A 1 h i ∧ 0 < A 8 (A 5 h))) → ∃ A' b', pvA A' b' ∧ WA A' = WA A ∧ A' 4 7 = A 4 7 ∧ zd scr 90 195 [some (.ref 0), some (.int (nI h)), some (.int (nI i)), some (.int (nI g)), some (.int (nI j)), some (.int (vtr A 1 h i g j)), some (.int (nI (mcol A 1 h i))), some (.int (nI (mval A 1 h i))), some (.int (nI (mcol A 1 g j))), some (.int (nI (mval A 1 g j))), some (.int (nI (A 1 9))), some (.int (nI (A 1 10))), some (.int (nI (mval A 1 h i) - nI (mval A 1 g j))), some (.int (nI (A 5 h))), some (.int (nI (A 5 g))), none, none, none] [] (hw A G) = some (some (.int (nI 1)), hw A' G) := by
    intro hn
    rw [if_neg hn] at ev
    have e1 := (b90_195 (scr := scr) (x1 := nI h) (x2 := nI i) (x3 := nI g) (x4 := nI j) (x5 := vtr A 1 h i g j) (x6 := nI (mcol A 1 h i)) (x7 := nI (mval A 1 h i)) (x8 := nI (mcol A 1 g j)) (x9 := nI (mval A 1 g j)) (x10 := nI (A 1 9)) (x11 := nI (A 1 10)) (x12 := (nI (mval A 1 h i) - nI (mval A 1 g j))) (x13 := nI (A 5 h)) (x14 := nI (A 5 g)) (ob0 (A := A) (G := G)) (h_total 12 hi.1 (by omega)))
    rw [show fig A 1 12 = A 1 7 from rfl] at e1
    have none6 : vtr A 1 h i g j = -6 → ∃ A' b', pvA A' b' ∧ WA A' = WA A ∧ A' 4 7 = A 4 7 ∧ zd scr 90 221 [some (.ref 0), some (.int (nI h)), some (.int (nI i)), some (.int (nI g)), some (.int (nI j)), some (.int (vtr A 1 h i g j)), some (.int (nI (mcol A 1 h i))), some (.int (nI (mval A 1 h i))), some (.int (nI (mcol A 1 g j))), some (.int (nI (mval A 1 g j))), some (.int (nI (A 1 9))), some (.int (nI (A 1 10))), some (.int (nI (mval A 1 h i) - nI (mval A 1 g j))), some (.int (nI (A 5 h))), some (.int (nI (A 5 g))), none, none, none] [] (hw A G) = some (some (.int (nI 1)), hw A' G) := fun hv => by
      obtain ⟨A', b', t1, t2, t3, t4⟩ := swaps_t0 (scr := scr) (G := G) hi hh hi2 hg hj hne hv
      refine ⟨A', b', t1, t2, t3, b90_221.trans ?_⟩
      rw [if_pos rfl]
      exact t4
    by_cases c1 : A 1 7 + mval A 1 h i < mval A 1 g j
    · rw [if_pos (by rw [n_ltN (by omega) (by omega) (by omega)]; exact c1)] at e1
      by_cases c2 : 0 < A 8 (A 5 g)
      · rw [if_pos ⟨c1, c2⟩] at ev
        obtain ⟨A', b', t1, t2, t3, t4⟩ := swaps_t1 (scr := scr) (G := G) hi hh hi2 hg hj hne m2.1 c2 ev
        refine ⟨A', b', t1, t2, t3, e1.trans ((b90_207 ob0 (h_vetoes m2.1)).trans ?_)⟩
        rw [i_pos c2 (by have : A 8 (A 5 g) < 10 := w2; omega)]
        refine b90_216.trans ?_
        rw [if_neg (nI_ne6 (by have : A 5 g < 4 := m2.1; omega))]
        exact t4
      · rw [if_neg (fun q => c2 q.2)] at ev
        obtain ⟨A', b', t1, t2, t3, t4⟩ := none6 ev
        refine ⟨A', b', t1, t2, t3, e1.trans ((b90_207 ob0 (h_vetoes m2.1)).trans ?_)⟩
        rw [i_npos (Nat.le_zero.mp (Nat.not_lt.mp c2))]
        exact t4
    · rw [if_neg (by rw [n_ltN (by omega) (by omega) (by omega)]; exact c1)] at e1
      rw [if_neg (fun q => c1 q.1)] at ev
      obtain ⟨A', b', t1, t2, t3, t4⟩ := none6 ev
      exact ⟨A', b', t1, t2, t3, e1.trans t4⟩
  by_cases c1 : A 1 7 + mval A 1 g j < mval A 1 h i
  · rw [if_pos (by rw [n_ltS (by omega) (by omega) (by omega)]; exact c1)] at e0
    by_cases c2 : 0 < A 8 (A 5 h)
    · rw [if_pos ⟨c1, c2⟩] at ev
      obtain ⟨A', b', t1, t2, t3, t4⟩ := swaps_t1 (scr := scr) (G := G) hi hh hi2 hg hj hne m1.1 c2 ev
      refine ⟨A', b', t1, t2, t3, e0.trans ((b90_181 ob0 (h_vetoes m1.1)).trans ?_)⟩
      rw [i_pos c2 (by have : A 8 (A 5 h) < 10 := w1; omega)]
      refine b90_190.trans ?_
      rw [if_neg (nI_ne6 (by have : A 5 h < 4 := m1.1; omega))]
      exact t4
    · obtain ⟨A', b', t1, t2, t3, t4⟩ := second (fun q => c2 q.2)
      refine ⟨A', b', t1, t2, t3, e0.trans ((b90_181 ob0 (h_vetoes m1.1)).trans ?_)⟩
      rw [i_npos (Nat.le_zero.mp (Nat.not_lt.mp c2))]
      exact t4
  · rw [if_neg (by rw [n_ltS (by omega) (by omega) (by omega)]; exact c1)] at e0
    obtain ⟨A', b', t1, t2, t3, t4⟩ := second (fun q => c1 q.1)
    exact ⟨A', b', t1, t2, t3, e0.trans t4⟩
theorem swaps_ok (hi : pvA A b) (hh : h < 1000) (hi2 : i < 1000) (hg : g < 1000) (hj : j < 1000) : ∃ A' b', pvA A' b' ∧ WA A' = WA A ∧ A' 4 7 = A 4 7 ∧ zC scr 90 [.ref 0, .int (nI h), .int (nI i), .int (nI g), .int (nI j)] (hw A G) = some (some (.int (nI 1)), hw A' G) := by
  have e0 : zC scr 90 [.ref 0, .int (nI h), .int (nI i), .int (nI g), .int (nI j)] (hw A G) = if bgc A h i < 0 then zd scr 90 80 [some (.ref 0), some (.int (nI h)), some (.int (nI i)), some (.int (nI g)), some (.int (nI j)), some (.int (whv A h i g j)), some (.int (bgc A h i)), some (.int (bgv A h i)), some (.int (bgc A g j)), some (.int (bgv A g j)), some (.int (nI (A 1 9))), some (.int (nI (A 1 10))), none, none, none, none, none, none] [] (hw A G) else zd scr 90 70 [some (.ref 0), some (.int (nI h)), some (.int (nI i)), some (.int (nI g)), some (.int (nI j)), some (.int (whv A h i g j)), some (.int (bgc A h i)), some (.int (bgv A h i)), some (.int (bgc A g j)), some (.int (bgv A g j)), some (.int (nI (A 1 9))), some (.int (nI (A 1 10))), none, none, none, none, none, none] [] (hw A G) := by
    rw [zC_of zh90]
    exact b90_0 ob0 (h_who hi.1 hh hi2 hg hj) ob0 (h_bagc hi.1 hh hi2) ob0 (h_bagv hi.1 hh hi2) ob0 (h_bagc hi.1 hg hj) ob0 (h_bagv hi.1 hg hj) ob0 (h_total 6 hi.1 (by omega)) ob0 (h_total 7 hi.1 (by omega))
  have bad : ¬ ((h < A 1 1 ∧ i < zcnt A 1 h) ∧ (g < A 1 1 ∧ j < zcnt A 1 g)) → zd scr 90 90 [some (.ref 0), some (.int (nI h)), some (.int (nI i)), some (.int (nI g)), some (.int (nI j)), some (.int (whv A h i g j)), some (.int (bgc A h i)), some (.int (bgv A h i)), some (.int (bgc A g j)), some (.int (bgv A g j)), some (.int (nI (A 1 9))), some (.int (nI (A 1 10))), none, none, none, none, none, none] [] (hw A G) = some (some (.int (nI 1)), hw A G) := fun hn => by
    have w1 : whv A h i g j = -1 := by unfold whv; rw [if_neg hn]
    have w2 : swe A h i g j = -1 := by unfold swe; rw [if_neg hn]
    refine b90_90.trans ?_
    rw [if_pos w1]
    exact swaps_bad hi hh hi2 hg hj w2 w1 (by decide)
  by_cases c1 : h < A 1 1 ∧ i < zcnt A 1 h
  case neg =>
    refine ⟨A, b, hi, rfl, rfl, ?_⟩
    rw [e0, if_pos (bgc_neg c1)]
    refine b90_80.trans ?_
    rw [if_pos (bgc_neg c1)]
    exact bad (fun q => c1 q.1)
  have p1 := bgc_pos hi.1 c1
  by_cases c2 : g < A 1 1 ∧ j < zcnt A 1 g
  case neg =>
    refine ⟨A, b, hi, rfl, rfl, ?_⟩
    rw [e0, if_neg p1]
    refine b90_70.trans ?_
    rw [if_pos (bgc_neg c2)]
    refine b90_80.trans ?_
    rw [if_neg p1]
    refine b90_85.trans ?_
    rw [if_pos (bgc_neg c2)]
    exact bad (fun q => c2 q.2)
  have p2 := bgc_pos hi.1 c2
  by_cases e : h = g
  · have w1 : whv A h i g j = -2 := by unfold whv; rw [if_pos ⟨c1, c2⟩, if_pos e]
    have w2 : swe A h i g j = -2 := by unfold swe; rw [if_pos ⟨c1, c2⟩, if_pos e]
    refine ⟨A, b, hi, rfl, rfl, ?_⟩
    rw [e0, if_neg p1]
    refine b90_70.trans ?_
    rw [if_neg p2]
    refine b90_75.trans ?_
    rw [i_eq e]
    refine b90_80.trans ?_
    rw [if_neg p1]
    refine b90_85.trans ?_
    rw [if_neg p2]
    refine b90_94.trans ?_
    rw [if_pos w1]
    exact swaps_bad hi hh hi2 hg hj w2 w1 (by decide)
  · obtain ⟨A', b', t1, t2, t3, t4⟩ := swaps_good (scr := scr) (G := G) hi c1.1 c1.2 c2.1 c2.2 e
    refine ⟨A', b', t1, t2, t3, ?_⟩
    rw [e0, if_neg p1]
    refine b90_70.trans ?_
    rw [if_neg p2]
    refine b90_75.trans ?_
    rw [i_ne e (by omega) (by omega)]
    have w1 : whv A h i g j = vtr A 1 h i g j := by unfold whv; rw [if_pos ⟨c1, c2⟩, if_neg e]
    have w2 : bgc A h i = nI (mcol A 1 h i) := by unfold bgc; rw [if_pos c1]
    have w3 : bgv A h i = nI (mval A 1 h i) := by unfold bgv; rw [if_pos c1]
    have w4 : bgc A g j = nI (mcol A 1 g j) := by unfold bgc; rw [if_pos c2]
    have w5 : bgv A g j = nI (mval A 1 g j) := by unfold bgv; rw [if_pos c2]
    rw [w1, w2, w3, w4, w5]
    exact t4
end SW
