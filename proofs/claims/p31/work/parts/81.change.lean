/-! change: one of the calls, and that all marbles are there -/
section CH
variable {A B C : Nat → Nat → Nat} {b c : Nat → Nat} {p q h k g n m i j t r mj : Nat} {scr : List Int32} {G : zAW} {x1 x y x8 x9 x5 : Int32} {v10 v11 v12 v13 v14 : Option Value}
theorem ch_end (hB : pvA B b) (h1 : WA B = WA A) (h2 : B 4 7 = A 4 7) : zd scr 94 669 [some (.ref 0), some (.int x1), some (.int x), some (.int y), some (.int (nI (A 1 1))), some (.int x5), some (.int (nI (A 4 7))), some (.int (nI (WA A))), some (.int x8), some (.int x9), v10, v11, v12, v13, v14] [] (hw B G) = some (some (.int (nI 1)), hw B G) := by
  refine (b94_669 ob0 (h_total 1 hB.1 (by omega)) ob0 (h_total 2 hB.1 (by omega))).trans ?_
  rw [n_add, many_is hB.1, h2, if_pos rfl]
  refine (b94_685 ob0 (h_total 3 hB.1 (by omega)) ob0 (h_total 4 hB.1 (by omega))).trans ?_
  rw [n_add, worth_is hB.1, h1, if_pos rfl]
  exact b94_701
theorem heir_is (hr : zRR A 1 b) (x : Int32) : lw x (A 1 1 + 1) ≤ A 1 1 ∧ zC scr 86 [.int x, .int (nI (A 1 1) + nI 1)] (hw A G) = some (some (.int (nI (lw x (A 1 1 + 1)))), hw A G) := by
  have h0 := hr.1.2.2.1
  have h1 := lw_is x (n := A 1 1 + 1) (by omega) (by omega)
  refine ⟨by omega, ?_⟩
  rw [n_add]
  exact c_low x (by omega) (by omega)
/-- come -/
theorem ch_come (hi : pvA A b) : ∃ A' b' G', pvA A' b' ∧ G'.length ≤ G.length + 1 ∧ zsz G' ≤ zsz G + 18 ∧ zd scr 94 124 [some (.ref 0), some (.int x1), some (.int x), some (.int y), some (.int (nI (A 1 1))), some (.int (nI (lw x (A 1 1 + 1)))), some (.int (nI (A 4 7))), some (.int (nI (WA A))), some (.int (nI 0)), some (.int (nI 1)), none, none, none, none, none] [] (hw A G) = some (some (.int (nI 1)), hw A' G') := by
  have h0 := hi.1.1.2.2.1
  have s1 := rr_n hi.1
  have m1 := (lw_is x (n := 4) (by omega) (by omega)).2
  have w1 := (lw_is y (n := 6) (by omega) (by omega)).2
  have l1 := fun w => c_low (scr := scr) x (n := 4) (by omega) (by omega) (w := w)
  have l2 := fun w => c_low (scr := scr) y (n := 6) (by omega) (by omega) (w := w)
  by_cases c : A 1 1 = 6
  · refine ⟨A, b, G, hi, by omega, by omega, ?_⟩
    refine (b94_124 (l1 _) (l2 _) ob0 (lf (c_come6 hi (by omega) m1 w1))).trans ?_
    rw [i_eq c]
    refine b94_146.trans ((if_pos rfl).trans (b94_156.trans ?_))
    rw [i_eq c]
    exact b94_185.trans ((if_neg (by decide)).trans (ch_end hi rfl rfl))
  · obtain ⟨q1, q2⟩ := c_come (scr := scr) hi (by omega) m1 w1
    have ho := hi.2.1
    obtain ⟨B, hB⟩ : ∃ B, B = ahA (kpA A 1) 1 (lw x 4) (lw y 6) := ⟨_, rfl⟩
    rw [← hB] at q1 q2
    have bo : ∀ u v, u ≠ 5 → u ≠ 6 → u ≠ 7 → u ≠ 1 → ¬ (25 ≤ u ∧ u < 67) → B u v = A u v := fun u v a1 a2 a3 a4 a5 => by
      rw [hB]
      unfold ahA
      rw [up_ne (by omega), up_ne (by omega), up_ne (by omega), up_ne (by omega), kp_off ho a5]
    have b11 : B 1 1 = A 1 1 + 1 := by
      rw [hB]
      unfold ahA
      rw [up_eq, kp_off ho (by omega)]
    have e5 : abt B 1 (A 1 1) 5 = A 1 1 := by
      refine rr_plc q2.1 (t := A 1 1) ?_ ?_
      · have := rr_n q2.1
        omega
      · rw [s1]
        unfold cmB
        exact ups_eq
    have e2 : abt B 1 (A 1 1) 2 = 0 := by
      show B 4 (A 1 1 + 1) - B 4 (A 1 1) = 0
      rw [bo _ _ (by omega) (by omega) (by omega) (by omega) (by omega), bo _ _ (by omega) (by omega) (by omega) (by omega) (by omega)]
      exact cnt_0 hi.1 (Nat.le_refl _) (by omega)
    have k5 := h_heir1 (scr := scr) (G := G) 5 q2.1 (h := A 1 1) (by omega) (by omega)
    have k2 := h_heir1 (scr := scr) (G := G) 2 q2.1 (h := A 1 1) (by omega) (by omega)
    rw [e5] at k5
    rw [e2] at k2
    refine ⟨B, _, G, q2, by omega, by omega, ?_⟩
    refine (b94_124 (l1 _) (l2 _) ob0 (lf q1)).trans ?_
    rw [i_ne c (by omega) (by omega)]
    refine b94_151.trans ((if_pos rfl).trans (b94_156.trans ?_))
    rw [i_ne c (by omega) (by omega)]
    refine (b94_163 ob0 k5).trans ((if_pos rfl).trans ((b94_175 ob0 k2).trans ((if_pos (by decide)).trans ?_)))
    exact b94_185.trans ((if_neg (by decide)).trans (ch_end q2 (WA_of (fun i => bo _ _ (by omega) (by omega) (by omega) (by omega) (by omega)) (bo _ _ (by omega) (by omega) (by omega) (by omega) (by omega))) (bo _ _ (by omega) (by omega) (by omega) (by omega) (by omega))))
/-- leave -/
theorem ch_leave (hi : pvA A b) : ∃ A' b' G', pvA A' b' ∧ G'.length ≤ G.length + 1 ∧ zsz G' ≤ zsz G + 18 ∧ zd scr 94 195 [some (.ref 0), some (.int x1), some (.int x), some (.int y), some (.int (nI (A 1 1))), some (.int (nI (lw x (A 1 1 + 1)))), some (.int (nI (A 4 7))), some (.int (nI (WA A))), some (.int (nI 0)), some (.int (nI 1)), none, none, none, none, none] [] (hw A G) = some (some (.int (nI 1)), hw A' G') := by
  have h0 := hi.1.1.2.2.1
  have s1 := rr_n hi.1
  have hl := f_lt hi.1
  have hle := (heir_is (scr := scr) (G := G) hi.1 x).1
  obtain ⟨h, hh⟩ : ∃ h, h = lw x (A 1 1 + 1) := ⟨_, rfl⟩
  rw [← hh] at hle ⊢
  have kh := h_heir (scr := scr) (G := G) 2 hi.1 (h := h) (by omega) (by omega)
  -- nothing is done
  have skip : ∀ (x8 v11 : Int32), zd scr 94 312 [some (.ref 0), some (.int x1), some (.int x), some (.int y), some (.int (nI (A 1 1))), some (.int (nI h)), some (.int (nI (A 4 7))), some (.int (nI (WA A))), some (.int x8), some (.int (nI 1)), some (.int (nI (zcnt A 1 6))), some (.int v11), none, none, none] [] (hw A G) = some (some (.int (nI 1)), hw A G) := fun x8 v11 => by
    exact b94_312.trans ((if_neg (by decide)).trans (ch_end hi rfl rfl))
  by_cases c : h < A 1 1
  case neg =>
    rw [if_neg c] at kh
    refine ⟨A, b, G, hi, by omega, by omega, ?_⟩
    refine (b94_195 ob0 kh ob0 (h_total 1 hi.1 (by omega))).trans ((if_pos (by decide)).trans ?_)
    rw [f_all]
    refine b94_230.trans ?_
    by_cases e : (y &&& nI 3) = 0
    · rw [if_pos e]
      refine (b94_239 ob0 (lf (c_leave0 hi (by omega)))).trans ((if_pos (by decide)).trans ?_)
      refine b94_250.trans ((if_pos rfl).trans ((b94_269 ob0 (h_total 0 hi.1 (by omega))).trans ((if_pos (by decide)).trans ?_)))
      refine b94_285.trans ?_
      rw [n_sub0, f_n, if_pos rfl]
      refine (b94_290 ob0 (h_total 1 hi.1 (by omega))).trans ((if_pos (by decide)).trans ?_)
      refine b94_307.trans ?_
      rw [f_all, n_add, Nat.add_zero, if_pos rfl]
      exact skip _ _
    · rw [if_neg e]
      exact skip _ _
  rw [if_pos c] at kh
  have c1 := zcnt_le (h := h) hi.1.1.1 (by omega)
  have a2 : abt A 1 h 2 = zcnt A 1 h := rfl
  rw [a2] at kh
  have e0 := (b94_195 (scr := scr) (x1 := x1) (x2 := x) (x3 := y) (x4 := nI (A 1 1)) (x5 := nI h) (x6 := nI (A 4 7)) (x7 := nI (WA A)) (x8 := nI 0) (x9 := nI 1) (ob0 (A := A) (G := G)) kh ob0 (h_total 1 hi.1 (by omega))).trans ((i_neg (by omega)).trans b94_216)
  rw [f_all, n_add] at e0
  by_cases c2 : zcnt A 1 6 + zcnt A 1 h ≤ 40
  · rw [i_le c2 (by omega)] at e0
    have e1 := e0.trans b94_226
    by_cases e : (y &&& nI 3) = 0
    case neg =>
      rw [if_neg e] at e1
      exact ⟨A, b, G, hi, by omega, by omega, e1.trans (skip _ _)⟩
    rw [if_pos e] at e1
    obtain ⟨q1, b', q2⟩ := c_leave (scr := scr) hi c c2
    have ho := hi.2.1
    have hk := kp_row ho hi.1
    have kc : zcnt (kpA A 1) 1 h = zcnt A 1 h := by
      unfold zcnt
      rw [kp_off ho (by omega), kp_off ho (by omega)]
    obtain ⟨r1, r2, r3⟩ := WA_rb (A := kpA A 1) (h := h) hk.1.1 (by omega)
    rw [kc, kp_off ho (by omega)] at r3
    rw [kp_off ho (by omega)] at r2
    obtain ⟨B, hB⟩ : ∃ B, B = rhA (kpA A 1) 1 h := ⟨_, rfl⟩
    have w1 : WA B = WA A := (WA_of (B := B) (A := rbA (kpA A 1) 1 h) (fun i => by rw [hB]; exact rh_34 (Or.inl rfl)) (by rw [hB]; exact rh_34 (Or.inr rfl))).trans (r1.trans (WA_kp ho))
    have w2 : B 4 7 = A 4 7 := by rw [hB, rh_34 (Or.inr rfl)]; exact r2
    have w3 : B 4 6 = A 4 6 - zcnt A 1 h := by rw [hB, rh_34 (Or.inr rfl)]; exact r3
    have w4 : B 1 1 = A 1 1 - 1 := by
      rw [hB]
      unfold rhA
      rw [if_pos ⟨rfl, rfl⟩, kp_off ho (by omega)]
    have u1 : A 4 (h + 1) ≤ A 4 6 := zmo_le hi.1.1.1 (by omega) (by omega)
    have u2 : zcnt A 1 h = A 4 (h + 1) - A 4 h := rfl
    have u3 : A 4 6 ≤ A 4 7 := hi.1.1.1.1 6 (by omega)
    have u4 : zcnt A 1 6 = A 4 7 - A 4 6 := rfl
    have w5 : zcnt B 1 6 = zcnt A 1 6 + zcnt A 1 h := by
      show B 4 7 - B 4 6 = _
      omega
    rw [← hB] at q1 q2
    refine ⟨B, b', G, q2, by omega, by omega, e1.trans ?_⟩
    refine (b94_239 ob0 (lf q1)).trans ((i_neg (by omega)).trans (b94_254.trans ((if_neg (by decide)).trans (b94_259.trans ((if_pos rfl).trans ?_)))))
    refine (b94_269 ob0 (h_total 0 q2.1 (by omega))).trans ((if_neg (by decide)).trans (b94_281.trans ?_))
    rw [f_n, w4, n_sub (by omega), if_pos rfl]
    refine (b94_290 ob0 (h_total 1 q2.1 (by omega))).trans ((if_neg (by decide)).trans (b94_302.trans ?_))
    rw [f_all, w5, n_add, if_pos rfl]
    exact b94_312.trans ((if_neg (by decide)).trans (ch_end q2 w1 w2))
  · rw [i_nle c2 (by omega)] at e0
    have e1 := e0.trans b94_230
    refine ⟨A, b, G, hi, by omega, by omega, ?_⟩
    by_cases e : (y &&& nI 3) = 0
    · rw [if_pos e] at e1
      refine e1.trans ?_
      refine (b94_239 ob0 (lf (c_leaveL hi c (by omega)))).trans ((i_neg (by omega)).trans (b94_254.trans ((if_pos (by decide)).trans (b94_264.trans ((if_pos rfl).trans ?_)))))
      refine (b94_269 ob0 (h_total 0 hi.1 (by omega))).trans ((if_pos (by decide)).trans (b94_285.trans ?_))
      rw [n_sub0, f_n, if_pos rfl]
      refine (b94_290 ob0 (h_total 1 hi.1 (by omega))).trans ((if_pos (by decide)).trans (b94_307.trans ?_))
      rw [f_all, n_add, Nat.add_zero, if_pos rfl]
      exact skip _ _
    · rw [if_neg e] at e1
      exact e1.trans (skip _ _)
/-- wish -/
theorem ch_wish (hi : pvA A b) : ∃ A' b' G', pvA A' b' ∧ G'.length ≤ G.length + 1 ∧ zsz G' ≤ zsz G + 18 ∧ zd scr 94 322 [some (.ref 0), some (.int x1), some (.int x), some (.int y), some (.int (nI (A 1 1))), some (.int (nI (lw x (A 1 1 + 1)))), some (.int (nI (A 4 7))), some (.int (nI (WA A))), some (.int (nI 0)), some (.int (nI 1)), none, none, none, none, none] [] (hw A G) = some (some (.int (nI 1)), hw A' G') := by
  have h0 := hi.1.1.2.2.1
  have w1 := (lw_is y (n := 6) (by omega) (by omega)).2
  have l2 := fun w => c_low (scr := scr) y (n := 6) (by omega) (by omega) (w := w)
  have hle := (heir_is (scr := scr) (G := G) hi.1 x).1
  obtain ⟨h, hh⟩ : ∃ h, h = lw x (A 1 1 + 1) := ⟨_, rfl⟩
  rw [← hh] at hle ⊢
  by_cases c : h = A 1 1
  · refine ⟨A, b, G, hi, by omega, by omega, ?_⟩
    refine (b94_322 (l2 _) ob0 (lf (c_wish0 hi c _))).trans ?_
    rw [i_eq c]
    exact b94_343.trans ((if_pos rfl).trans (b94_349.trans ((if_neg (by decide)).trans (ch_end hi rfl rfl))))
  · obtain ⟨q1, q2⟩ := c_wish (scr := scr) hi (h := h) (by omega) w1
    have ho := hi.2.1
    obtain ⟨B, hB⟩ : ∃ B, B = up (kpA A 1) (1 + 5) h (lw y 6) := ⟨_, rfl⟩
    have bo : ∀ u v, u ≠ 6 → ¬ (25 ≤ u ∧ u < 67) → B u v = A u v := fun u v a1 a5 => by
      rw [hB, up_ne (by omega), kp_off ho a5]
    have b6 : B 6 h = lw y 6 := by
      rw [hB, show (6 : Nat) = 1 + 5 from rfl, up_eq]
    rw [← hB] at q1 q2
    have b11 : B 1 1 = A 1 1 := bo _ _ (by omega) (by omega)
    have k4 := h_heir1 (scr := scr) (G := G) 4 q2.1 (h := h) (by omega) (by omega)
    have k1 := h_heir1 (scr := scr) (G := G) 1 q2.1 (h := h) (by omega) (by omega)
    rw [show abt B 1 h 4 = zcol B 1 h (lw y 6) by show zcol B 1 h (B 6 h) = _; rw [b6]] at k4
    rw [show abt B 1 h 1 = lw y 6 from b6] at k1
    refine ⟨B, _, G, q2, by omega, by omega, ?_⟩
    refine (b94_322 (l2 _) ob0 (lf q1)).trans ?_
    rw [i_ne c (by omega) (by omega)]
    refine (b94_357 ob0 k4).trans ((if_pos rfl).trans ((b94_369 ob0 k1 (l2 _)).trans ((if_pos rfl).trans ?_)))
    exact b94_385.trans ((if_neg (by decide)).trans (ch_end q2 (WA_of (fun i => bo _ _ (by omega) (by omega)) (bo _ _ (by omega) (by omega))) (bo _ _ (by omega) (by omega))))
/-- setRule, setPatience -/
theorem ch_set (hi : pvA A b) : ∃ A' b' G', pvA A' b' ∧ G'.length ≤ G.length + 1 ∧ zsz G' ≤ zsz G + 18 ∧ zd scr 94 395 [some (.ref 0), some (.int x1), some (.int x), some (.int y), some (.int (nI (A 1 1))), some (.int (nI (lw x (A 1 1 + 1)))), some (.int (nI (A 4 7))), some (.int (nI (WA A))), some (.int (nI 0)), some (.int (nI 1)), none, none, none, none, none] [] (hw A G) = some (some (.int (nI 1)), hw A' G') := by
  have ho := hi.2.1
  by_cases e : (y &&& nI 1) = 0
  · have r3 := (lw_is x (n := 3) (by omega) (by omega)).2
    have l1 := fun w => c_low (scr := scr) x (n := 3) (by omega) (by omega) (w := w)
    obtain ⟨q1, q2⟩ := c_rule (scr := scr) hi r3
    have bo : ∀ u v, u ≠ 1 → ¬ (25 ≤ u ∧ u < 67) → up (kpA A 1) 1 6 (lw x 3) u v = A u v := fun u v a1 a5 => by
      rw [up_ne (by omega), kp_off ho a5]
    refine ⟨_, _, G, q2, by omega, by omega, ?_⟩
    refine b94_395.trans ((if_pos e).trans ((b94_401 ob0 (h_total 11 hi.1 (by omega))).trans ((if_pos e).trans ?_)))
    refine (b94_424 (l1 _) ob0 (lf q1)).trans ((if_pos rfl).trans ?_)
    exact b94_451.trans ((if_neg (by decide)).trans (ch_end q2 (WA_of (fun i => bo _ _ (by omega) (by omega)) (bo _ _ (by omega) (by omega))) (bo _ _ (by omega) (by omega))))
  · have r9 := (lw_is x (n := 9) (by omega) (by omega)).2
    have l1 := fun w => c_low (scr := scr) x (n := 9) (by omega) (by omega) (w := w)
    obtain ⟨q1, q2⟩ := c_pat (scr := scr) hi r9
    have bo : ∀ u v, u ≠ 1 → ¬ (25 ≤ u ∧ u < 67) → up (kpA A 1) 1 7 (lw x 9) u v = A u v := fun u v a1 a5 => by
      rw [up_ne (by omega), kp_off ho a5]
    refine ⟨_, _, G, q2, by omega, by omega, ?_⟩
    refine b94_395.trans ((if_neg e).trans ((b94_410 ob0 (h_total 12 hi.1 (by omega))).trans ((if_neg e).trans ?_)))
    refine (b94_436 (l1 _) ob0 (lf q1)).trans ((if_pos rfl).trans ?_)
    exact b94_451.trans ((if_neg (by decide)).trans (ch_end q2 (WA_of (fun i => bo _ _ (by omega) (by omega)) (bo _ _ (by omega) (by omega))) (bo _ _ (by omega) (by omega))))
/-- grant -/
theorem ch_grant (hi : pvA A b) : ∃ A' b' G', pvA A' b' ∧ G'.length ≤ G.length + 1 ∧ zsz G' ≤ zsz G + 18 ∧ zd scr 94 461 [some (.ref 0), some (.int x1), some (.int x), some (.int y), some (.int (nI (A 1 1))), some (.int (nI (lw x (A 1 1 + 1)))), some (.int (nI (A 4 7))), some (.int (nI (WA A))), some (.int (nI 0)), some (.int (nI 1)), none, none, none, none, none] [] (hw A G) = some (some (.int (nI 1)), hw A' G') := by
  have ho := hi.2.1
  have m4 := (lw_is x (n := 4) (by omega) (by omega)).2
  have v4 := (lw_is y (n := 4) (by omega) (by omega)).2
  have l1 := fun w => c_low (scr := scr) x (n := 4) (by omega) (by omega) (w := w)
  have l2 := fun w => c_low (scr := scr) y (n := 4) (by omega) (by omega) (w := w)
  obtain ⟨q1, q2⟩ := c_grant (scr := scr) hi m4 (v := lw y 4) (by omega)
  have bo : ∀ u v, u ≠ 8 → ¬ (25 ≤ u ∧ u < 67) → up (kpA A 1) (1 + 7) (lw x 4) (lw y 4) u v = A u v := fun u v a1 a5 => by
    rw [up_ne (by omega), kp_off ho a5]
  have kv := h_vetoes (scr := scr) (G := G) (A := up (kpA A 1) (1 + 7) (lw x 4) (lw y 4)) m4
  rw [show up (kpA A 1) (1 + 7) (lw x 4) (lw y 4) 8 (lw x 4) = lw y 4 from up_eq] at kv
  refine ⟨_, _, G, q2, by omega, by omega, ?_⟩
  refine (b94_461 (l1 _) ob0 (h_vetoes m4) (l1 _) (l2 _) ob0 (lf q1)).trans ((if_pos rfl).trans ?_)
  refine (b94_491 (l1 _) ob0 kv (l2 _)).trans ((if_pos rfl).trans ?_)
  exact b94_508.trans ((if_neg (by decide)).trans (ch_end q2 (WA_of (fun i => bo _ _ (by omega) (by omega)) (bo _ _ (by omega) (by omega))) (bo _ _ (by omega) (by omega))))
theorem ch_drops (hi : pvA A b) : ∃ A' b' G', pvA A' b' ∧ G'.length ≤ G.length + 1 ∧ zsz G' ≤ zsz G + 18 ∧ zd scr 94 518 [some (.ref 0), some (.int x1), some (.int x), some (.int y), some (.int (nI (A 1 1))), some (.int (nI (lw x (A 1 1 + 1)))), some (.int (nI (A 4 7))), some (.int (nI (WA A))), some (.int (nI 0)), some (.int (nI 1)), none, none, none, none, none] [] (hw A G) = some (some (.int (nI 1)), hw A' G') := by
  obtain ⟨A', b', h1, h2⟩ := drops_ok (scr := scr) (G := G) x y hi
  exact ⟨A', b', G, h1, by omega, by omega, b94_518 h2 rfl⟩
theorem ch_rounds (hi : pvA A b) : ∃ A' b' G', pvA A' b' ∧ G'.length ≤ G.length + 1 ∧ zsz G' ≤ zsz G + 18 ∧ zd scr 94 525 [some (.ref 0), some (.int x1), some (.int x), some (.int y), some (.int (nI (A 1 1))), some (.int (nI (lw x (A 1 1 + 1)))), some (.int (nI (A 4 7))), some (.int (nI (WA A))), some (.int (nI 0)), some (.int (nI 1)), none, none, none, none, none] [] (hw A G) = some (some (.int (nI 1)), hw A' G') := by
  obtain ⟨A', b', h1, h2, h3, h4⟩ := rounds_ok (scr := scr) (G := G) hi
  exact ⟨A', b', G, h1, by omega, by omega, (b94_525 h4).trans ((if_neg (by decide)).trans (ch_end h1 h2 h3))⟩
theorem ch_divides (hi : pvA A b) : ∃ A' b' G', pvA A' b' ∧ G'.length ≤ G.length + 1 ∧ zsz G' ≤ zsz G + 18 ∧ zd scr 94 536 [some (.ref 0), some (.int x1), some (.int x), some (.int y), some (.int (nI (A 1 1))), some (.int (nI (lw x (A 1 1 + 1)))), some (.int (nI (A 4 7))), some (.int (nI (WA A))), some (.int (nI 0)), some (.int (nI 1)), none, none, none, none, none] [] (hw A G) = some (some (.int (nI 1)), hw A' G') := by
  obtain ⟨A', b', G', h1, h2, h3, h5, h6, h4⟩ := divides_ok (scr := scr) (G := G) hi
  exact ⟨A', b', G', h1, h5, h6, (b94_536 h4).trans ((if_neg (by decide)).trans (ch_end h1 h2 h3))⟩
theorem ch_swaps (hi : pvA A b) : ∃ A' b' G', pvA A' b' ∧ G'.length ≤ G.length + 1 ∧ zsz G' ≤ zsz G + 18 ∧ zd scr 94 547 [some (.ref 0), some (.int x1), some (.int x), some (.int y), some (.int (nI (A 1 1))), some (.int (nI (lw x (A 1 1 + 1)))), some (.int (nI (A 4 7))), some (.int (nI (WA A))), some (.int (nI 0)), some (.int (nI 1)), none, none, none, none, none] [] (hw A G) = some (some (.int (nI 1)), hw A' G') := by
  have h0 := hi.1.1.2.2.1
  have hle := (heir_is (scr := scr) (G := G) hi.1 x).1
  have hy := heir_is (scr := scr) (G := G) hi.1 y
  have p1 := (lw_is (x >>> ((nI 5) &&& 31)) (n := 9) (by omega) (by omega)).2
  have p2 := (lw_is (y >>> ((nI 5) &&& 31)) (n := 9) (by omega) (by omega)).2
  obtain ⟨A', b', h1, h2, h3, h4⟩ := swaps_ok (scr := scr) (G := G) hi (h := lw x (A 1 1 + 1)) (i := lw (x >>> ((nI 5) &&& 31)) 9) (g := lw y (A 1 1 + 1)) (j := lw (y >>> ((nI 5) &&& 31)) 9) (by omega) (by omega) (by omega) (by omega)
  exact ⟨A', b', G, h1, by omega, by omega, (b94_547 (c_low _ (by omega) (by omega)) hy.2 (c_low _ (by omega) (by omega)) h4).trans ((if_neg (by decide)).trans (ch_end h1 h2 h3))⟩
/-- settle -/
theorem ch_settle (hi : pvA A b) : ∃ A' b' G', pvA A' b' ∧ G'.length ≤ G.length + 1 ∧ zsz G' ≤ zsz G + 18 ∧ zd scr 94 582 [some (.ref 0), some (.int x1), some (.int x), some (.int y), some (.int (nI (A 1 1))), some (.int (nI (lw x (A 1 1 + 1)))), some (.int (nI (A 4 7))), some (.int (nI (WA A))), some (.int (nI 0)), some (.int (nI 1)), none, none, none, none, none] [] (hw A G) = some (some (.int (nI 1)), hw A' G') := by
  obtain ⟨s, F, b', i1, i2, i3, i4, i5, i6, i7, i8, i9⟩ := c_settle hi
  have t1 := (st_facts hi.1).2.2.2
  have t2 := (st_facts i2.1).2.2.2
  have hl := f_lt hi.1
  have w8 := fig8 hi.1
  have w8' := fig8 i2.1
  have wl := wsh_le (b := b') (b' 7)
  have b7 := bO_7 i2.1.2.1
  have p2 := pv_sr i2
  have k0 := h_best (scr := scr) (G := G) 0 i2.1 (by omega)
  rw [if_pos i7] at k0
  have k4 := h_best (scr := scr) (G := G) 4 p2.1 (by omega)
  have z4 : srA (srA F 1) 1 69 4 = 0 := by
    rcases sr_fix i2.1 p2.1 with ⟨-, a2⟩ | ⟨a1, -⟩
    · exact a2
    · omega
  rw [if_pos z4] at k4
  have p3 := pv_sr p2
  have o2 : ∀ u v, u ≠ 69 → srA (srA F 1) 1 u v = F u v := fun u v hu => by rw [srA_off _ _ hu, srA_off _ _ hu]
  refine ⟨_, b', G, p3, by omega, by omega, ?_⟩
  refine (b94_582 ob0 (h_total 6 hi.1 (by omega)) ob0 (h_total 8 hi.1 (by omega)) ob0 (lf (i1 scr))).trans ((i_neg (by omega)).trans ?_)
  refine (b94_609 ob0 (h_total 6 i2.1 (by omega))).trans ?_
  rw [show fig F 1 6 = A 1 9 + s from i6, show fig A 1 6 = A 1 9 from rfl, n_add, if_pos rfl]
  refine (b94_623 ob0 (h_total 8 i2.1 (by omega))).trans ?_
  rw [n_add, i_nlt (by omega) (by omega)]
  refine (b94_637 ob0 k0).trans ((if_pos rfl).trans ((b94_647 ob0 k4).trans ((if_pos rfl).trans ?_)))
  refine b94_657.trans ((if_neg (by decide)).trans (ch_end p3 ((WA_of (fun i => o2 _ _ (by omega)) (o2 _ _ (by omega))).trans i8) ((o2 _ _ (by omega)).trans (by omega))))
theorem change_ok (hi : pvA A b) {kd : Nat} (hk : kd < 16) (x y : Int32) : ∃ A' b' G', pvA A' b' ∧ G'.length ≤ G.length + 1 ∧ zsz G' ≤ zsz G + 18 ∧ zC scr 94 [.ref 0, .int (nI kd), .int x, .int y] (hw A G) = some (some (.int (nI 1)), hw A' G') := by
  have h0 := hi.1.1.2.2.1
  have hx := (heir_is (scr := scr) (G := G) hi.1 x).2
  have ew : nI (fig A 1 3) + nI (fig A 1 4) = nI (WA A) := by rw [n_add, worth_is hi.1]
  have em : nI (fig A 1 1) + nI (fig A 1 2) = nI (A 4 7) := by rw [n_add, many_is hi.1]
  have t0 := h_total (scr := scr) (G := G) 0 hi.1 (by omega)
  have t1 := h_total (scr := scr) (G := G) 1 hi.1 (by omega)
  have t2 := h_total (scr := scr) (G := G) 2 hi.1 (by omega)
  have t3 := h_total (scr := scr) (G := G) 3 hi.1 (by omega)
  have t4 := h_total (scr := scr) (G := G) 4 hi.1 (by omega)
  rw [zC_of zh94]
  rcases (show kd = 0 ∨ kd = 1 ∨ kd = 2 ∨ kd = 3 ∨ kd = 4 ∨ kd = 5 ∨ kd = 6 ∨ kd = 7 ∨ kd = 8 ∨ kd = 9 ∨ kd = 10 ∨ kd = 11 ∨ kd = 12 ∨ kd = 13 ∨ kd = 14 ∨ kd = 15 by omega) with rfl | rfl | rfl | rfl | rfl | rfl | rfl | rfl | rfl | rfl | rfl | rfl | rfl | rfl | rfl | rfl
  · obtain ⟨A', b', G', g1, g2, g3, g4⟩ := ch_come (scr := scr) (G := G) (x1 := nI 0) (x := x) (y := y) hi
    have e0 := b94_0_c0 (x1 := nI 0) (x2 := x) (x3 := y) ob0 t0 hx ob0 t1 ob0 t2 ob0 t3 ob0 t4 rfl
    rw [ew, em] at e0
    exact ⟨A', b', G', g1, g2, g3, e0.trans g4⟩
  · obtain ⟨A', b', G', g1, g2, g3, g4⟩ := ch_come (scr := scr) (G := G) (x1 := nI 1) (x := x) (y := y) hi
    have e0 := b94_0_c1 (x1 := nI 1) (x2 := x) (x3 := y) ob0 t0 hx ob0 t1 ob0 t2 ob0 t3 ob0 t4 rfl
    rw [ew, em] at e0
    exact ⟨A', b', G', g1, g2, g3, e0.trans g4⟩
  · obtain ⟨A', b', G', g1, g2, g3, g4⟩ := ch_leave (scr := scr) (G := G) (x1 := nI 2) (x := x) (y := y) hi
    have e0 := b94_0_c2 (x1 := nI 2) (x2 := x) (x3 := y) ob0 t0 hx ob0 t1 ob0 t2 ob0 t3 ob0 t4 rfl
    rw [ew, em] at e0
    exact ⟨A', b', G', g1, g2, g3, e0.trans g4⟩
  · obtain ⟨A', b', G', g1, g2, g3, g4⟩ := ch_wish (scr := scr) (G := G) (x1 := nI 3) (x := x) (y := y) hi
    have e0 := b94_0_c3 (x1 := nI 3) (x2 := x) (x3 := y) ob0 t0 hx ob0 t1 ob0 t2 ob0 t3 ob0 t4 rfl
    rw [ew, em] at e0
    exact ⟨A', b', G', g1, g2, g3, e0.trans g4⟩
  · obtain ⟨A', b', G', g1, g2, g3, g4⟩ := ch_set (scr := scr) (G := G) (x1 := nI 4) (x := x) (y := y) hi
    have e0 := b94_0_c4 (x1 := nI 4) (x2 := x) (x3 := y) ob0 t0 hx ob0 t1 ob0 t2 ob0 t3 ob0 t4 rfl
    rw [ew, em] at e0
    exact ⟨A', b', G', g1, g2, g3, e0.trans g4⟩
  · obtain ⟨A', b', G', g1, g2, g3, g4⟩ := ch_grant (scr := scr) (G := G) (x1 := nI 5) (x := x) (y := y) hi
    have e0 := b94_0_c5 (x1 := nI 5) (x2 := x) (x3 := y) ob0 t0 hx ob0 t1 ob0 t2 ob0 t3 ob0 t4 rfl
    rw [ew, em] at e0
    exact ⟨A', b', G', g1, g2, g3, e0.trans g4⟩
  · obtain ⟨A', b', G', g1, g2, g3, g4⟩ := ch_drops (scr := scr) (G := G) (x1 := nI 6) (x := x) (y := y) hi
    have e0 := b94_0_c6 (x1 := nI 6) (x2 := x) (x3 := y) ob0 t0 hx ob0 t1 ob0 t2 ob0 t3 ob0 t4 rfl
    rw [ew, em] at e0
    exact ⟨A', b', G', g1, g2, g3, e0.trans g4⟩
  · obtain ⟨A', b', G', g1, g2, g3, g4⟩ := ch_drops (scr := scr) (G := G) (x1 := nI 7) (x := x) (y := y) hi
    have e0 := b94_0_c7 (x1 := nI 7) (x2 := x) (x3 := y) ob0 t0 hx ob0 t1 ob0 t2 ob0 t3 ob0 t4 rfl
    rw [ew, em] at e0
    exact ⟨A', b', G', g1, g2, g3, e0.trans g4⟩
  · obtain ⟨A', b', G', g1, g2, g3, g4⟩ := ch_drops (scr := scr) (G := G) (x1 := nI 8) (x := x) (y := y) hi
    have e0 := b94_0_c8 (x1 := nI 8) (x2 := x) (x3 := y) ob0 t0 hx ob0 t1 ob0 t2 ob0 t3 ob0 t4 rfl
    rw [ew, em] at e0
    exact ⟨A', b', G', g1, g2, g3, e0.trans g4⟩
  · obtain ⟨A', b', G', g1, g2, g3, g4⟩ := ch_drops (scr := scr) (G := G) (x1 := nI 9) (x := x) (y := y) hi
    have e0 := b94_0_c9 (x1 := nI 9) (x2 := x) (x3 := y) ob0 t0 hx ob0 t1 ob0 t2 ob0 t3 ob0 t4 rfl
    rw [ew, em] at e0
    exact ⟨A', b', G', g1, g2, g3, e0.trans g4⟩
  · obtain ⟨A', b', G', g1, g2, g3, g4⟩ := ch_rounds (scr := scr) (G := G) (x1 := nI 10) (x := x) (y := y) hi
    have e0 := b94_0_c10 (x1 := nI 10) (x2 := x) (x3 := y) ob0 t0 hx ob0 t1 ob0 t2 ob0 t3 ob0 t4 rfl
    rw [ew, em] at e0
    exact ⟨A', b', G', g1, g2, g3, e0.trans g4⟩
  · obtain ⟨A', b', G', g1, g2, g3, g4⟩ := ch_divides (scr := scr) (G := G) (x1 := nI 11) (x := x) (y := y) hi
    have e0 := b94_0_c11 (x1 := nI 11) (x2 := x) (x3 := y) ob0 t0 hx ob0 t1 ob0 t2 ob0 t3 ob0 t4 rfl
    rw [ew, em] at e0
    exact ⟨A', b', G', g1, g2, g3, e0.trans g4⟩
  · obtain ⟨A', b', G', g1, g2, g3, g4⟩ := ch_swaps (scr := scr) (G := G) (x1 := nI 12) (x := x) (y := y) hi
    have e0 := b94_0_c12 (x1 := nI 12) (x2 := x) (x3 := y) ob0 t0 hx ob0 t1 ob0 t2 ob0 t3 ob0 t4 rfl
    rw [ew, em] at e0
    exact ⟨A', b', G', g1, g2, g3, e0.trans g4⟩
  · obtain ⟨A', b', G', g1, g2, g3, g4⟩ := ch_swaps (scr := scr) (G := G) (x1 := nI 13) (x := x) (y := y) hi
    have e0 := b94_0_c13 (x1 := nI 13) (x2 := x) (x3 := y) ob0 t0 hx ob0 t1 ob0 t2 ob0 t3 ob0 t4 rfl
    rw [ew, em] at e0
    exact ⟨A', b', G', g1, g2, g3, e0.trans g4⟩
  · obtain ⟨A', b', G', g1, g2, g3, g4⟩ := ch_swaps (scr := scr) (G := G) (x1 := nI 14) (x := x) (y := y) hi
    have e0 := b94_0_c14 (x1 := nI 14) (x2 := x) (x3 := y) ob0 t0 hx ob0 t1 ob0 t2 ob0 t3 ob0 t4 rfl
    rw [ew, em] at e0
    exact ⟨A', b', G', g1, g2, g3, e0.trans g4⟩
  · obtain ⟨A', b', G', g1, g2, g3, g4⟩ := ch_settle (scr := scr) (G := G) (x1 := nI 15) (x := x) (y := y) hi
    have e0 := b94_0_d (x1 := nI 15) (x2 := x) (x3 := y) ob0 t0 hx ob0 t1 ob0 t2 ob0 t3 ob0 t4 (Or.inr (by decide))
    rw [ew, em] at e0
    exact ⟨A', b', G', g1, g2, g3, e0.trans g4⟩
end CH
