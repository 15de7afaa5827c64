/-! isFair: each rule is tried, and undone -/
section FR
variable {A B C : Nat → Nat → Nat} {b c : Nat → Nat} {p q h k g n m i j t r mj : Nat} {scr : List Int32} {G : zAW}
theorem dv_small (hr : zRR A 1 b) (hz : 0 < b 0) : (dvB (b 6) b).1 < 1000 := by
  obtain ⟨q1, -⟩ := dvB_is (b 6) b hr.2.1 hr.2.2.1 hz (Nat.le_refl _)
  have h6 := hr.2.1.2.2.2.1
  have h0 := hr.2.1.1
  have := Nat.div_le_self (b 6 + (if b 1 = 2 then 0 else b 0 - 1)) (b 0)
  rw [q1]
  split at this <;> split <;> omega
/-- a rule tried: what is seen, and that it is as before -/
theorem fair_try (hi : pvA A b) (hz : 0 < A 1 1) (hr3 : r < 3) : ∃ A1 A2 A3 A4 x u v, pvA A1 (ups b 1 r) ∧ pvA A2 (dvB (b 6) (ups b 1 r)).2 ∧ pvA A4 b ∧ A4 1 1 = A 1 1 ∧ x < 1000 ∧ u < 1000 ∧ v < 1000 ∧ zC scr 56 [.ref 0, .int (nI r)] (hw A G) = some (some (.int (nI (A 1 6))), hw A1 G) ∧ zC scr 61 [.ref 0] (hw A1 G) = some (some (.int (nI x)), hw A2 G) ∧ zC scr 69 [.ref 0, .int (nI 10)] (hw A2 G) = some (some (.int (nI (spU b r))), hw A2 G) ∧ zC scr 78 [.ref 0] (hw A2 G) = some (some (.int (nI u)), hw A3 G) ∧ zC scr 78 [.ref 0] (hw A3 G) = some (some (.int (nI v)), hw A4 G) := by
  have s1 := rr_n hi.1
  have ho := hi.2.1
  obtain ⟨r1, r2⟩ := c_rule (scr := scr) hi hr3
  obtain ⟨A1, hA1⟩ : ∃ A1, A1 = up (kpA A 1) 1 6 r := ⟨_, rfl⟩
  have t0 : tk A1 0 b := tk_move (kp_ok ho) (fun c i h1 h2 => by rw [hA1]; exact up_ne (by omega)) (kp_top ho hi.1)
  rw [← hA1] at r1 r2
  have u0 : ups b 1 r 0 = b 0 := ups_ne (by omega)
  have u6 : ups b 1 r 6 = b 6 := ups_ne (by omega)
  have z1' : 0 < A1 1 1 := by rw [rr_n r2.1, u0]; omega
  obtain ⟨d1, d2⟩ := c_divide (scr := scr) r2 z1'
  rw [u6] at d1 d2
  have ds := dv_small r2.1 (by rw [u0]; omega)
  rw [u6] at ds
  have hm : ∀ c i, 25 ≤ c → c < 67 → (dvN 1 (b 6) (kpA A1 1)).2 c i = kpA A1 1 c i := fun c i h1 h2 => dvN_off _ _ c i (by omega)
  have t1 : tk (dvN 1 (b 6) (kpA A1 1)).2 0 (ups b 1 r) := tk_move (kp_ok r2.2.1) hm (kp_top r2.2.1 r2.1)
  have t2 : tk (dvN 1 (b 6) (kpA A1 1)).2 1 b := tk_move (kp_ok r2.2.1) hm (kp_tk r2.2.1 (by omega) t0)
  obtain ⟨A2, hA2⟩ : ∃ A2, A2 = (dvN 1 (b 6) (kpA A1 1)).2 := ⟨_, rfl⟩
  rw [← hA2] at d1 d2 t1 t2
  have hsp : fig A2 1 10 = spU b r := spr_eq d2.1 3 1 (fun h hh => (abt_n d2.1 hh).2.1)
  have hto := h_total (scr := scr) (G := G) 10 d2.1 (by omega)
  rw [hsp] at hto
  have hu := c_undo (scr := scr) d2 (by have := t1.1; omega)
  have e3 : pvA (tbA A2 1) (ups b 1 r) := ⟨tb_row d2.2.1 t1, pvK_tb d2.2⟩
  have t3 : tk (tbA A2 1) 0 b := tb_tk d2.2.1 t2
  have hv := c_undo (scr := scr) e3 (by have := t3.1; omega)
  have e4 : pvA (tbA (tbA A2 1) 1) b := ⟨tb_row e3.2.1 t3, pvK_tb e3.2⟩
  have n2 := d2.2.1.1
  have n3 := e3.2.1.1
  exact ⟨A1, A2, tbA A2 1, tbA (tbA A2 1) 1, _, _, _, r2, d2, e4, by rw [rr_n e4.1, s1], ds, by omega, by omega, lf r1, lf d1, hto, lf hu, lf hv⟩
theorem fair_loop (hi : pvA A b) (hz : 0 < A 1 1) {x1 : Int32} : ∀ k, k < 3 → ∃ A', pvA A' b ∧ A' 1 1 = A 1 1 ∧ zd scr 92 16 [some (.ref 0), some (.int x1), some (.int (-6)), some (.int (nI 0)), some (.int (nI 1)), some (.int (nI 0))] [] (hw A G) = zd scr 92 16 [some (.ref 0), some (.int x1), some (.int (nI (frS (spU b) k).1)), some (.int (nI (frS (spU b) k).2)), some (.int (nI 1)), some (.int (nI (k + 1)))] [] (hw A' G) := by
  have h5 := hi.1.1.2.2.1
  have s1 := rr_n hi.1
  have hS : ∀ r, r < 3 → spU b r ≤ 1080 := fun r hr3 => (spU_eq hi.1 hi.1 (by omega) hr3).2
  have hle := frS_le hS
  -- the common end
  have fin : ∀ (A2 A3 A4 : Nat → Nat → Nat) (u v k : Nat) (x2 x3 : Int32), u < 1000 → v < 1000 → zC scr 78 [.ref 0] (hw A2 G) = some (some (.int (nI u)), hw A3 G) → zC scr 78 [.ref 0] (hw A3 G) = some (some (.int (nI v)), hw A4 G) → zd scr 92 111 [some (.ref 0), some (.int x1), some (.int x2), some (.int x3), some (.int (nI 1)), some (.int (nI k))] [] (hw A2 G) = zd scr 92 16 [some (.ref 0), some (.int x1), some (.int x2), some (.int x3), some (.int (nI 1)), some (.int (nI (k + 1)))] [] (hw A4 G) := by
    intro A2 A3 A4 u v k x2 x3 hu hv q1 q2
    refine (b92_111 ob0 q1).trans ((i_neg (by omega)).trans ((b92_118 ob0 q2).trans ((i_neg (by omega)).trans (b92_125.trans ?_))))
    rw [n_add]
  have beg : ∀ (A A1 A2 : Nat → Nat → Nat) (x k : Nat) (x2 x3 : Int32), zRR A 1 b → 0 < A 1 1 → A 1 1 ≤ 6 → A 1 6 < 3 → k < 3 → x < 1000 → zC scr 56 [.ref 0, .int (nI k)] (hw A G) = some (some (.int (nI (A 1 6))), hw A1 G) → zC scr 61 [.ref 0] (hw A1 G) = some (some (.int (nI x)), hw A2 G) → zd scr 92 16 [some (.ref 0), some (.int x1), some (.int x2), some (.int x3), some (.int (nI 1)), some (.int (nI k))] [] (hw A G) = if nI k = 0 then zd scr 92 73 [some (.ref 0), some (.int x1), some (.int x2), some (.int x3), some (.int (nI 1)), some (.int (nI k))] [] (hw A2 G) else zd scr 92 63 [some (.ref 0), some (.int x1), some (.int x2), some (.int x3), some (.int (nI 1)), some (.int (nI k))] [] (hw A2 G) := by
    intro A A1 A2 x k x2 x3 hr hz h6 h3 hk hx q1 q2
    refine b92_16.trans ((i_lt hk (by omega)).trans (b92_22.trans ((if_neg (by decide)).trans ((b92_27 ob0 (h_total 0 hr (by omega))).trans ?_))))
    rw [f_n]
    refine (i_pos hz (by omega)).trans ((b92_35 ob0 q1).trans ((i_neg (by omega)).trans ((b92_44 ob0 q2).trans ((i_neg (by omega)).trans b92_51))))
  intro k
  induction k with
  | zero =>
    intro _
    obtain ⟨A1, A2, A3, A4, x, u, v, p1, p2, p4, e4, hx, hu, hv, q1, q2, q3, q5, q6⟩ := fair_try (scr := scr) (G := G) hi hz (show 0 < 3 by omega)
    refine ⟨A4, p4, e4, (beg A A1 A2 x 0 _ _ hi.1 hz h5 hi.1.1.2.2.2.2.1 (by omega) hx q1 q2).trans ?_⟩
    rw [if_pos (by decide)]
    refine b92_73.trans ((if_pos (by decide)).trans ((b92_95 ob0 q3).trans ((if_neg (by decide)).trans ?_)))
    exact fin A2 A3 A4 u v 0 _ _ hu hv q5 q6
  | succ k ih =>
    intro hk
    obtain ⟨B, hB, eB, hb⟩ := ih (by omega)
    obtain ⟨A1, A2, A3, A4, x, u, v, p1, p2, p4, e4, hx, hu, hv, q1, q2, q3, q5, q6⟩ := fair_try (scr := scr) (G := G) hB (by omega) hk
    have l1 := hS (k + 1) hk
    have l2 := hle k (by omega)
    refine ⟨A4, p4, e4.trans eB, hb.trans ((beg B A1 A2 x (k + 1) _ _ hB.1 (by omega) (by omega) hB.1.1.2.2.2.2.1 hk hx q1 q2).trans ?_)⟩
    rw [i_ne0 (by omega) (by omega)]
    refine (b92_63 ob0 q3).trans ?_
    rw [frS]
    by_cases e : spU b (k + 1) < (frS (spU b) k).2
    · rw [i_lt e (by omega), if_pos e]
      refine b92_73.trans ((i_ne0 (by omega) (by omega)).trans ((b92_85 ob0 q3).trans ((i_lt e (by omega)).trans ((b92_95 ob0 q3).trans ((if_neg (by decide)).trans ?_)))))
      exact fin A2 A3 A4 u v (k + 1) _ _ hu hv q5 q6
    · rw [i_nlt e (by omega), if_neg e]
      refine b92_78.trans ((i_ne0 (by omega) (by omega)).trans ((b92_85 ob0 q3).trans ((i_nlt e (by omega)).trans (b92_104.trans ((if_neg (by decide)).trans ?_)))))
      exact fin A2 A3 A4 u v (k + 1) _ _ hu hv q5 q6
theorem isFair_ok (hi : pvA A b) : ∃ A', pvA A' b ∧ zC scr 92 [.ref 0] (hw A G) = some (some (.int (nI 1)), hw A' G) := by
  have h5 := hi.1.1.2.2.1
  by_cases hz : A 1 1 = 0
  · refine ⟨A, hi, ?_⟩
    rw [zC_of zh92]
    refine (b92_0 ob0 (lf (c_fair0 hi hz))).trans ?_
    refine b92_16.trans ((if_pos (by decide)).trans (b92_22.trans ((if_neg (by decide)).trans ((b92_27 ob0 (h_total 0 hi.1 (by omega))).trans ?_))))
    rw [f_n]
    refine (i_npos hz).trans (b92_138.trans ((if_neg (by decide)).trans (b92_143.trans ((if_pos rfl).trans b92_148))))
  · obtain ⟨V, v1, v2⟩ := c_fair (scr := scr) hi (by omega)
    have hV : pvA V b := pv_same hi (fun c i hc => v1 c i (by omega))
    have eV : V 1 1 = A 1 1 := v1 _ _ (by omega)
    obtain ⟨B, hB, -, hb⟩ := fair_loop (scr := scr) (G := G) hV (by omega) (x1 := nI (frS (spU b) 2).1) 2 (by omega)
    refine ⟨B, hB, ?_⟩
    rw [zC_of zh92]
    refine (b92_0 ob0 (lf v2)).trans (hb.trans ?_)
    exact b92_16.trans ((if_neg (by decide)).trans (b92_138.trans ((if_neg (by decide)).trans (b92_143.trans ((if_pos rfl).trans b92_148)))))
end FR
