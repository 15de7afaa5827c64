/-! the calls, on both sides: ifDivided -/
section OJ
variable {A B T : Nat → Nat → Nat} {b c : Nat → Nat} {p q h k g n m i j t : Nat} {scr : List Int32}
theorem iv_pb (hT : zIV T) : zIV (ovA (sb (ovA T 72 0 71 0 190) b) 71 0 72 0 190) := by
  refine ⟨zRR_move (fun t i ht => by rw [ov_ne (by omega), sb_off (by omega), ov_ne (by omega)]) (fun i hi => ?_) hT.1, ir_of (fun c i hc => by rw [ov_ne (by omega), sb_off (by omega), ov_ne (by omega)]) hT.2⟩
  unfold ovA
  rw [if_pos (by omega), sb_off (by omega)]
  rw [if_pos (by omega)]
  exact congrArg (T 71) (by omega)
theorem cp9 (hr : zRR A 1 b) : zRR (cpS A 1 9) 9 b := zRR_move (fun t i ht => by
    unfold cpS
    rw [if_pos (by omega)]
    exact zAe (by omega) rfl) (fun _ _ => rfl) hr
theorem cp9_o {c i : Nat} (hc : c ≤ 8 ∨ 17 ≤ c) : cpS A 1 9 c i = A c i := by
  unfold cpS
  rw [if_neg (by omega)]
theorem op_ifDivided (x y : Int32) : zOP scr 70 140 [.int x, .int y] := by
  intro A hi
  have hr := hi.1
  have h0 := hr.2.1.1
  have s1 := rr_n hr
  have hin := r_in2 (x := y) 2 (by omega)
  rcases s_heir_cases x (n := A 71 0) (by omega) with ⟨h, hh, rfl⟩ | hx
  case inr =>
    refine ⟨-1, A, A, ?_, ?_, hi⟩
    · rw [zC_of zh70]
      refine (b70_0 (o_gf o_0 rfl) (o_ob (o_st z1)) (s_hasHeir0 z1 (by rw [s1]; exact hx))).trans ?_
      rw [if_pos (by decide)]; exact b70_11
    · rw [zC_of zh140]
      refine (b140_0 oR (r_isHeir (by omega) x)).trans ?_
      rw [if_neg hx, if_pos (by decide)]; exact b140_8
  have ec : zC scr 70 [.ref 0, .int (nI h), .int y] (wd A) = zd scr 70 13 [some (.ref 0), some (.int (nI h)), some (.int y)] [] (wd A) := by
    rw [zC_of zh70]
    refine (b70_0 (o_gf o_0 rfl) (o_ob (o_st z1)) (s_hasHeir1 z1 (by omega) (by omega))).trans ?_
    rw [if_neg (by decide)]
  have er : ∀ B : Nat → Nat → Nat, B 71 = A 71 → zC scr 140 [.ref 70, .int (nI h), .int y] (wd B) = if (if ¬ y < nI 0 ∧ y ≤ nI 2 then nI 1 else nI 0) = 0 then zd scr 140 19 [some (.ref 70), some (.int (nI h)), some (.int y), none, none] [] (wd B) else zd scr 140 22 [some (.ref 70), some (.int (nI h)), some (.int y), none, none] [] (wd B) := by
    intro B hB
    rw [zC_of zh140]
    refine (b140_0 oR (r_isHeir (by rw [hB]; omega) _)).trans ?_
    rw [hB, if_pos (in_n hh (by omega)), if_neg (by decide)]
    exact b140_10 (r_in y _ _)
  rcases i5_cases y 2 (by omega) with ⟨k, hk, rfl⟩ | ⟨hy, -⟩
  case inr =>
    refine ⟨-2, A, A, ec.trans ?_, (er A rfl).trans ?_, hi⟩
    · refine b70_13.trans ?_
      by_cases c : y < 0
      · rw [if_pos c]; exact b70_22
      · rw [if_neg c]
        exact b70_17.trans ((if_pos (hy.resolve_left c)).trans b70_22)
    · have hno : ¬ (¬ y < nI 0 ∧ y ≤ nI 2) := by
        rintro ⟨q1, q2⟩
        rcases hy with hy | hy
        · exact q1 hy
        · exact absurd q2 (Int32.not_le.mpr hy)
      rw [if_neg hno, if_pos (by decide)]
      exact b140_19
  have hT0 := cp9 hr
  obtain ⟨dv1, dv2⟩ := rr_divide (A 71 6) _ _ hT0 (by omega) (Nat.le_refl _)
  have hpl := s_playAll (scr := scr) (A := cpS A 1 9) z9 hT0.1 (by rw [rr_n hT0]; omega)
  rw [rr_6 hT0, dv1] at hpl
  obtain ⟨T, hTd⟩ : ∃ T, T = (dvN 9 (A 71 6) (cpS A 1 9)).2 := ⟨_, rfl⟩
  rw [← hTd] at dv2 hpl
  have oT : ∀ c i, (c ≤ 8 ∨ 17 ≤ c) → T c i = A c i := fun c i hc => by rw [hTd, dvN_off _ _ c i (by omega), cp9_o hc]
  have hT : zIV T := iv_of16 oT hi
  have T71 : T 71 = A 71 := funext fun i => oT _ _ (by omega)
  have dok := dvB_ok (A 71 6) (A 71) hr.2.1 hr.2.2.1 (by omega)
  have hdv := r_divides (scr := scr) (A := ovA T 72 0 71 0 190) (by rw [show ovA T 72 0 71 0 190 71 = A 71 from T71]; exact hr.2.1) (by rw [show ovA T 72 0 71 0 190 71 = A 71 from T71]; exact hr.2.2.1) (by rw [show ovA T 72 0 71 0 190 71 = A 71 from T71]; omega)
  rw [show ovA T 72 0 71 0 190 71 = A 71 from T71] at hdv
  obtain ⟨n2, n3, n4⟩ := abt_n dv2 (h := h) (by rw [dok.2.2]; exact hh)
  refine ⟨nI (abt T 9 h (2 + k)), T, ovA (sb (ovA T 72 0 71 0 190) (dvB (A 71 6) (A 71)).2) 71 0 72 0 190, ec.trans ?_, (er T T71).trans ?_, iv_pb hT⟩
  · refine b70_13.trans ((i_neg (by omega)).trans (b70_17.trans ((i_nlt (by omega) (by omega)).trans ?_)))
    exact b70_25 (o_gf o_0 rfl) (o_gf o_0 rfl) (o_ob (o_st z9)) (s_copyFrom z9 z1 (by omega)) (o_gf o_0 rfl) (o_ob (o_st z9)) hpl (o_gf o_0 rfl) (o_ob (o_st z9)) (by rw [n_add]; exact s_about z9 dv2.1 (by rw [rr_n dv2, dok.2.2]; exact hh) (by omega))
  · rw [if_pos (hin.mpr (in_n (n := 3) (by omega) (by omega))), if_neg (by decide)]
    refine (b140_22 oR r_putAside oR hdv).trans ?_
    have hb' : bOk (sb (ovA T 72 0 71 0 190) (dvB (A 71 6) (A 71)).2 71) := dok.1
    have hwi := (dok.1.2.2.2.2.2.2.1 h (by rw [dok.2.2]; exact hh)).2.1
    rcases (show k = 0 ∨ k = 1 ∨ k = 2 by omega) with rfl | rfl | rfl
    · rw [if_pos (by decide), n2]
      exact b140_35 oR (r_inBag hb' (by omega)) oR r_putBack
    · rw [if_neg (by decide), n3]
      refine b140_43.trans ((if_pos rfl).trans ?_)
      exact b140_48 oR (r_worth hb' (by omega)) oR r_putBack
    · rw [if_neg (by decide), n4]
      refine b140_43.trans ((if_neg (by decide)).trans ?_)
      have e : 12 + 2 * h + 1 = 13 + 2 * h := by omega
      exact b140_56 oR (r_of (w := 1) (by omega) (by omega)) oR (by rw [e]; exact r_ofColour hb' (by omega) (by rw [sb71]; omega)) oR r_putBack
end OJ
