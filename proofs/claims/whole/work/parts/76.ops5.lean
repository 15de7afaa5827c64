/-! the calls, on both sides: settle, bestSwap, heir -/
section OE
variable {A B : Nat → Nat → Nat} {b c : Nat → Nat} {p q h k g n m i j t : Nat} {scr : List Int32}
theorem iv_sq (hi : zIV A) : zIV (sq A c) := ⟨zRR_move (fun t i ht => by unfold sq; rw [if_neg (by omega)]) (fun _ _ => rfl) hi.1, ir_of (fun c i hc => by unfold sq; rw [if_neg (by omega)]) hi.2⟩
theorem op_settle : zOP scr 63 131 [] := by
  intro A hi
  have hk := iv_kp hi
  obtain ⟨r, F, b', i1, i2, i3, i4⟩ := settle_sim _ _ _ 0 hk (Nat.le_refl _) (Nat.zero_le _)
  obtain ⟨f1, f2, f3⟩ := iv_b hi i3
  obtain ⟨c', i5⟩ := i4 scr (rcA F) f2
  refine ⟨nI r, F, sq (sb (rcA F) b') c', ?_, ?_, iv_sq (iv_rec hi i3 i2)⟩
  · rw [zC_of zh63]
    exact (b63_0 (o_gf o_0 rfl) (o_gf o_0 rfl) (o_ob o_25) (keep1 hi) (o_gf o_0 rfl) (o_gf o_0 rfl) (o_ob o_69) (b_searchIn z1 hk.1)).trans (i1 scr)
  · rw [zC_of zh131]
    have hl := r_layBest (scr := scr) (A := rcA F) (by rw [f2]; exact hi.1.2.1)
    rw [f2] at hl
    exact (b131_0 oR (r_record f3) oR hl).trans i5
theorem op_bestSwap (x : Int32) : zOP scr 73 143 [.int x] := by
  intro A hi
  have hr := hi.1
  have hin := r_in2 (x := x) 4 (by omega)
  by_cases hx : ¬ x < 0 ∧ x < nI 5
  case neg =>
    refine ⟨-2, A, A, ?_, ?_, hi⟩
    · rw [zC_of zh73]
      refine b73_0.trans ?_
      by_cases h0 : x < 0
      · rw [if_pos h0]; exact b73_9
      · rw [if_neg h0]
        refine b73_4.trans ((if_pos ?_).trans b73_9)
        obtain ⟨k, hk, rfl⟩ := n_of h0
        rw [n_lt hk (by omega)] at hx
        rw [n_lt (by omega) hk]
        have : ¬ k < 5 := fun q => hx ⟨h0, q⟩
        omega
    · rw [zC_of zh143]
      refine (b143_0 (r_in x _ _)).trans ?_
      rw [if_neg (fun q => hx (hin.mp q)), if_pos (by decide)]; exact b143_9
  obtain ⟨k, hk, rfl⟩ := (s_heir_cases x (n := 5) (by omega)).resolve_right (fun q => q hx)
  have e71 : srA A 1 71 = A 71 := funext fun i => srA_off _ _ (by omega)
  have hl := r_layBest (scr := scr) (A := srA A 1) (by rw [e71]; exact hr.2.1)
  rw [e71] at hl
  have hiv : zIV (srA A 1) := ⟨by rw [e71]; exact off_move (by omega) srA_off hr, ir_of (fun c i hc => srA_off c i (by omega)) hi.2⟩
  refine ⟨if srA A 1 69 4 = 0 then -6 else nI (srA A 1 69 k), srA A 1, sq (srA A 1) (lyB (A 71) (srA A 1 76)), ?_, ?_, iv_sq hiv⟩
  · rw [zC_of zh73]
    refine b73_0.trans ((i_neg (by omega)).trans (b73_4.trans ((i_nlt (by omega) (by omega)).trans ?_)))
    exact b73_12 (o_gf o_0 rfl) (o_gf o_0 rfl) (o_ob o_69) (b_searchIn z1 hr.1) (o_gf o_0 rfl) (o_ob o_69) (b_tell (srA_ok z1 hr.1).2.1 hk)
  · rw [zC_of zh143]
    refine (b143_0 (r_in _ _ _)).trans ?_
    rw [if_pos (hin.mpr hx), if_neg (by decide)]
    refine (b143_12 oR hl gR8 (lyB_z _ (by omega) _)).trans ?_
    rcases rr_best (s := srA A 1 76) (by omega) hr with ⟨z, z2⟩ | ⟨z, z2, -⟩
    · rw [if_pos z, z2 k (by omega)]; rfl
    · rw [if_neg (by omega), z2 k hk, bz_succ]
theorem i5_cases (y : Int32) (n : Nat) (hn : n < 1000) : (∃ k, k ≤ n ∧ y = nI k) ∨ ((y < 0 ∨ nI n < y) ∧ (y.toInt < 0 ∨ (n : Int) < y.toInt)) := by
  by_cases h0 : y < 0
  · refine Or.inr ⟨Or.inl h0, Or.inl ?_⟩
    rw [Int32.lt_iff_toInt_lt, Int32.toInt_zero] at h0
    exact h0
  · obtain ⟨k, hk, rfl⟩ := n_of h0
    by_cases c : k ≤ n
    · exact Or.inl ⟨k, c, rfl⟩
    · refine Or.inr ⟨Or.inr (by rw [n_lt (by omega) hk]; omega), Or.inr ?_⟩
      rw [n_toInt hk]
      omega
theorem abt_n (hr : zRR A p b) (hh : h < b 0) : abt A p h 2 = rk b h (b 7) ∧ abt A p h 3 = wrt b h ∧ abt A p h 4 = rsm b (fun x => if x / 10 = b (13 + 2 * h) then 1 else 0) h (b 7) := by
  have h0 := hr.2.1.1
  have hs := hr.2.2.2.2.2.2.2.2.2.2.2 h hh
  refine ⟨hr.2.2.2.1.1 h (by omega), rm_val hr.2.2.2.1 (by omega), ?_⟩
  show zcol A p h (A (p + 5) h) = _
  rw [rm_col hr.2.2.2.1 (by omega), hs.2.1]
theorem op_heir (x y : Int32) : zOP scr 64 133 [.int x, .int y] := by
  intro A hi
  have hr := hi.1
  have h0 := hr.2.1.1
  have s1 := rr_n hr
  rcases s_heir_cases x (n := A 71 0) (by omega) with ⟨h, hh, rfl⟩ | hx
  case inr =>
    refine ⟨-1, A, A, ?_, ?_, hi⟩
    · rw [zC_of zh64]
      refine (b64_0 (o_gf o_0 rfl) (o_ob (o_st z1)) (s_hasHeir0 z1 (by rw [s1]; exact hx))).trans ?_
      rw [if_pos (by decide)]; exact b64_11
    · rw [zC_of zh133]
      refine (b133_0 oR (r_isHeir (by omega) x)).trans ?_
      rw [if_neg hx, if_pos (by decide)]; exact b133_8
  have ec : zC scr 64 [.ref 0, .int (nI h), .int y] (wd A) = zd scr 64 13 [some (.ref 0), some (.int (nI h)), some (.int y)] [] (wd A) := by
    rw [zC_of zh64]
    refine (b64_0 (o_gf o_0 rfl) (o_ob (o_st z1)) (s_hasHeir1 z1 (by omega) (by omega))).trans ?_
    rw [if_neg (by decide)]
  have er : zC scr 133 [.ref 70, .int (nI h), .int y] (wd A) = zd scr 133 10 [some (.ref 70), some (.int (nI h)), some (.int y)] [] (wd A) := by
    rw [zC_of zh133]
    refine (b133_0 oR (r_isHeir (by omega) _)).trans ?_
    rw [if_pos (in_n hh (by omega)), if_neg (by decide)]
  have hs := hr.2.2.2.2.2.2.2.2.2.2.2 h hh
  have ha := hr.2.1.2.2.2.2.2.2.1 h hh
  rcases i5_cases y 5 (by omega) with ⟨k, hk, rfl⟩ | ⟨hy, hy2⟩
  · obtain ⟨n2, n3, n4⟩ := abt_n hr hh
    have cl : zC scr 64 [.ref 0, .int (nI h), .int (nI k)] (wd A) = some (some (.int (nI (abt A 1 h k))), wd A) := by
      refine ec.trans (b64_13.trans ((i_neg (by omega)).trans (b64_17.trans ((i_nlt (by omega) (by omega)).trans ?_))))
      exact b64_25 (o_gf o_0 rfl) (o_ob (o_st z1)) (s_about z1 hr.1 (by omega) (by omega))
    refine ⟨nI (abt A 1 h k), A, A, cl, er.trans ?_, hi⟩
    rcases (show k = 0 ∨ k = 1 ∨ k = 2 ∨ k = 3 ∨ k = 4 ∨ k = 5 by omega) with rfl | rfl | rfl | rfl | rfl | rfl
    · refine (b133_10_c0 rfl).trans ?_
      rw [show abt A 1 h 0 = A 71 (12 + 2 * h + 0) from hs.1]
      exact b133_48 oR (r_of (by omega) (by omega))
    · refine (b133_10_c1 rfl).trans ?_
      rw [show abt A 1 h 1 = A 71 (12 + 2 * h + 1) from hs.2.1.trans (congrArg (A 71) (by omega))]
      exact b133_48 oR (r_of (by omega) (by omega))
    · refine (b133_10_c2 rfl).trans ?_
      rw [n2]
      exact b133_55 oR (r_inBag hr.2.1 (by omega))
    · refine (b133_10_c3 rfl).trans ?_
      rw [n3]
      exact b133_61 oR (r_worth hr.2.1 (by omega))
    · refine (b133_10_c4 rfl).trans ?_
      rw [n4]
      have e : 12 + 2 * h + 1 = 13 + 2 * h := by omega
      exact b133_67 oR (r_of (w := 1) (by omega) (by omega)) oR (by rw [e]; exact r_ofColour hr.2.1 (by omega) (by omega))
    · refine (b133_10_c5 rfl).trans ?_
      obtain ⟨t, ht, htb⟩ := hr.2.2.1.2 h hh
      rw [show abt A 1 h 5 = t from rr_plc hr ht htb]
      exact b133_79 oR (r_placeOf hr.2.1 hr.2.2.1 ht htb)
  · refine ⟨-2, A, A, ec.trans ?_, er.trans ?_, hi⟩
    · refine b64_13.trans ?_
      by_cases c : y < 0
      · rw [if_pos c]; exact b64_22
      · rw [if_neg c]
        exact b64_17.trans ((if_pos (hy.resolve_left c)).trans b64_22)
    · exact (b133_10_d hy2).trans b133_85
end OE
