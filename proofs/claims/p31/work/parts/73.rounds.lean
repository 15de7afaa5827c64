/-! rounds -/
section RO
variable {A B C : Nat → Nat → Nat} {b c : Nat → Nat} {p q h k g n m i j t r mj : Nat} {scr : List Int32} {G : zAW}
theorem rd_facts (hi : pvA A b) (hz : 0 < A 1 1) : WA (rdA (kpA A 1) 1) = WA A ∧ rdA (kpA A 1) 1 4 7 = A 4 7 ∧ rdA (kpA A 1) 1 1 1 = A 1 1 ∧ zcnt (rdA (kpA A 1) 1) 1 6 = zcnt A 1 6 - mny b ∧ rdA (kpA A 1) 1 1 8 = A 1 8 + (if 0 < mny b then 1 else 0) ∧ rdA (kpA A 1) 1 7 (A 1 1 - 1) = (if 0 < mny b then A 7 0 else A 7 (A 1 1 - 1)) := by
  have ho := hi.2.1
  have hk := kp_row ho hi.1
  have s1 := rr_n hi.1
  have k11 : kpA A 1 1 1 = A 1 1 := kp_off ho (by omega)
  have hw := WA_rd hk.1 (by rw [k11]; exact hz)
  have hok := rdA_ok hk.1 (by rw [k11]; exact hz)
  obtain ⟨eR, -⟩ := rr_round hk (by omega)
  refine ⟨hw.1.trans (WA_kp ho), hw.2.trans (kp_off ho (by omega)), hok.2.2.trans k11, ?_, ?_, ?_⟩
  · rw [hok.2.1, eR]
    have : zcnt (kpA A 1) 1 6 = zcnt A 1 6 := by
      unfold zcnt
      rw [kp_off ho (by omega), kp_off ho (by omega)]
    omega
  · unfold rdA
    by_cases e : mny b = 0
    · rw [if_pos (by omega), if_neg (by omega), kp_off ho (by omega)]; rfl
    · rw [if_neg (by omega), if_pos (by omega), up_eq, kp_off ho (by omega)]
  · unfold rdA
    by_cases e : mny b = 0
    · rw [if_pos (by omega), if_neg (by omega), kp_off ho (by omega)]
    · rw [if_neg (by omega), if_pos (by omega), up_ne (by omega)]
      unfold mvA
      rw [k11, if_neg (by omega), if_pos ⟨rfl, rfl⟩, rdG_off (by omega) (by omega), kp_off ho (by omega)]
theorem rd_first (hi : pvA A b) (hz : 0 < A 1 1) (hd : 0 < mny b) (hf : A 1 1 ≤ zcnt A 1 6 ∨ A 1 6 = 0) : bgc (rdA (kpA A 1) 1) (A 7 0) (zcnt A 1 (A 7 0)) = hpc A 0 := by
  have ho := hi.2.1
  have hk := kp_row ho hi.1
  have s1 := rr_n hi.1
  have h5 := hi.1.1.2.2.1
  have k11 : kpA A 1 1 1 = A 1 1 := kp_off ho (by omega)
  have k70 : kpA A 1 7 0 = A 7 0 := kp_off ho (by omega)
  have kc : ∀ x, zcnt (kpA A 1) 1 x = zcnt A 1 x := fun x => by
    unfold zcnt
    rw [kp_off ho (by omega), kp_off ho (by omega)]
  have km : mk (kpA A 1) 6 0 = mk A 6 0 := by
    unfold mk
    rw [kp_off ho (by omega), kp_off ho (by omega)]
  have h4 := (ord_at hi.1 hz).2
  obtain ⟨eR, -⟩ := rr_round hk (by omega)
  have hN := rdN_le (kpA A 1) 1
  have eN : rdN (kpA A 1) 1 = mny b := by
    unfold rdR at eR
    split at eR
    · omega
    · exact eR
  have eG : rdG (kpA A 1) 1 = gvO (kpA A 1) 1 (mny b) := by
    unfold rdG
    rw [if_neg, eN]
    rintro ⟨q1, q2⟩
    rw [k11] at q1
    rw [kp_off ho (by omega)] at q2
    rcases hf with hf | hf
    · unfold rdN at q1
      rw [kc, k11, if_neg (by omega)] at q1
      omega
    · omega
  obtain ⟨d, hdd⟩ : ∃ d, mny b = d + 1 := ⟨mny b - 1, by omega⟩
  have g1 := gvO_first hk.1 d (by rw [k11]; omega) (by rw [kc]; have := hN.2; rw [kc] at this; omega)
  rw [k70, kc, km, ← hdd] at g1
  have o : ∀ c i, c ≠ 7 → c ≠ 1 → rdA (kpA A 1) 1 c i = gvO (kpA A 1) 1 (mny b) c i := fun c i h7 h1 => by
    unfold rdA
    rw [if_neg (by omega), up_ne (by omega), eG]
    unfold mvA
    rw [if_neg (by omega), if_neg (by omega)]
  have cB : ∀ x, zcnt (rdA (kpA A 1) 1) 1 x = zcnt (gvO (kpA A 1) 1 (mny b)) 1 x := fun x => by
    unfold zcnt
    rw [o _ _ (by omega) (by omega), o _ _ (by omega) (by omega)]
  have h11 := (rd_facts hi hz).2.2.1
  have h6 : 0 < zcnt A 1 6 := by
    have := hN.2
    rw [kc] at this
    omega
  unfold bgc hpc
  rw [if_pos ⟨by rw [h11]; exact h4, by rw [cB]; exact g1.1⟩, if_pos h6]
  unfold mcol
  rw [o _ _ (by omega) (by omega), o _ _ (by omega) (by omega)]
  have e1 : gvO (kpA A 1) 1 (mny b) (1 + 2) (gvO (kpA A 1) 1 (mny b) (1 + 3) (A 7 0) + zcnt A 1 (A 7 0)) = mk (gvO (kpA A 1) 1 (mny b)) (A 7 0) (zcnt A 1 (A 7 0)) := rfl
  rw [e1, g1.2]
  rfl
/-- behind the round -/
theorem rounds_tail (hi : pvA A b) (hz : 0 < A 1 1) {f : Nat} (hf : f = 1 ∨ f = 0) (hf2 : f = 1 → A 1 1 ≤ zcnt A 1 6 ∨ A 1 6 = 0) : zd scr 88 119 [some (.ref 0), some (.int (nI (A 1 1))), some (.int (nI (zcnt A 1 6))), some (.int (nI (A 7 0))), some (.int (nI (A 7 (A 1 1 - 1)))), some (.int (nI (A 1 8))), some (.int (nI (mny b))), some (.int (hpc A 0)), some (.int (nI (zcnt A 1 (A 7 0)))), some (.int (nI f)), none] [] (hw (rdA (kpA A 1) 1) G) = some (some (.int (nI 1)), hw (rdA (kpA A 1) 1) G) := by
  obtain ⟨-, hpv, -⟩ := c_round (scr := scr) hi hz
  obtain ⟨f1, f2, f3, f4, f5, f6⟩ := rd_facts hi hz
  have hl := f_lt hi.1
  have hm := mny_le b
  have e6 := rr_6 hi.1
  have s1 := rr_n hi.1
  have h4 := (ord_at hi.1 hz).2
  have c0 := zcnt_le (h := A 7 0) hi.1.1.1 (by omega)
  refine (b88_119 ob0 (h_total 1 hpv.1 (by omega))).trans ?_
  rw [f_all, f4, n_sub (by omega), if_pos rfl]
  refine (b88_131 ob0 (h_total 5 hpv.1 (by omega))).trans ?_
  rw [show fig (rdA (kpA A 1) 1) 1 5 = rdA (kpA A 1) 1 1 8 from rfl, f5]
  have a1 := h_at1 (scr := scr) (G := G) hpv.1 (t := A 1 1 - 1) (by rw [f3]; omega)
  rw [f6] at a1
  by_cases e : mny b = 0
  · rw [if_neg (by omega)] at a1
    rw [i_npos e, if_neg (by omega)]
    refine b88_147.trans ?_
    rw [n_add, if_pos rfl]
    refine (b88_152 ob0 (by rw [n_sub (by omega)]; exact a1)).trans ?_
    rw [i_npos e]
    refine b88_168.trans ?_
    rw [if_pos rfl]
    refine b88_173.trans ?_
    rw [if_neg (by decide)]
    refine b88_185.trans ?_
    rw [i_eq0 e]
    exact b88_208
  · rw [if_pos (by omega)] at a1
    rw [i_pos (by omega) (by omega), if_pos (by omega)]
    refine b88_143.trans ?_
    rw [n_add, if_pos rfl]
    refine (b88_152 ob0 (by rw [n_sub (by omega)]; exact a1)).trans ?_
    rw [i_pos (by omega) (by omega)]
    refine b88_164.trans ?_
    rw [if_pos rfl]
    refine b88_173.trans ?_
    rw [if_neg (by decide)]
    refine b88_185.trans ?_
    rw [i_ne0 e (by omega)]
    refine b88_190.trans ?_
    rcases hf with rfl | rfl
    · rw [if_neg (by decide)]
      have := h_bagc (scr := scr) (G := G) hpv.1 (h := A 7 0) (i := zcnt A 1 (A 7 0)) (by omega) (by omega)
      rw [rd_first hi hz (by omega) (hf2 rfl)] at this
      refine (b88_195 ob0 this).trans ?_
      rw [if_pos rfl]
      exact b88_208
    · rw [if_pos (by decide)]
      exact b88_208
theorem rounds_ok (hi : pvA A b) : ∃ A' b', pvA A' b' ∧ WA A' = WA A ∧ A' 4 7 = A 4 7 ∧ zC scr 88 [.ref 0, .int (nI (A 1 1))] (hw A G) = some (some (.int (nI 1)), hw A' G) := by
  have hl := f_lt hi.1
  have e6 := rr_6 hi.1
  have s1 := rr_n hi.1
  have e1 : A 1 6 = b 1 := hi.1.2.2.2.2.2.1
  by_cases hz : A 1 1 = 0
  · refine ⟨A, b, hi, rfl, rfl, ?_⟩
    rw [zC_of zh88]
    refine b88_0.trans ((i_eq0 hz).trans ?_)
    refine (b88_4 ob0 (lf (c_round0 hi hz))).trans ?_
    rw [if_pos rfl]
    exact b88_13
  have hz : 0 < A 1 1 := by omega
  obtain ⟨hc, hpv, -⟩ := c_round (scr := scr) hi hz
  obtain ⟨f1, f2, f3, f4, f5, f6⟩ := rd_facts hi hz
  have h4 := (ord_at hi.1 hz).2
  have hh := h_heir1 (scr := scr) (G := G) 2 hi.1 h4 (by omega)
  have hr11 := h_total (scr := scr) (G := G) 11 hi.1 (by omega)
  refine ⟨_, _, hpv, f1, f2, ?_⟩
  rw [zC_of zh88]
  refine b88_0.trans ((i_ne0 (by omega) (by omega)).trans ?_)
  refine (b88_19 ob0 (h_total 1 hi.1 (by omega)) ob0 (h_at1 hi.1 hz) ob0 (by rw [n_sub (by omega)]; exact h_at1 hi.1 (by omega)) ob0 (h_total 5 hi.1 (by omega))).trans ?_
  rw [f_all]
  by_cases c1 : zcnt A 1 6 < A 1 1
  · rw [i_lt c1 (by omega)]
    refine (b88_56 ob0 hr11).trans ?_
    rw [show fig A 1 11 = A 1 6 from rfl]
    by_cases c2 : A 1 6 = 2
    · rw [i_eq c2]
      have em : mny b = 0 := by
        unfold mny
        rw [if_neg (by omega), if_pos (by omega)]
      refine (b88_66 ob0 (h_hopc hi.1 (by omega)) ob0 hh).trans ?_
      rw [i_lt c1 (by omega)]
      refine (b88_94 ob0 hr11).trans ?_
      rw [show fig A 1 11 = A 1 6 from rfl, i_ne0 (by omega) (by omega)]
      refine (b88_107 ob0 (lf hc)).trans ?_
      rw [em, if_pos rfl]
      have := rounds_tail (scr := scr) (G := G) hi hz (f := 0) (Or.inr rfl) (fun q => by omega)
      rw [em] at this
      exact this
    · rw [i_ne c2 (by have := hi.1.1.2.2.2.2.1; omega) (by omega)]
      have em : mny b = zcnt A 1 6 := by
        unfold mny
        rw [if_neg (by omega), if_neg (by omega)]
        exact e6.symm
      refine (b88_70 ob0 (h_hopc hi.1 (by omega)) ob0 hh).trans ?_
      rw [i_lt c1 (by omega)]
      refine (b88_94 ob0 hr11).trans ?_
      rw [show fig A 1 11 = A 1 6 from rfl]
      by_cases c3 : A 1 6 = 0
      · rw [i_eq0 c3]
        refine (b88_103 ob0 (lf hc)).trans ?_
        rw [em, if_pos rfl]
        have := rounds_tail (scr := scr) (G := G) hi hz (f := 1) (Or.inl rfl) (fun q => Or.inr c3)
        rw [em] at this
        exact this
      · rw [i_ne0 c3 (by have := hi.1.1.2.2.2.2.1; omega)]
        refine (b88_107 ob0 (lf hc)).trans ?_
        rw [em, if_pos rfl]
        have := rounds_tail (scr := scr) (G := G) hi hz (f := 0) (Or.inr rfl) (fun q => by omega)
        rw [em] at this
        exact this
  · rw [i_nlt c1 (by omega)]
    have em : mny b = A 1 1 := by
      unfold mny
      rw [if_pos (by omega)]
      exact s1.symm
    refine (b88_52 ob0 (h_hopc hi.1 (by omega)) ob0 hh).trans ?_
    rw [i_nlt c1 (by omega)]
    refine (b88_103 ob0 (lf hc)).trans ?_
    rw [em, if_pos rfl]
    have := rounds_tail (scr := scr) (G := G) hi hz (f := 1) (Or.inl rfl) (fun q => Or.inl (by omega))
    rw [em] at this
    exact this
end RO
