/-! the calls of the class -/
section OA
variable {A B : Nat → Nat → Nat} {b c : Nat → Nat} {p q h k g n m i j t r : Nat} {scr : List Int32}
theorem c_isMother (x : Int32) : zC scr 81 [.int x] (wd A) = some (some (.int (if ¬ x < 0 ∧ x < nI 4 then nI 1 else nI 0)), wd A) := by
  rw [zC_of zh81]
  refine b81_0.trans ?_
  by_cases h0 : x < 0
  · rw [if_pos h0, if_neg (fun q => q.1 h0)]; exact b81_13
  · rw [if_neg h0]
    refine b81_4.trans ?_
    by_cases h1 : x < nI 4
    · rw [if_pos h1, if_pos ⟨h0, h1⟩]; exact b81_9
    · rw [if_neg h1, if_neg (fun q => h1 q.2)]; exact b81_13
theorem c_isColour (x : Int32) : zC scr 82 [.int x] (wd A) = some (some (.int (if ¬ x < 0 ∧ x < nI 6 then nI 1 else nI 0)), wd A) := by
  rw [zC_of zh82]
  refine b82_0.trans ?_
  by_cases h0 : x < 0
  · rw [if_pos h0, if_neg (fun q => q.1 h0)]; exact b82_14
  · rw [if_neg h0]
    refine b82_4.trans ?_
    by_cases h1 : x < nI 6
    · rw [if_pos h1, if_pos ⟨h0, h1⟩]; exact b82_10
    · rw [if_neg h1, if_neg (fun q => h1 q.2)]; exact b82_14
theorem in_n {h n : Nat} (hh : h < n) (hn : n < 2147483648) : ¬ nI h < 0 ∧ nI h < nI n := by
  rw [n_neg (by omega), n_lt (by omega) hn]
  exact ⟨id, hh⟩
theorem nin_n {h n : Nat} (hh : ¬ h < n) (h2 : h < 2147483648) : ¬ (¬ nI h < 0 ∧ nI h < nI n) := by
  rw [n_neg h2, n_lt h2 (by omega)]
  exact fun q => hh q.2
theorem at_120 (hr : zRR A p b) (hg : g < b 7) : own b g < b 0 ∧ rk b (own b g) g < zcnt A p (own b g) ∧ A (p + 3) (own b g) + rk b (own b g) g < 120 := by
  have h0 := hr.2.1.1
  have e1 := (bO_g hr.2.1 hg).1
  have hl := rk_lt (b := b) (g := g) (n := b 7) hg
  rw [← hr.2.2.2.1.1 _ (by omega)] at hl
  exact ⟨e1, hl, in_row hr.1.1 (by omega) hl⟩
/-! what is told -/
theorem c_total (hr : zRR A 1 b) (hk : k < 13) : zC scr 69 [.ref 0, .int (nI k)] (wd A) = some (some (.int (nI (fig A 1 k))), wd A) := by
  rw [zC_of zh69]
  refine b69_0.trans ((i_neg (by omega)).trans (b69_4.trans ((i_nlt (by omega) (by omega)).trans ?_)))
  exact b69_13 (o_gf o_0 rfl) (o_ob (o_st z1)) (s_figure z1 hr.1 hk)
theorem c_heir (hr : zRR A 1 b) (hh : h < 1000) (hk : k < 6) : zC scr 64 [.ref 0, .int (nI h), .int (nI k)] (wd A) = some (some (.int (if h < A 1 1 then nI (abt A 1 h k) else -1)), wd A) := by
  have h0 := hr.1.2.2.1
  rw [zC_of zh64]
  by_cases c : h < A 1 1
  · refine (b64_0 (o_gf o_0 rfl) (o_ob (o_st z1)) (s_hasHeir1 z1 c (by omega))).trans ?_
    rw [if_neg (by decide), if_pos c]
    refine b64_13.trans ((i_neg (by omega)).trans (b64_17.trans ((i_nlt (by omega) (by omega)).trans ?_)))
    exact b64_25 (o_gf o_0 rfl) (o_ob (o_st z1)) (s_about z1 hr.1 c hk)
  · refine (b64_0 (o_gf o_0 rfl) (o_ob (o_st z1)) (s_hasHeir0 z1 (nin_n c (by omega)))).trans ?_
    rw [if_pos (by decide), if_neg c]; exact b64_11
theorem c_hasM (hr : zRR A 1 b) (hh : h < 1000) (hi : i < 1000) : zC scr 27 [.ref 1, .int (nI h), .int (nI i)] (wd A) = some (some (.int (if h < A 1 1 ∧ i < zcnt A 1 h then nI 1 else nI 0)), wd A) := by
  have h0 := hr.1.2.2.1
  by_cases c : h < A 1 1
  · rw [s_hasMarble1 z1 hr.1.1 c h0]
    have hc := zcnt_le (h := h) hr.1.1 (by omega)
    by_cases c2 : i < zcnt A 1 h
    · rw [if_pos (in_n c2 (by omega)), if_pos ⟨c, c2⟩]
    · rw [if_neg (nin_n c2 (by omega)), if_neg (fun q => c2 q.2)]
  · rw [s_hasMarble0 z1 _ (nin_n c (by omega)), if_neg (fun q => c q.1)]
/-- what bag tells: a marble's colour, its value -/
def bgc (A : Nat → Nat → Nat) (h i : Nat) : Int32 := if h < A 1 1 ∧ i < zcnt A 1 h then nI (mcol A 1 h i) else -1
def bgv (A : Nat → Nat → Nat) (h i : Nat) : Int32 := if h < A 1 1 ∧ i < zcnt A 1 h then nI (mval A 1 h i) else -1
theorem row_sm (hr : zRR A 1 b) (hh : h < 7) (hi : i < zcnt A 1 h) : A (1 + 3) h + i < 120 ∧ A (1 + 2) (A (1 + 3) h + i) < 1000 := by
  have h1 := in_row hr.1.1 hh hi
  exact ⟨h1, hr.1.2.1 _ h1⟩
theorem c_bagc (hr : zRR A 1 b) (hh : h < 1000) (hi : i < 1000) : zC scr 65 [.ref 0, .int (nI h), .int (nI i), .int (nI 0)] (wd A) = some (some (.int (bgc A h i)), wd A) := by
  have h0 := hr.1.2.2.1
  rw [zC_of zh65]
  refine (b65_0 (o_gf o_0 rfl) (o_ob (o_st z1)) (c_hasM hr hh hi)).trans ?_
  unfold bgc
  by_cases c : h < A 1 1 ∧ i < zcnt A 1 h
  · rw [if_pos c, if_pos c, if_neg (by decide)]
    have h1 := row_sm hr (by omega) c.2
    have := m_describe (scr := scr) (A := A) (h := h) (i := i) z1 (by omega) h1.1 (by omega) (nI 0)
    rw [if_pos rfl] at this
    exact b65_14 (o_gf o_0 rfl) (o_gf (o_st z1) rfl) (o_ob (o_mb z1)) this
  · rw [if_neg c, if_neg c, if_pos (by decide)]; exact b65_12
theorem c_bagv (hr : zRR A 1 b) (hh : h < 1000) (hi : i < 1000) : zC scr 65 [.ref 0, .int (nI h), .int (nI i), .int (nI 1)] (wd A) = some (some (.int (bgv A h i)), wd A) := by
  have h0 := hr.1.2.2.1
  rw [zC_of zh65]
  refine (b65_0 (o_gf o_0 rfl) (o_ob (o_st z1)) (c_hasM hr hh hi)).trans ?_
  unfold bgv
  by_cases c : h < A 1 1 ∧ i < zcnt A 1 h
  · rw [if_pos c, if_pos c, if_neg (by decide)]
    have h1 := row_sm hr (by omega) c.2
    have := m_describe (scr := scr) (A := A) (h := h) (i := i) z1 (by omega) h1.1 (by omega) (nI 1)
    rw [if_neg (by decide), if_pos rfl] at this
    exact b65_14 (o_gf o_0 rfl) (o_gf (o_st z1) rfl) (o_ob (o_mb z1)) this
  · rw [if_neg c, if_neg c, if_pos (by decide)]; exact b65_12
def hpc (A : Nat → Nat → Nat) (i : Nat) : Int32 := if i < zcnt A 1 6 then nI (mcol A 1 6 i) else -1
def hpv (A : Nat → Nat → Nat) (i : Nat) : Int32 := if i < zcnt A 1 6 then nI (mval A 1 6 i) else -1
theorem c_hopc (hr : zRR A 1 b) (hi : i < 1000) : zC scr 66 [.ref 0, .int (nI i), .int (nI 0)] (wd A) = some (some (.int (hpc A i)), wd A) := by
  have hc := zcnt_le (h := 6) hr.1.1 (by omega)
  rw [zC_of zh66]
  refine (b66_0 (o_gf o_0 rfl) (o_gf (o_st z1) rfl) (o_ob (o_mb z1)) (m_has z1 hr.1.1 (by omega) _)).trans ?_
  unfold hpc
  by_cases c : i < zcnt A 1 6
  · rw [if_pos (in_n c (by omega)), if_pos c, if_neg (by decide)]
    have h1 := row_sm hr (by omega) c
    have := m_describe (scr := scr) (A := A) (h := 6) (i := i) z1 (by omega) h1.1 (by omega) (nI 0)
    rw [if_pos rfl] at this
    exact b66_18 (o_gf o_0 rfl) (o_gf (o_st z1) rfl) (o_ob (o_mb z1)) this
  · rw [if_neg (nin_n c (by omega)), if_neg c, if_pos (by decide)]; exact b66_16
theorem c_hopv (hr : zRR A 1 b) (hi : i < 1000) : zC scr 66 [.ref 0, .int (nI i), .int (nI 1)] (wd A) = some (some (.int (hpv A i)), wd A) := by
  have hc := zcnt_le (h := 6) hr.1.1 (by omega)
  rw [zC_of zh66]
  refine (b66_0 (o_gf o_0 rfl) (o_gf (o_st z1) rfl) (o_ob (o_mb z1)) (m_has z1 hr.1.1 (by omega) _)).trans ?_
  unfold hpv
  by_cases c : i < zcnt A 1 6
  · rw [if_pos (in_n c (by omega)), if_pos c, if_neg (by decide)]
    have h1 := row_sm hr (by omega) c
    have := m_describe (scr := scr) (A := A) (h := 6) (i := i) z1 (by omega) h1.1 (by omega) (nI 1)
    rw [if_neg (by decide), if_pos rfl] at this
    exact b66_18 (o_gf o_0 rfl) (o_gf (o_st z1) rfl) (o_ob (o_mb z1)) this
  · rw [if_neg (nin_n c (by omega)), if_neg c, if_pos (by decide)]; exact b66_16
theorem c_vetoes (hm : m < 4) : zC scr 67 [.ref 0, .int (nI m)] (wd A) = some (some (.int (nI (A 8 m))), wd A) := by
  rw [zC_of zh67]
  refine (b67_0 (c_isMother _)).trans ?_
  rw [if_pos (in_n hm (by omega)), if_neg (by decide)]
  exact b67_9 (o_gf o_0 rfl) (o_gf (o_st z1) rfl) (w_al (zw7 z1) (by omega) (by omega))
theorem c_at (hr : zRR A 1 b) (ht : t < 1000) : zC scr 68 [.ref 0, .int (nI t)] (wd A) = some (some (.int (if t < A 1 1 then nI (A 7 t) else -1)), wd A) := by
  have h0 := hr.1.2.2.1
  rw [zC_of zh68]
  refine b68_0.trans ((i_neg (by omega)).trans ((b68_4 (o_gf o_0 rfl) (s_gf 1 z1 (by omega))).trans ?_))
  by_cases c : t < A 1 1
  · rw [i_lt c (by omega), if_pos c]
    exact b68_17 (o_gf o_0 rfl) (o_gf (o_st z1) rfl) (w_al (zw6 z1) (by omega) (by omega))
  · rw [i_nlt c (by omega), if_neg c]; exact b68_15
/-- what is wrong with a swap -/
def swe (A : Nat → Nat → Nat) (h i g j : Nat) : Int32 := if (h < A 1 1 ∧ i < zcnt A 1 h) ∧ (g < A 1 1 ∧ j < zcnt A 1 g) then (if h = g then -2 else nI 0) else -1
theorem c_swe (hr : zRR A 1 b) (hh : h < 1000) (hi : i < 1000) (hg : g < 1000) (hj : j < 1000) : zC scr 84 [.ref 0, .int (nI h), .int (nI i), .int (nI g), .int (nI j)] (wd A) = some (some (.int (swe A h i g j)), wd A) := by
  rw [zC_of zh84]
  refine (b84_0 (o_gf o_0 rfl) (o_ob (o_st z1)) (c_hasM hr hh hi)).trans ?_
  unfold swe
  by_cases c : h < A 1 1 ∧ i < zcnt A 1 h
  case neg => rw [if_neg c, if_pos (by decide), if_neg (fun q => c q.1)]; exact b84_25
  rw [if_pos c, if_neg (by decide)]
  refine (b84_12 (o_gf o_0 rfl) (o_ob (o_st z1)) (c_hasM hr hg hj)).trans ?_
  by_cases c2 : g < A 1 1 ∧ j < zcnt A 1 g
  case neg => rw [if_neg c2, if_pos (by decide), if_neg (fun q => c2 q.2)]; exact b84_25
  rw [if_pos c2, if_neg (by decide), if_pos ⟨c, c2⟩]
  refine b84_27.trans ?_
  by_cases e : h = g
  · rw [i_eq e, if_pos e]; exact b84_32
  · rw [i_ne e (by omega) (by omega), if_neg e]; exact b84_37
def whv (A : Nat → Nat → Nat) (h i g j : Nat) : Int32 := if (h < A 1 1 ∧ i < zcnt A 1 h) ∧ (g < A 1 1 ∧ j < zcnt A 1 g) then (if h = g then -2 else vtr A 1 h i g j) else -1
theorem c_who (hr : zRR A 1 b) (hh : h < 1000) (hi : i < 1000) (hg : g < 1000) (hj : j < 1000) : zC scr 72 [.ref 0, .int (nI h), .int (nI i), .int (nI g), .int (nI j)] (wd A) = some (some (.int (whv A h i g j)), wd A) := by
  have h0 := hr.1.2.2.1
  rw [zC_of zh72]
  refine (b72_0 (o_ob o_0) (c_swe hr hh hi hg hj)).trans ?_
  unfold swe whv
  by_cases c : (h < A 1 1 ∧ i < zcnt A 1 h) ∧ (g < A 1 1 ∧ j < zcnt A 1 g)
  case neg => rw [if_neg c, if_neg c, if_neg (by decide)]; exact b72_16
  rw [if_pos c, if_pos c]
  by_cases e : h = g
  · rw [if_pos e, if_pos e, if_neg (by decide)]; exact b72_16
  · rw [if_neg e, if_neg e, if_pos (by decide)]
    exact b72_19 (o_gf o_0 rfl) (o_ob (o_st z1)) (s_vetoerV z1 hr.1 c.1.1 c.2.1 (in_row hr.1.1 (by omega) c.1.2) (in_row hr.1.1 (by omega) c.2.2))
theorem c_best (hr : zRR A 1 b) (hk : k < 5) : zC scr 73 [.ref 0, .int (nI k)] (wd A) = some (some (.int (if srA A 1 69 4 = 0 then -6 else nI (srA A 1 69 k))), wd (srA A 1)) := by
  rw [zC_of zh73]
  refine b73_0.trans ((i_neg (by omega)).trans (b73_4.trans ((i_nlt (by omega) (by omega)).trans ?_)))
  exact b73_12 (o_gf o_0 rfl) (o_gf o_0 rfl) (o_ob o_69) (b_searchIn z1 hr.1) (o_gf o_0 rfl) (o_ob o_69) (b_tell (srA_ok z1 hr.1).2.1 hk)
theorem pv_sr (hi : pvA A b) : pvA (srA A 1) b := pv_same hi (fun c i hc => srA_off _ _ (by omega))
/-! what changes -/
theorem c_come (hi : pvA A b) (h6 : b 0 < 6) {mo wi : Nat} (hmo : mo < 4) (hwi : wi < 6) : zC scr 53 [.ref 0, .int (nI mo), .int (nI wi)] (wd A) = some (some (.int (nI (A 1 1))), wd (ahA (kpA A 1) 1 mo wi)) ∧ pvA (ahA (kpA A 1) 1 mo wi) (cmB b mo wi) := by
  have s1 := rr_n hi.1
  have ho := hi.2.1
  have k11 : kpA A 1 1 1 = A 1 1 := kp_off ho (by omega)
  refine ⟨?_, pv_rec hi (fun c i h1 h2 => ?_) (rr_come (kp_row ho hi.1) h6 hmo hwi)⟩
  · rw [zC_of zh53]
    refine (b53_0 (c_isMother _)).trans ?_
    rw [if_pos (in_n hmo (by omega)), if_neg (by decide)]
    refine (b53_9 (c_isColour _)).trans ?_
    rw [if_pos (in_n hwi (by omega)), if_neg (by decide)]
    refine (b53_19 (o_gf o_0 rfl) (s_gf 1 z1 (by omega))).trans ?_
    rw [i_lt (by omega) (by omega)]
    have := s_addHeir (scr := scr) (A := kpA A 1) (p := 1) (mo := mo) (wi := wi) z1 (by rw [k11]; omega)
    rw [k11] at this
    exact b53_34 (o_gf o_0 rfl) (o_gf o_0 rfl) (o_ob o_25) (keep1 hi) (o_gf o_0 rfl) (o_ob (o_st z1)) this
  · unfold ahA
    rw [up_ne (by omega), up_ne (by omega), up_ne (by omega), up_ne (by omega)]
theorem c_come6 (hi : pvA A b) (h6 : b 0 = 6) {mo wi : Nat} (hmo : mo < 4) (hwi : wi < 6) : zC scr 53 [.ref 0, .int (nI mo), .int (nI wi)] (wd A) = some (some (.int (-4)), wd A) := by
  have s1 := rr_n hi.1
  rw [zC_of zh53]
  refine (b53_0 (c_isMother _)).trans ?_
  rw [if_pos (in_n hmo (by omega)), if_neg (by decide)]
  refine (b53_9 (c_isColour _)).trans ?_
  rw [if_pos (in_n hwi (by omega)), if_neg (by decide)]
  refine (b53_19 (o_gf o_0 rfl) (s_gf 1 z1 (by omega))).trans ?_
  rw [i_nlt (by omega) (by omega)]
  exact b53_31
theorem c_leave0 (hi : pvA A b) (hh : h = A 1 1) : zC scr 54 [.ref 0, .int (nI h)] (wd A) = some (some (.int (-1)), wd A) := by
  have h0 := hi.1.1.2.2.1
  rw [zC_of zh54]
  refine (b54_0 (o_gf o_0 rfl) (o_ob (o_st z1)) (s_hasHeir0 z1 (nin_n (by omega) (by omega)))).trans ?_
  rw [if_pos (by decide)]; exact b54_11
theorem c_leave1 (hr : zRR A 1 b) (hh : h < A 1 1) : zC scr 54 [.ref 0, .int (nI h)] (wd A) = if nI 40 < nI (zcnt A 1 6 + zcnt A 1 h) then zd scr 54 44 [some (.ref 0), some (.int (nI h)), some (.int (nI (zcnt A 1 h)))] [] (wd A) else zd scr 54 47 [some (.ref 0), some (.int (nI h)), some (.int (nI (zcnt A 1 h)))] [] (wd A) := by
  have h0 := hr.1.2.2.1
  rw [zC_of zh54]
  refine (b54_0 (o_gf o_0 rfl) (o_ob (o_st z1)) (s_hasHeir1 z1 hh (by omega))).trans ?_
  rw [if_neg (by decide)]
  refine (b54_13 (o_gf o_0 rfl) (o_gf (o_st z1) rfl) (o_ob (o_mb z1)) (m_count z1 hr.1.1 (by omega)) (o_gf o_0 rfl) (o_gf (o_st z1) rfl) (o_ob (o_mb z1)) (m_count z1 hr.1.1 (by omega))).trans ?_
  rw [n_add]
theorem c_leaveL (hi : pvA A b) (hh : h < A 1 1) (hl : 40 < zcnt A 1 6 + zcnt A 1 h) : zC scr 54 [.ref 0, .int (nI h)] (wd A) = some (some (.int (-4)), wd A) := by
  have h0 := hi.1.1.2.2.1
  have h1 := zcnt_le (h := h) hi.1.1.1 (by omega)
  have h2 := zcnt_le (h := 6) hi.1.1.1 (by omega)
  rw [c_leave1 hi.1 hh, i_lt hl (by omega)]
  exact b54_44
theorem c_leave (hi : pvA A b) (hh : h < A 1 1) (hl : zcnt A 1 6 + zcnt A 1 h ≤ 40) : zC scr 54 [.ref 0, .int (nI h)] (wd A) = some (some (.int (nI (zcnt A 1 h))), wd (rhA (kpA A 1) 1 h)) ∧ ∃ b', pvA (rhA (kpA A 1) 1 h) b' := by
  have h0 := hi.1.2.1.1
  have s1 := rr_n hi.1
  have hk := kp_row hi.2.1 hi.1
  obtain ⟨t, ht, htb⟩ := hi.1.2.2.1.2 h (by omega)
  have e1 := hi.1.2.2.2.1.1 h (by omega)
  have e6 := rr_6 hi.1
  refine ⟨?_, lvB b h t, pv_rec hi (fun c i h1 h2 => ?_) (rr_leave hk (by omega) ht htb (by omega))⟩
  · rw [c_leave1 hi.1 hh, i_nlt (by omega) (by omega)]
    exact b54_47 (o_gf o_0 rfl) (o_gf o_0 rfl) (o_ob o_25) (keep1 hi) (o_gf o_0 rfl) (o_ob (o_st z1)) (s_removeHeir z1 hk.1 (by rw [rr_n hk]; omega))
  · unfold rhA
    rw [if_neg (by omega), if_neg (by omega), if_neg (by omega), if_neg (by omega), if_neg (by omega)]
    exact rb_off (by omega) (by omega)
theorem c_wish0 (hi : pvA A b) (hh : h = A 1 1) (y : Int32) : zC scr 55 [.ref 0, .int (nI h), .int y] (wd A) = some (some (.int (-1)), wd A) := by
  have h0 := hi.1.1.2.2.1
  rw [zC_of zh55]
  refine (b55_0 (o_gf o_0 rfl) (o_ob (o_st z1)) (s_hasHeir0 z1 (nin_n (by omega) (by omega)))).trans ?_
  rw [if_pos (by decide)]; exact b55_11
theorem c_wish (hi : pvA A b) (hh : h < A 1 1) {wi : Nat} (hwi : wi < 6) : zC scr 55 [.ref 0, .int (nI h), .int (nI wi)] (wd A) = some (some (.int (nI (zcol (up (kpA A 1) (1 + 5) h wi) 1 h wi))), wd (up (kpA A 1) (1 + 5) h wi)) ∧ pvA (up (kpA A 1) (1 + 5) h wi) (ups b (13 + 2 * h) wi) := by
  have h0 := hi.1.1.2.2.1
  have s1 := rr_n hi.1
  have hk2 := rr_wish (x := wi) (kp_row hi.2.1 hi.1) (show h < b 0 by omega) hwi
  refine ⟨?_, pv_rec hi (fun c i h1 h2 => up_ne (by omega)) hk2⟩
  rw [zC_of zh55]
  refine (b55_0 (o_gf o_0 rfl) (o_ob (o_st z1)) (s_hasHeir1 z1 hh (by omega))).trans ?_
  rw [if_neg (by decide)]
  refine (b55_13 (c_isColour _)).trans ?_
  rw [if_pos (in_n hwi (by omega)), if_neg (by decide)]
  exact b55_23 (o_gf o_0 rfl) (o_gf o_0 rfl) (o_ob o_25) (keep1 hi) (o_gf o_0 rfl) (o_gf (o_st z1) rfl) (w_as _ (zw5 z1) (by omega) (by omega)) (o_gf o_0 rfl) (o_gf (o_st z1) rfl) (o_ob (o_mb z1)) (m_countOf z1 hk2.1.1 hk2.1.2.1 (by omega) (by omega))
theorem c_rule (hi : pvA A b) (hr3 : r < 3) : zC scr 56 [.ref 0, .int (nI r)] (wd A) = some (some (.int (nI (A 1 6))), wd (up (kpA A 1) 1 6 r)) ∧ pvA (up (kpA A 1) 1 6 r) (ups b 1 r) := by
  refine ⟨?_, pv_rec hi (fun c i h1 h2 => up_ne (by omega)) (rr_rule (kp_row hi.2.1 hi.1) hr3)⟩
  rw [zC_of zh56]
  refine b56_0.trans ((i_neg (by omega)).trans (b56_4.trans ((i_nlt (by omega) (by omega)).trans ?_)))
  exact b56_12 (f4 := nI (A 1 6)) (o_gf o_0 rfl) (o_gf o_0 rfl) (o_ob o_25) (keep1 hi) (o_gf o_0 rfl) (by rw [s_gf 6 z1 (by omega), kp_off hi.2.1 (by omega)]) (o_gf o_0 rfl) (s_pf 6 _ z1 (by omega))
theorem c_pat (hi : pvA A b) (hr9 : r < 9) : zC scr 57 [.ref 0, .int (nI r)] (wd A) = some (some (.int (nI (A 1 7))), wd (up (kpA A 1) 1 7 r)) ∧ pvA (up (kpA A 1) 1 7 r) (ups b 2 r) := by
  refine ⟨?_, pv_rec hi (fun c i h1 h2 => up_ne (by omega)) (rr_patience (kp_row hi.2.1 hi.1) hr9)⟩
  rw [zC_of zh57]
  refine b57_0.trans ((i_neg (by omega)).trans (b57_4.trans ((i_nlt (by omega) (by omega)).trans ?_)))
  exact b57_13 (f4 := nI (A 1 7)) (o_gf o_0 rfl) (o_gf o_0 rfl) (o_ob o_25) (keep1 hi) (o_gf o_0 rfl) (by rw [s_gf 7 z1 (by omega), kp_off hi.2.1 (by omega)]) (o_gf o_0 rfl) (s_pf 7 _ z1 (by omega))
theorem c_grant (hi : pvA A b) (hm : m < 4) {v : Nat} (hv : v < 10) : zC scr 58 [.ref 0, .int (nI m), .int (nI v)] (wd A) = some (some (.int (nI (A 8 m))), wd (up (kpA A 1) (1 + 7) m v)) ∧ pvA (up (kpA A 1) (1 + 7) m v) (ups b (8 + m) v) := by
  refine ⟨?_, pv_rec hi (fun c i h1 h2 => up_ne (by omega)) (rr_grant (kp_row hi.2.1 hi.1) hm hv)⟩
  rw [zC_of zh58]
  refine (b58_0 (c_isMother _)).trans ?_
  rw [if_pos (in_n hm (by omega)), if_neg (by decide)]
  refine b58_9.trans ((i_neg (by omega)).trans (b58_13.trans ((i_nlt (by omega) (by omega)).trans ?_)))
  exact b58_22 (f5 := nI (A 8 m)) (o_gf o_0 rfl) (o_gf o_0 rfl) (o_ob o_25) (keep1 hi) (o_gf o_0 rfl) (o_gf (o_st z1) rfl) (by rw [w_al (zw7 z1) (by omega) (by omega), kp_off hi.2.1 (by omega)]) (o_gf o_0 rfl) (o_gf (o_st z1) rfl) (w_as _ (zw7 z1) (by omega) (by omega))
theorem c_drop1 (hr : zRR A 1 b) {co v : Nat} (hco : co < 6) (hv1 : 1 ≤ v) (hv : v < 10) : zC scr 59 [.ref 0, .int (nI co), .int (nI v)] (wd A) = if (if zcnt A 1 6 < 40 ∧ A (1 + 3) 7 < 120 then nI 1 else nI 0) = 0 then zd scr 59 34 [some (.ref 0), some (.int (nI co)), some (.int (nI v))] [] (wd A) else zd scr 59 37 [some (.ref 0), some (.int (nI co)), some (.int (nI v))] [] (wd A) := by
  rw [zC_of zh59]
  refine (b59_0 (c_isColour _)).trans ?_
  rw [if_pos (in_n hco (by omega)), if_neg (by decide)]
  refine b59_7.trans ((i_nlt (by omega) (by omega)).trans (b59_12.trans ((i_nlt (by omega) (by omega)).trans ?_)))
  exact b59_21 (o_gf o_0 rfl) (o_gf (o_st z1) rfl) (o_ob (o_mb z1)) (m_hasRoom z1 hr.1.1)
theorem c_dropL (hi : pvA A b) {co v : Nat} (hco : co < 6) (hv1 : 1 ≤ v) (hv : v < 10) (hl : ¬ (zcnt A 1 6 < 40 ∧ A (1 + 3) 7 < 120)) : zC scr 59 [.ref 0, .int (nI co), .int (nI v)] (wd A) = some (some (.int (-4)), wd A) := by
  rw [c_drop1 hi.1 hco hv1 hv, if_neg hl, if_pos (by decide)]
  exact b59_34
theorem c_drop (hi : pvA A b) {co v : Nat} (hco : co < 6) (hv1 : 1 ≤ v) (hv : v < 10) (hl : zcnt A 1 6 < 40 ∧ A (1 + 3) 7 < 120) : zC scr 59 [.ref 0, .int (nI co), .int (nI v)] (wd A) = some (some (.int (nI (zcnt A 1 6 + 1))), wd (zadd1 (kpA A 1) 1 (co * 10 + v))) ∧ pvA (zadd1 (kpA A 1) 1 (co * 10 + v)) (drB b (co * 10 + v)) := by
  have hk := kp_row hi.2.1 hi.1
  have e6 := rr_6 hi.1
  have e37 := hi.1.2.2.2.1.2.2.1
  have hk2 := rr_drop (x := co * 10 + v) hk (by omega) (by omega) (by omega)
  refine ⟨?_, pv_rec hi (fun c i h1 h2 => ad_off (by omega) (by omega)) hk2⟩
  rw [c_drop1 hi.1 hco hv1 hv, if_pos hl, if_neg (by decide)]
  have hadd := m_add (scr := scr) (A := kpA A 1) (p := 1) (c := co) (v := v) z1 hk.1.1
  have k6 := rr_6 hk
  have k7 := hk.2.2.2.1.2.2.1
  rw [if_pos (by omega)] at hadd
  have hcnt := m_count (scr := scr) (A := zadd1 (kpA A 1) 1 (co * 10 + v)) (p := 1) (h := 6) z1 hk2.1.1 (by omega)
  rw [rr_6 hk2, show drB b (co * 10 + v) 6 = b 6 + 1 from ups_eq, ← e6] at hcnt
  exact b59_37 (o_gf o_0 rfl) (o_gf o_0 rfl) (o_ob o_25) (keep1 hi) (o_gf o_0 rfl) (o_gf (o_st z1) rfl) (o_ob (o_mb z1)) hadd (o_gf o_0 rfl) (o_gf (o_st z1) rfl) (o_ob (o_mb z1)) hcnt
theorem c_round0 (hi : pvA A b) (hz : A 1 1 = 0) : zC scr 60 [.ref 0] (wd A) = some (some (.int (-3)), wd A) := by
  rw [zC_of zh60]
  exact (b60_0 (o_gf o_0 rfl) (s_gf 1 z1 (by omega))).trans ((i_eq0 hz).trans b60_10)
theorem c_round (hi : pvA A b) (hz : 0 < A 1 1) : zC scr 60 [.ref 0] (wd A) = some (some (.int (nI (mny b))), wd (rdA (kpA A 1) 1)) ∧ pvA (rdA (kpA A 1) 1) (rdB b) ∧ rdR (kpA A 1) 1 = mny b := by
  have h0 := hi.1.1.2.2.1
  have s1 := rr_n hi.1
  have hk := kp_row hi.2.1 hi.1
  obtain ⟨eR, hk2⟩ := rr_round hk (by omega)
  refine ⟨?_, pv_rec hi (fun c i h1 h2 => rdA_off (by omega)) hk2, eR⟩
  rw [zC_of zh60]
  refine (b60_0 (o_gf o_0 rfl) (s_gf 1 z1 (by omega))).trans ((i_ne0 (by omega) (by omega)).trans ?_)
  have := s_playRound (scr := scr) (A := kpA A 1) z1 hk.1 (by rw [rr_n hk]; omega)
  rw [eR] at this
  exact b60_13 (o_gf o_0 rfl) (o_gf o_0 rfl) (o_ob o_25) (keep1 hi) (o_gf o_0 rfl) (o_ob (o_st z1)) this
theorem dvN_off : ∀ n (A : Nat → Nat → Nat) c i, ¬ (p ≤ c ∧ c < p + 8) → (dvN p n A).2 c i = A c i
  | 0, _, _, _, _ => rfl
  | n + 1, A, c, i, h => by
    rw [dvN]
    by_cases e : rdR A p = 0
    · rw [if_pos e]; exact rdA_off h
    · rw [if_neg e]
      exact (dvN_off n (rdA A p) c i h).trans (rdA_off h)
theorem c_divide0 (hi : pvA A b) (hz : A 1 1 = 0) : zC scr 61 [.ref 0] (wd A) = some (some (.int (-3)), wd A) := by
  rw [zC_of zh61]
  exact (b61_0 (o_gf o_0 rfl) (s_gf 1 z1 (by omega))).trans ((i_eq0 hz).trans b61_10)
theorem c_divide (hi : pvA A b) (hz : 0 < A 1 1) : zC scr 61 [.ref 0] (wd A) = some (some (.int (nI (dvB (b 6) b).1)), wd (dvN 1 (b 6) (kpA A 1)).2) ∧ pvA (dvN 1 (b 6) (kpA A 1)).2 (dvB (b 6) b).2 := by
  have h0 := hi.1.1.2.2.1
  have s1 := rr_n hi.1
  have hk := kp_row hi.2.1 hi.1
  obtain ⟨eR, hk2⟩ := rr_divide (b 6) _ _ hk (by omega) (Nat.le_refl _)
  refine ⟨?_, pv_rec hi (fun c i h1 h2 => dvN_off _ _ c i (by omega)) hk2⟩
  rw [zC_of zh61]
  refine (b61_0 (o_gf o_0 rfl) (s_gf 1 z1 (by omega))).trans ((i_ne0 (by omega) (by omega)).trans ?_)
  have := s_playAll (scr := scr) (A := kpA A 1) z1 hk.1 (by rw [rr_n hk]; omega)
  rw [rr_6 hk, eR] at this
  exact b61_13 (o_gf o_0 rfl) (o_gf o_0 rfl) (o_ob o_25) (keep1 hi) (o_gf o_0 rfl) (o_ob (o_st z1)) this
end OA
