/-! the calls, on both sides: leave, wish, drop, round, divide -/
section OB
variable {A B : Nat → Nat → Nat} {b c : Nat → Nat} {p q h k g n m i j t : Nat} {scr : List Int32}
theorem op_leave (x : Int32) : zOP scr 54 118 [.int x] := by
  intro A hi
  have hr := hi.1
  have ho := hi.2.2.1.1
  have s1 := rr_n hr
  have h0 := hr.2.1.1
  have h7 := bO_7 hr.2.1
  have h6 := hr.2.1.2.2.2.1
  rcases s_heir_cases x (n := A 71 0) (by omega) with ⟨h, hh, rfl⟩ | hx
  case inr =>
    refine ⟨-1, A, A, ?_, ?_, hi⟩
    · rw [zC_of zh54]
      refine (b54_0 (o_gf o_0 rfl) (o_ob (o_st z1)) (s_hasHeir0 z1 (by rw [s1]; exact hx))).trans ?_
      rw [if_pos (by decide)]; exact b54_11
    · rw [zC_of zh118]
      refine (b118_0 oR (r_isHeir (by omega) x)).trans ?_
      rw [if_neg hx, if_pos (by decide)]; exact b118_8
  have hcn := hr.2.2.2.1.1 h (by omega)
  have hc6 := rr_6 hr
  have hrl := rk_le (b := A 71) (h := h) (A 71 7)
  have ec : zC scr 54 [.ref 0, .int (nI h)] (wd A) = if nI 40 < nI (A 71 6 + rk (A 71) h (A 71 7)) then zd scr 54 44 [some (.ref 0), some (.int (nI h)), some (.int (nI (rk (A 71) h (A 71 7))))] [] (wd A) else zd scr 54 47 [some (.ref 0), some (.int (nI h)), some (.int (nI (rk (A 71) h (A 71 7))))] [] (wd A) := by
    rw [zC_of zh54]
    refine (b54_0 (o_gf o_0 rfl) (o_ob (o_st z1)) (s_hasHeir1 z1 (by omega) (by omega))).trans ?_
    rw [if_neg (by decide)]
    refine (b54_13 (o_gf o_0 rfl) (o_gf (o_st z1) rfl) (o_ob (o_mb z1)) (m_count z1 hr.1.1 (by omega)) (o_gf o_0 rfl) (o_gf (o_st z1) rfl) (o_ob (o_mb z1)) (m_count z1 hr.1.1 (by omega))).trans ?_
    rw [hcn, hc6, n_add]
  have er : ∀ B : Nat → Nat → Nat, B 71 = A 71 → zC scr 118 [.ref 70, .int (nI h)] (wd B) = if nI 40 < nI (A 71 6 + rk (A 71) h (A 71 7)) then zd scr 118 30 [some (.ref 70), some (.int (nI h)), some (.int (nI (rk (A 71) h (A 71 7)))), none, none, none] [] (wd B) else zd scr 118 33 [some (.ref 70), some (.int (nI h)), some (.int (nI (rk (A 71) h (A 71 7)))), none, none, none] [] (wd B) := by
    intro B hB
    rw [zC_of zh118]
    refine (b118_0 oR (r_isHeir (by rw [hB]; omega) _)).trans ?_
    rw [hB, if_pos (in_n hh (by omega)), if_neg (by decide)]
    have hib := r_inBag (scr := scr) (A := B) (h := h) (by rw [hB]; exact hr.2.1) (by omega)
    rw [hB] at hib
    refine (b118_10 (f3 := nI (A 71 6)) oR hib gR0 (by rw [aR (by omega), hB])).trans ?_
    rw [n_add]
  by_cases c : 40 < A 71 6 + rk (A 71) h (A 71 7)
  · refine ⟨-4, A, A, ec.trans ?_, (er A rfl).trans ?_, hi⟩
    · rw [i_lt c (by omega)]; exact b54_44
    · rw [i_lt c (by omega)]; exact b118_30
  obtain ⟨t, ht, htb⟩ := hr.2.2.1.2 h hh
  have hk := iv_kp hi
  have hF : ∀ c i, (c = 0 ∨ (17 ≤ c ∧ c ≠ 69)) → rhA (kpA A 1) 1 h c i = kpA A 1 c i := fun c i hc => by
    unfold rhA
    rw [if_neg (by omega), if_neg (by omega), if_neg (by omega), if_neg (by omega), if_neg (by omega)]
    exact rb_off (by omega) (by omega)
  obtain ⟨f1, f2, f3⟩ := iv_b hi hF
  refine ⟨nI (rk (A 71) h (A 71 7)), rhA (kpA A 1) 1 h, sb (rcA (rhA (kpA A 1) 1 h)) (lvB (A 71) h t), ec.trans ?_, (er _ f1).trans ?_, iv_rec hi hF (rr_leave hk hh ht htb (by omega))⟩
  · rw [i_nlt c (by omega)]
    exact b54_47 (o_gf o_0 rfl) (o_gf o_0 rfl) (o_ob o_25) (keep1 hi) (o_gf o_0 rfl) (o_ob (o_st z1)) (s_removeHeir z1 hk.1 (by rw [rr_n hk]; exact hh))
  · rw [i_nlt c (by omega)]
    have hgb := r_goBack (scr := scr) (A := rcA (rhA (kpA A 1) 1 h)) (h := h) (by rw [f2]; exact hr.2.1) (by rw [f2]; exact hh) (by rw [f2]; omega)
    rw [f2] at hgb
    refine (b118_33 oR (r_record f3) oR hgb).trans ?_
    exact leave_tail hr.2.1 hr.2.2.1 hh ht htb (by omega)
theorem op_wish (x y : Int32) : zOP scr 55 119 [.int x, .int y] := by
  intro A hi
  have hr := hi.1
  have ho := hi.2.2.1.1
  have s1 := rr_n hr
  have h0 := hr.2.1.1
  rcases s_heir_cases x (n := A 71 0) (by omega) with ⟨h, hh, rfl⟩ | hx
  case inr =>
    refine ⟨-1, A, A, ?_, ?_, hi⟩
    · rw [zC_of zh55]
      refine (b55_0 (o_gf o_0 rfl) (o_ob (o_st z1)) (s_hasHeir0 z1 (by rw [s1]; exact hx))).trans ?_
      rw [if_pos (by decide)]; exact b55_11
    · rw [zC_of zh119]
      refine (b119_0 oR (r_isHeir (by omega) x)).trans ?_
      rw [if_neg hx, if_pos (by decide)]; exact b119_8
  have ec : zC scr 55 [.ref 0, .int (nI h), .int y] (wd A) = zd scr 55 13 [some (.ref 0), some (.int (nI h)), some (.int y)] [] (wd A) := by
    rw [zC_of zh55]
    refine (b55_0 (o_gf o_0 rfl) (o_ob (o_st z1)) (s_hasHeir1 z1 (by omega) (by omega))).trans ?_
    rw [if_neg (by decide)]
  have er : ∀ B : Nat → Nat → Nat, B 71 = A 71 → zC scr 119 [.ref 70, .int (nI h), .int y] (wd B) = zd scr 119 10 [some (.ref 70), some (.int (nI h)), some (.int y)] [] (wd B) := by
    intro B hB
    rw [zC_of zh119]
    refine (b119_0 oR (r_isHeir (by rw [hB]; omega) _)).trans ?_
    rw [hB, if_pos (in_n hh (by omega)), if_neg (by decide)]
  by_cases hy : ¬ y < 0 ∧ y < nI 6
  case neg =>
    refine ⟨-2, A, A, ec.trans ?_, (er A rfl).trans ?_, hi⟩
    · refine (b55_13 (c_isColour y)).trans ?_
      rw [if_neg hy, if_pos (by decide)]; exact b55_20
    · refine (b119_10 (r_isColour y)).trans ?_
      rw [if_neg hy, if_pos (by decide)]; exact b119_17
  obtain ⟨wi, hwi, rfl⟩ := (s_heir_cases y (n := 6) (by omega)).resolve_right (fun q => q hy)
  have hk := iv_kp hi
  have hk2 := rr_wish (x := wi) hk hh hwi
  have hF : ∀ c i, (c = 0 ∨ (17 ≤ c ∧ c ≠ 69)) → up (kpA A 1) (1 + 5) h wi c i = kpA A 1 c i := fun c i hc => up_ne (by omega)
  obtain ⟨f1, f2, f3⟩ := iv_b hi hF
  have hcol := rm_col hk2.2.2.2.1 (show h < 6 by omega) wi
  have e7 : ups (A 71) (13 + 2 * h) wi 7 = A 71 7 := ups_ne (by omega)
  refine ⟨nI (zcol (up (kpA A 1) (1 + 5) h wi) 1 h wi), up (kpA A 1) (1 + 5) h wi, sb (rcA (up (kpA A 1) (1 + 5) h wi)) (ups (A 71) (13 + 2 * h) wi), ec.trans ?_, (er _ f1).trans ?_, iv_rec hi hF hk2⟩
  · refine (b55_13 (c_isColour _)).trans ?_
    rw [if_pos hy, if_neg (by decide)]
    exact b55_23 (o_gf o_0 rfl) (o_gf o_0 rfl) (o_ob o_25) (keep1 hi) (o_gf o_0 rfl) (o_gf (o_st z1) rfl) (w_as _ (zw5 z1) (by omega) (by omega)) (o_gf o_0 rfl) (o_gf (o_st z1) rfl) (o_ob (o_mb z1)) (m_countOf z1 hk2.1.1 hk2.1.2.1 (by omega) (by omega))
  · refine (b119_10 (r_isColour _)).trans ?_
    rw [if_pos hy, if_neg (by decide)]
    have hoc := r_ofColour (scr := scr) (A := sb (rcA (up (kpA A 1) (1 + 5) h wi)) (ups (A 71) (13 + 2 * h) wi)) (h := h) (c := wi) hk2.2.1 (by omega) (by omega)
    rw [sb71, ← hcol] at hoc
    exact b119_20 oR (r_record f3) gR0 (by rw [n_mul, n_add, n_add, show 12 + 2 * h + 1 = 13 + 2 * h by omega, sR _ (by omega), up71, f2]) oR hoc
theorem op_drop (x y : Int32) : zOP scr 59 126 [.int x, .int y] := by
  intro A hi
  have hr := hi.1
  have ho := hi.2.2.1.1
  have h0 := hr.2.1.1
  have h7 := bO_7 hr.2.1
  have hc6 := rr_6 hr
  have h37 := hr.2.2.2.1.2.2.1
  have hin : (¬ y < nI 1 ∧ y ≤ nI 9) ↔ ((¬ y < 0 ∧ y < nI 10) ∧ ¬ y < nI 1) := by
    constructor
    · rintro ⟨a1, a2⟩
      have n0 : ¬ y < 0 := fun q => a1 (Int32.lt_trans q (by decide))
      exact ⟨(r_in2 9 (by omega)).mp ⟨n0, a2⟩, a1⟩
    · rintro ⟨a1, a2⟩
      exact ⟨a2, ((r_in2 9 (by omega)).mpr a1).2⟩
  by_cases hx : ¬ x < 0 ∧ x < nI 6
  case neg =>
    refine ⟨-2, A, A, ?_, ?_, hi⟩
    · rw [zC_of zh59]
      refine (b59_0 (c_isColour x)).trans ?_
      rw [if_neg hx, if_pos (by decide)]; exact b59_18
    · rw [zC_of zh126]
      refine (b126_0 (r_isColour x)).trans ?_
      rw [if_neg hx, if_pos (by decide)]; exact b126_17
  have ec : zC scr 59 [.ref 0, .int x, .int y] (wd A) = zd scr 59 7 [some (.ref 0), some (.int x), some (.int y)] [] (wd A) := by
    rw [zC_of zh59]
    refine (b59_0 (c_isColour x)).trans ?_
    rw [if_pos hx, if_neg (by decide)]
  have er : ∀ B : Nat → Nat → Nat, zC scr 126 [.ref 70, .int x, .int y] (wd B) = if (if ¬ y < nI 1 ∧ y ≤ nI 9 then nI 1 else nI 0) = 0 then zd scr 126 17 [some (.ref 70), some (.int x), some (.int y)] [] (wd B) else zd scr 126 20 [some (.ref 70), some (.int x), some (.int y)] [] (wd B) := by
    intro B
    rw [zC_of zh126]
    refine (b126_0 (r_isColour x)).trans ?_
    rw [if_pos hx, if_neg (by decide)]
    exact b126_7 (r_in y _ _)
  by_cases hy : ¬ y < nI 1 ∧ y ≤ nI 9
  case neg =>
    refine ⟨-2, A, A, ec.trans ?_, (er A).trans ?_, hi⟩
    · refine b59_7.trans ?_
      by_cases c1 : y < nI 1
      · rw [if_pos c1]; exact b59_18
      · rw [if_neg c1]
        refine b59_12.trans ((if_pos ?_).trans b59_18)
        exact Int32.not_le.mp fun q => hy ⟨c1, q⟩
    · rw [if_neg hy, if_pos (by decide)]; exact b126_17
  obtain ⟨co, hco, rfl⟩ := (s_heir_cases x (n := 6) (by omega)).resolve_right (fun q => q hx)
  obtain ⟨v, hv, rfl⟩ := (s_heir_cases y (n := 10) (by omega)).resolve_right (fun q => q (hin.mp hy).1)
  have hv1 : 1 ≤ v := by
    have := (hin.mp hy).2
    rw [n_lt (by omega) (by omega)] at this
    omega
  have ec2 : zC scr 59 [.ref 0, .int (nI co), .int (nI v)] (wd A) = if (if zcnt A 1 6 < 40 ∧ A (1 + 3) 7 < 120 then nI 1 else nI 0) = 0 then zd scr 59 34 [some (.ref 0), some (.int (nI co)), some (.int (nI v))] [] (wd A) else zd scr 59 37 [some (.ref 0), some (.int (nI co)), some (.int (nI v))] [] (wd A) := by
    refine ec.trans (b59_7.trans ((i_nlt (by omega) (by omega)).trans (b59_12.trans ((i_nlt (by omega) (by omega)).trans ?_))))
    exact b59_21 (o_gf o_0 rfl) (o_gf (o_st z1) rfl) (o_ob (o_mb z1)) (m_hasRoom z1 hr.1.1)
  have er2 : ∀ B : Nat → Nat → Nat, B 71 = A 71 → zC scr 126 [.ref 70, .int (nI co), .int (nI v)] (wd B) = if (if A 71 6 + 1 ≤ 40 ∧ A 71 6 + A 71 7 + 1 ≤ 120 then nI 1 else nI 0) = 0 then zd scr 126 28 [some (.ref 70), some (.int (nI co)), some (.int (nI v))] [] (wd B) else zd scr 126 31 [some (.ref 70), some (.int (nI co)), some (.int (nI v))] [] (wd B) := by
    intro B hB
    refine (er B).trans ?_
    rw [if_pos hy, if_neg (by decide)]
    have := r_hasRoom (scr := scr) (A := B) (x := 1) (by rw [hB]; exact hr.2.1) (by omega)
    rw [hB] at this
    exact b126_20 oR this
  by_cases hroom : A 71 6 + 1 ≤ 40 ∧ A 71 6 + A 71 7 + 1 ≤ 120
  case neg =>
    refine ⟨-4, A, A, ec2.trans ?_, (er2 A rfl).trans ?_, hi⟩
    · rw [if_neg (show ¬ (zcnt A 1 6 < 40 ∧ A (1 + 3) 7 < 120) by omega), if_pos (by decide)]; exact b59_34
    · rw [if_neg hroom, if_pos (by decide)]; exact b126_28
  have hk := iv_kp hi
  have hk2 := rr_drop (x := co * 10 + v) hk (by omega) (by omega) (by omega)
  have hF : ∀ c i, (c = 0 ∨ (17 ≤ c ∧ c ≠ 69)) → zadd1 (kpA A 1) 1 (co * 10 + v) c i = kpA A 1 c i := fun c i hc => ad_off (by omega) (by omega)
  obtain ⟨f1, f2, f3⟩ := iv_b hi hF
  refine ⟨nI (A 71 6 + 1), zadd1 (kpA A 1) 1 (co * 10 + v), sb (rcA (zadd1 (kpA A 1) 1 (co * 10 + v))) (drB (A 71) (co * 10 + v)), ec2.trans ?_, (er2 _ f1).trans ?_, iv_rec hi hF hk2⟩
  · rw [if_pos (show zcnt A 1 6 < 40 ∧ A (1 + 3) 7 < 120 by omega), if_neg (by decide)]
    have hadd := m_add (scr := scr) (A := kpA A 1) (p := 1) (c := co) (v := v) z1 hk.1.1
    have k6 := rr_6 hk
    have k7 := hk.2.2.2.1.2.2.1
    rw [if_pos (by omega)] at hadd
    have hcnt := m_count (scr := scr) (A := zadd1 (kpA A 1) 1 (co * 10 + v)) (p := 1) (h := 6) z1 hk2.1.1 (by omega)
    rw [rr_6 hk2, show drB (A 71) (co * 10 + v) 6 = A 71 6 + 1 from ups_eq] at hcnt
    exact b59_37 (o_gf o_0 rfl) (o_gf o_0 rfl) (o_ob o_25) (keep1 hi) (o_gf o_0 rfl) (o_gf (o_st z1) rfl) (o_ob (o_mb z1)) hadd (o_gf o_0 rfl) (o_gf (o_st z1) rfl) (o_ob (o_mb z1)) hcnt
  · rw [if_pos hroom, if_neg (by decide)]
    have hdr := r_drops (scr := scr) (A := rcA (zadd1 (kpA A 1) 1 (co * 10 + v))) (c := co) (v := v) (by rw [f2]; omega)
    rw [f2] at hdr
    exact b126_31 oR (r_record f3) oR hdr gR0 (by rw [aR' (by omega)]; exact congrArg (fun x => some (nI x)) ups_eq)
theorem op_round : zOP scr 60 127 [] := by
  intro A hi
  have hr := hi.1
  have s1 := rr_n hr
  have h0 := hr.2.1.1
  by_cases hz : A 71 0 = 0
  · refine ⟨-3, A, A, ?_, ?_, hi⟩
    · rw [zC_of zh60]
      refine (b60_0 (o_gf o_0 rfl) (s_gf 1 z1 (by omega))).trans ((i_eq0 (by omega)).trans b60_10)
    · rw [zC_of zh127]
      exact (b127_0 gR0 (aR (by omega))).trans ((i_eq0 hz).trans b127_9)
  have hk := iv_kp hi
  obtain ⟨eR, hk2⟩ := rr_round hk (by omega)
  have hF : ∀ c i, (c = 0 ∨ (17 ≤ c ∧ c ≠ 69)) → rdA (kpA A 1) 1 c i = kpA A 1 c i := fun c i hc => rdA_off (by omega)
  obtain ⟨f1, f2, f3⟩ := iv_b hi hF
  refine ⟨nI (mny (A 71)), rdA (kpA A 1) 1, sb (rcA (rdA (kpA A 1) 1)) (rdB (A 71)), ?_, ?_, iv_rec hi hF hk2⟩
  · rw [zC_of zh60]
    refine (b60_0 (o_gf o_0 rfl) (s_gf 1 z1 (by omega))).trans ((i_ne0 (by omega) (by omega)).trans ?_)
    have := s_playRound (scr := scr) (A := kpA A 1) z1 hk.1 (by rw [rr_n hk]; omega)
    rw [eR] at this
    exact b60_13 (o_gf o_0 rfl) (o_gf o_0 rfl) (o_ob o_25) (keep1 hi) (o_gf o_0 rfl) (o_ob (o_st z1)) this
  · rw [zC_of zh127]
    refine (b127_0 gR0 (aR (by omega))).trans ?_
    rw [f1]
    refine (i_ne0 hz (by omega)).trans ?_
    have := r_rounds (scr := scr) (A := rcA (rdA (kpA A 1) 1)) (by rw [f2]; exact hr.2.1) (by rw [f2]; exact hr.2.2.1) (by rw [f2]; omega)
    rw [f2] at this
    exact b127_12 oR (r_record f3) oR this
theorem dvN_off : ∀ n (A : Nat → Nat → Nat) c i, ¬ (p ≤ c ∧ c < p + 8) → (dvN p n A).2 c i = A c i
  | 0, _, _, _, _ => rfl
  | n + 1, A, c, i, h => by
    rw [dvN]
    by_cases e : rdR A p = 0
    · rw [if_pos e]; exact rdA_off h
    · rw [if_neg e]
      exact (dvN_off n (rdA A p) c i h).trans (rdA_off h)
theorem op_divide : zOP scr 61 128 [] := by
  intro A hi
  have hr := hi.1
  have s1 := rr_n hr
  have h0 := hr.2.1.1
  by_cases hz : A 71 0 = 0
  · refine ⟨-3, A, A, ?_, ?_, hi⟩
    · rw [zC_of zh61]
      refine (b61_0 (o_gf o_0 rfl) (s_gf 1 z1 (by omega))).trans ((i_eq0 (by omega)).trans b61_10)
    · rw [zC_of zh128]
      exact (b128_0 gR0 (aR (by omega))).trans ((i_eq0 hz).trans b128_9)
  have hk := iv_kp hi
  obtain ⟨eR, hk2⟩ := rr_divide (A 71 6) _ _ hk (by omega) (Nat.le_refl _)
  have hF : ∀ c i, (c = 0 ∨ (17 ≤ c ∧ c ≠ 69)) → (dvN 1 (A 71 6) (kpA A 1)).2 c i = kpA A 1 c i := fun c i hc => dvN_off _ _ c i (by omega)
  obtain ⟨f1, f2, f3⟩ := iv_b hi hF
  refine ⟨nI (dvB (A 71 6) (A 71)).1, (dvN 1 (A 71 6) (kpA A 1)).2, sb (rcA (dvN 1 (A 71 6) (kpA A 1)).2) (dvB (A 71 6) (A 71)).2, ?_, ?_, iv_rec hi hF hk2⟩
  · rw [zC_of zh61]
    refine (b61_0 (o_gf o_0 rfl) (s_gf 1 z1 (by omega))).trans ((i_ne0 (by omega) (by omega)).trans ?_)
    have := s_playAll (scr := scr) (A := kpA A 1) z1 hk.1 (by rw [rr_n hk]; omega)
    rw [rr_6 hk, eR] at this
    exact b61_13 (o_gf o_0 rfl) (o_gf o_0 rfl) (o_ob o_25) (keep1 hi) (o_gf o_0 rfl) (o_ob (o_st z1)) this
  · rw [zC_of zh128]
    refine (b128_0 gR0 (aR (by omega))).trans ?_
    rw [f1]
    refine (i_ne0 hz (by omega)).trans ?_
    have := r_divides (scr := scr) (A := rcA (dvN 1 (A 71 6) (kpA A 1)).2) (by rw [f2]; exact hr.2.1) (by rw [f2]; exact hr.2.2.1) (by rw [f2]; omega)
    rw [f2] at this
    exact b128_12 oR (r_record f3) oR this
end OB
