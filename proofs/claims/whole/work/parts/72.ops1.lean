/-! the calls, on both sides: heirs and settings -/
/-- a call is answered alike, and what holds between calls holds again -/
def zOP (scr : List Int32) (x m : Nat) (args : List Value) : Prop := ∀ A, zIV A → ∃ r A1 A2, zC scr x (.ref 0 :: args) (wd A) = some (some (.int r), wd A1) ∧ zC scr m (.ref 70 :: args) (wd A1) = some (some (.int r), wd A2) ∧ zIV A2
section OA
variable {A B : Nat → Nat → Nat} {b c : Nat → Nat} {p q h k g n m i j t : Nat} {scr : List Int32}
theorem z1 : zsb 1 := Or.inl rfl
theorem z9 : zsb 9 := Or.inr (Or.inl rfl)
theorem z17 : zsb 17 := Or.inr (Or.inr (Or.inl rfl))
theorem c_isMother (x : Int32) : zC scr 81 [.int x] (wd A) = some (some (.int (if ¬ x < 0 ∧ x < nI 4 then nI 1 else nI 0)), wd A) := by
  rw [zC_of zh81]
  refine b81_0.trans ?_
  by_cases h0 : x < 0
  · rw [if_pos h0, if_neg (fun q => q.1 h0)]; exact b81_13
  · rw [if_neg h0]
    refine b81_4.trans ?_
    by_cases h1 : x < nI 4
    · rw [if_pos h1, if_pos ⟨h0, h1⟩]; exact b81_9
    · rw [if_neg h1, if_neg (fun q => h1 q.2)]; exact b81_13
theorem c_isColour (x : Int32) : zC scr 82 [.int x] (wd A) = some (some (.int (if ¬ x < 0 ∧ x < nI 6 then nI 1 else nI 0)), wd A) := by
  rw [zC_of zh82]
  refine b82_0.trans ?_
  by_cases h0 : x < 0
  · rw [if_pos h0, if_neg (fun q => q.1 h0)]; exact b82_14
  · rw [if_neg h0]
    refine b82_4.trans ?_
    by_cases h1 : x < nI 6
    · rw [if_pos h1, if_pos ⟨h0, h1⟩]; exact b82_10
    · rw [if_neg h1, if_neg (fun q => h1 q.2)]; exact b82_14
theorem in_n {h n : Nat} (hh : h < n) (hn : n < 2147483648) : ¬ nI h < 0 ∧ nI h < nI n := by
  rw [n_neg (by omega), n_lt (by omega) hn]
  exact ⟨id, hh⟩
theorem iv_kp (hi : zIV A) : zRR (kpA A 1) 1 (A 71) := zRR_move (fun t i ht => kp_off hi.2.2.1.1 (by omega)) (fun _ _ => rfl) hi.1
theorem iv_b (hi : zIV A) (h : ∀ c i, (c = 0 ∨ (17 ≤ c ∧ c ≠ 69)) → B c i = kpA A 1 c i) : B 71 = A 71 ∧ rcA B 71 = A 71 ∧ B 70 3 ≤ 5 := by
  have ho := hi.2.2.1.1
  refine ⟨funext fun i => by rw [h 71 i (by omega), kp_off ho (by omega)], (ir_rec hi h).2, ?_⟩
  rw [h 70 3 (by omega), kp_off ho (by omega), ← hi.2.2.1.2.1]
  exact ho.1
/-- what a call that is recorded leaves -/
theorem iv_rec (hi : zIV A) (h : ∀ c i, (c = 0 ∨ (17 ≤ c ∧ c ≠ 69)) → B c i = kpA A 1 c i) (hr : zRR B 1 b) : zIV (sb (rcA B) b) := by
  refine ⟨zRR_move (fun t i ht => ?_) (fun _ _ => rfl) hr, ir_of (fun c i hc => sb_off (by omega)) (ir_rec hi h).1⟩
  rw [sb_off (by omega), rc_off (by omega) (by omega)]
theorem keep1 (hi : zIV A) : zC scr 21 [.ref 25, .ref 1] (wd A) = some (none, wd (kpA A 1)) := p_keep z1 (by omega) hi.2.2.1.1
theorem op_come (x y : Int32) : zOP scr 53 116 [.int x, .int y] := by
  intro A hi
  have hr := hi.1
  have ho := hi.2.2.1.1
  have s1 := rr_n hr
  have h0 := hr.2.1.1
  by_cases hx : ¬ x < 0 ∧ x < nI 4
  case neg =>
    refine ⟨-1, A, A, ?_, ?_, hi⟩
    · rw [zC_of zh53]
      refine (b53_0 (c_isMother x)).trans ?_
      rw [if_neg hx, if_pos (by decide)]; exact b53_7
    · rw [zC_of zh116]
      refine (b116_0 (r_isMother x)).trans ?_
      rw [if_neg hx, if_pos (by decide)]; exact b116_7
  by_cases hy : ¬ y < 0 ∧ y < nI 6
  case neg =>
    refine ⟨-2, A, A, ?_, ?_, hi⟩
    · rw [zC_of zh53]
      refine (b53_0 (c_isMother x)).trans ?_
      rw [if_pos hx, if_neg (by decide)]
      refine (b53_9 (c_isColour y)).trans ?_
      rw [if_neg hy, if_pos (by decide)]; exact b53_16
    · rw [zC_of zh116]
      refine (b116_0 (r_isMother x)).trans ?_
      rw [if_pos hx, if_neg (by decide)]
      refine (b116_9 (r_isColour y)).trans ?_
      rw [if_neg hy, if_pos (by decide)]; exact b116_16
  have ec : zC scr 53 [.ref 0, .int x, .int y] (wd A) = if nI (A 1 1) < nI 6 then zd scr 53 34 [some (.ref 0), some (.int x), some (.int y)] [] (wd A) else zd scr 53 31 [some (.ref 0), some (.int x), some (.int y)] [] (wd A) := by
    rw [zC_of zh53]
    refine (b53_0 (c_isMother x)).trans ?_
    rw [if_pos hx, if_neg (by decide)]
    refine (b53_9 (c_isColour y)).trans ?_
    rw [if_pos hy, if_neg (by decide)]
    exact b53_19 (o_gf o_0 rfl) (s_gf 1 z1 (by omega))
  have er : ∀ B : Nat → Nat → Nat, zC scr 116 [.ref 70, .int x, .int y] (wd B) = if nI (B 71 0) = nI 6 then zd scr 116 30 [some (.ref 70), some (.int x), some (.int y), none] [] (wd B) else zd scr 116 33 [some (.ref 70), some (.int x), some (.int y), none] [] (wd B) := by
    intro B
    rw [zC_of zh116]
    refine (b116_0 (r_isMother x)).trans ?_
    rw [if_pos hx, if_neg (by decide)]
    refine (b116_9 (r_isColour y)).trans ?_
    rw [if_pos hy, if_neg (by decide)]
    exact b116_19 gR0 (aR (by omega))
  by_cases h6 : A 71 0 < 6
  case neg =>
    refine ⟨-4, A, A, ec.trans ?_, (er A).trans ?_, hi⟩
    · rw [s1, i_nlt h6 (by omega)]; exact b53_31
    · rw [i_eq (by omega)]; exact b116_30
  obtain ⟨mo, hmo, rfl⟩ := (s_heir_cases x (n := 4) (by omega)).resolve_right (fun q => q hx)
  obtain ⟨wi, hwi, rfl⟩ := (s_heir_cases y (n := 6) (by omega)).resolve_right (fun q => q hy)
  have k11 : kpA A 1 1 1 = A 71 0 := by rw [kp_off ho (by omega)]; exact s1
  have hF : ∀ c i, (c = 0 ∨ (17 ≤ c ∧ c ≠ 69)) → ahA (kpA A 1) 1 mo wi c i = kpA A 1 c i := fun c i hc => by
    unfold ahA
    rw [up_ne (by omega), up_ne (by omega), up_ne (by omega), up_ne (by omega)]
  obtain ⟨f1, f2, f3⟩ := iv_b hi hF
  refine ⟨nI (A 71 0), ahA (kpA A 1) 1 mo wi, sb (rcA (ahA (kpA A 1) 1 mo wi)) (cmB (A 71) mo wi), ec.trans ?_, (er _).trans ?_, iv_rec hi hF (rr_come (iv_kp hi) h6 hmo hwi)⟩
  · rw [s1, i_lt h6 (by omega)]
    have := s_addHeir (scr := scr) (A := kpA A 1) (p := 1) (mo := mo) (wi := wi) z1 (by rw [k11]; exact h6)
    rw [k11] at this
    exact b53_34 (o_gf o_0 rfl) (o_gf o_0 rfl) (o_ob o_25) (keep1 hi) (o_gf o_0 rfl) (o_ob (o_st z1)) this
  · rw [f1, i_ne (by omega) (by omega) (by omega)]
    have e1 : ∀ i, i < 190 → zal (wd (rcA (ahA (kpA A 1) 1 mo wi))) 71 (nI i) = some (nI (A 71 i)) := fun i hi => by rw [aR hi, f2]
    have e2 : ∀ i x, i < 190 → zas (wd (rcA (ahA (kpA A 1) 1 mo wi))) 71 (nI i) (nI x) = some (wd (sb (rcA (ahA (kpA A 1) 1 mo wi)) (ups (A 71) i x))) := fun i x hi => by rw [sR _ hi, up71, f2]
    exact b116_33 oR (r_record f3) gR0 (e1 0 (by omega)) gR0 (e1 0 (by omega)) (by rw [n_add]; exact e2 0 _ (by omega)) gR0 (by rw [n_mul, n_add, n_add]; exact sR' (by omega)) gR0 (by rw [n_mul, n_add, n_add, show 12 + 2 * A 71 0 + 1 = 13 + 2 * A 71 0 by omega]; exact sR' (by omega)) gR0 (by rw [n_add]; exact sR' (by omega))
/-- a setting of the reference's row -/
theorem op_lays {F : Nat → Nat → Nat} {x y : Nat} (hi : zIV A) (hF : ∀ c i, (c = 0 ∨ (17 ≤ c ∧ c ≠ 69)) → F c i = kpA A 1 c i) (hx : x < 190) : zC scr 120 [.ref 70, .int (nI x), .int (nI y)] (wd F) = some (some (.int (nI (A 71 x))), wd (sb (rcA F) (ups (A 71) x y))) := by
  obtain ⟨f1, f2, f3⟩ := iv_b hi hF
  have := r_lays (scr := scr) (A := F) (x := x) (y := y) hx f3
  rw [f1] at this
  exact this
theorem r_in2 {x : Int32} (n : Nat) (hn : n < 9000) : (¬ x < nI 0 ∧ x ≤ nI n) ↔ (¬ x < 0 ∧ x < nI (n + 1)) := by
  have e := r_lt1 (x := x) (n := n + 1) (by omega)
  rw [n_sub (by omega)] at e
  exact e
theorem op_setRule (x : Int32) : zOP scr 56 121 [.int x] := by
  intro A hi
  have hr := hi.1
  have ho := hi.2.2.1.1
  have hin := r_in2 (x := x) 2 (by omega)
  by_cases hx : ¬ x < 0 ∧ x < nI 3
  case neg =>
    refine ⟨-2, A, A, ?_, ?_, hi⟩
    · rw [zC_of zh56]
      refine b56_0.trans ?_
      by_cases h0 : x < 0
      · rw [if_pos h0]; exact b56_9
      · rw [if_neg h0]
        refine b56_4.trans ((if_pos ?_).trans b56_9)
        obtain ⟨k, hk, rfl⟩ := n_of h0
        rw [n_lt hk (by omega)] at hx
        rw [n_lt (by omega) hk]
        have : ¬ k < 3 := fun q => hx ⟨h0, q⟩
        omega
    · rw [zC_of zh121]
      refine (b121_0 (r_in x _ _)).trans ?_
      rw [if_neg (fun q => hx (hin.mp q)), if_pos (by decide)]; exact b121_18
  obtain ⟨r, hr3, rfl⟩ := (s_heir_cases x (n := 3) (by omega)).resolve_right (fun q => q hx)
  have hF : ∀ c i, (c = 0 ∨ (17 ≤ c ∧ c ≠ 69)) → up (kpA A 1) 1 6 r c i = kpA A 1 c i := fun c i hc => up_ne (by omega)
  refine ⟨nI (A 71 1), up (kpA A 1) 1 6 r, sb (rcA (up (kpA A 1) 1 6 r)) (ups (A 71) 1 r), ?_, ?_, iv_rec hi hF (rr_rule (iv_kp hi) hr3)⟩
  · rw [zC_of zh56]
    refine b56_0.trans ((i_neg (by omega)).trans (b56_4.trans ((i_nlt (by omega) (by omega)).trans ?_)))
    exact b56_12 (f4 := nI (A 71 1)) (o_gf o_0 rfl) (o_gf o_0 rfl) (o_ob o_25) (keep1 hi) (o_gf o_0 rfl) (by rw [s_gf 6 z1 (by omega), (iv_kp hi).2.2.2.2.2.1]) (o_gf o_0 rfl) (s_pf 6 _ z1 (by omega))
  · rw [zC_of zh121]
    refine (b121_0 (r_in _ _ _)).trans ?_
    rw [if_pos (hin.mpr hx), if_neg (by decide)]
    exact b121_9 oR (op_lays hi hF (by omega))
theorem op_setPatience (x : Int32) : zOP scr 57 122 [.int x] := by
  intro A hi
  have hr := hi.1
  have ho := hi.2.2.1.1
  have hin := r_in2 (x := x) 8 (by omega)
  by_cases hx : ¬ x < 0 ∧ x < nI 9
  case neg =>
    refine ⟨-2, A, A, ?_, ?_, hi⟩
    · rw [zC_of zh57]
      refine b57_0.trans ?_
      by_cases h0 : x < 0
      · rw [if_pos h0]; exact b57_10
      · rw [if_neg h0]
        refine b57_4.trans ((if_pos ?_).trans b57_10)
        obtain ⟨k, hk, rfl⟩ := n_of h0
        rw [n_lt hk (by omega)] at hx
        rw [n_lt (by omega) hk]
        have : ¬ k < 9 := fun q => hx ⟨h0, q⟩
        omega
    · rw [zC_of zh122]
      refine (b122_0 (r_in x _ _)).trans ?_
      rw [if_neg (fun q => hx (hin.mp q)), if_pos (by decide)]; exact b122_19
  obtain ⟨r, hr3, rfl⟩ := (s_heir_cases x (n := 9) (by omega)).resolve_right (fun q => q hx)
  have hF : ∀ c i, (c = 0 ∨ (17 ≤ c ∧ c ≠ 69)) → up (kpA A 1) 1 7 r c i = kpA A 1 c i := fun c i hc => up_ne (by omega)
  refine ⟨nI (A 71 2), up (kpA A 1) 1 7 r, sb (rcA (up (kpA A 1) 1 7 r)) (ups (A 71) 2 r), ?_, ?_, iv_rec hi hF (rr_patience (iv_kp hi) hr3)⟩
  · rw [zC_of zh57]
    refine b57_0.trans ((i_neg (by omega)).trans (b57_4.trans ((i_nlt (by omega) (by omega)).trans ?_)))
    exact b57_13 (f4 := nI (A 71 2)) (o_gf o_0 rfl) (o_gf o_0 rfl) (o_ob o_25) (keep1 hi) (o_gf o_0 rfl) (by rw [s_gf 7 z1 (by omega), (iv_kp hi).2.2.2.2.2.2.1]) (o_gf o_0 rfl) (s_pf 7 _ z1 (by omega))
  · rw [zC_of zh122]
    refine (b122_0 (r_in _ _ _)).trans ?_
    rw [if_pos (hin.mpr hx), if_neg (by decide)]
    exact b122_10 oR (op_lays hi hF (by omega))
theorem op_grant (x y : Int32) : zOP scr 58 123 [.int x, .int y] := by
  intro A hi
  have hr := hi.1
  have ho := hi.2.2.1.1
  have hin := r_in2 (x := y) 9 (by omega)
  by_cases hx : ¬ x < 0 ∧ x < nI 4
  case neg =>
    refine ⟨-1, A, A, ?_, ?_, hi⟩
    · rw [zC_of zh58]
      refine (b58_0 (c_isMother x)).trans ?_
      rw [if_neg hx, if_pos (by decide)]; exact b58_7
    · rw [zC_of zh123]
      refine (b123_0 (r_isMother x)).trans ?_
      rw [if_neg hx, if_pos (by decide)]; exact b123_7
  have ec : zC scr 58 [.ref 0, .int x, .int y] (wd A) = zd scr 58 9 [some (.ref 0), some (.int x), some (.int y), none] [] (wd A) := by
    rw [zC_of zh58]
    refine (b58_0 (c_isMother x)).trans ?_
    rw [if_pos hx, if_neg (by decide)]
  have er : ∀ B : Nat → Nat → Nat, zC scr 123 [.ref 70, .int x, .int y] (wd B) = zd scr 123 9 [some (.ref 70), some (.int x), some (.int y)] [] (wd B) := by
    intro B
    rw [zC_of zh123]
    refine (b123_0 (r_isMother x)).trans ?_
    rw [if_pos hx, if_neg (by decide)]
  by_cases hy : ¬ y < 0 ∧ y < nI 10
  case neg =>
    refine ⟨-2, A, A, ec.trans ?_, (er A).trans ?_, hi⟩
    · refine b58_9.trans ?_
      by_cases h0 : y < 0
      · rw [if_pos h0]; exact b58_19
      · rw [if_neg h0]
        refine b58_13.trans ((if_pos ?_).trans b58_19)
        obtain ⟨k, hk, rfl⟩ := n_of h0
        rw [n_lt hk (by omega)] at hy
        rw [n_lt (by omega) hk]
        have : ¬ k < 10 := fun q => hy ⟨h0, q⟩
        omega
    · refine (b123_9 (r_in y _ _)).trans ?_
      rw [if_neg (fun q => hy (hin.mp q)), if_pos (by decide)]; exact b123_31
  obtain ⟨mo, hmo, rfl⟩ := (s_heir_cases x (n := 4) (by omega)).resolve_right (fun q => q hx)
  obtain ⟨v, hv, rfl⟩ := (s_heir_cases y (n := 10) (by omega)).resolve_right (fun q => q hy)
  have hF : ∀ c i, (c = 0 ∨ (17 ≤ c ∧ c ≠ 69)) → up (kpA A 1) (1 + 7) mo v c i = kpA A 1 c i := fun c i hc => up_ne (by omega)
  have e8 := (iv_kp hi).2.2.2.2.2.2.2.2.2.2.1 mo hmo
  refine ⟨nI (A 71 (8 + mo)), up (kpA A 1) (1 + 7) mo v, sb (rcA (up (kpA A 1) (1 + 7) mo v)) (ups (A 71) (8 + mo) v), ec.trans ?_, (er _).trans ?_, iv_rec hi hF (rr_grant (iv_kp hi) hmo hv)⟩
  · refine b58_9.trans ((i_neg (by omega)).trans (b58_13.trans ((i_nlt (by omega) (by omega)).trans ?_)))
    exact b58_22 (f5 := nI (A 71 (8 + mo))) (o_gf o_0 rfl) (o_gf o_0 rfl) (o_ob o_25) (keep1 hi) (o_gf o_0 rfl) (o_gf (o_st z1) rfl) (by rw [w_al (zw7 z1) (by omega) (by omega), e8]) (o_gf o_0 rfl) (o_gf (o_st z1) rfl) (w_as _ (zw7 z1) (by omega) (by omega))
  · refine (b123_9 (r_in _ _ _)).trans ?_
    rw [if_pos (hin.mpr hy), if_neg (by decide)]
    exact b123_19 oR (by rw [n_add]; exact op_lays hi hF (by omega))
end OA
