/-! the calls, on both sides: restore, undo, pour -/
section OG
variable {A B : Nat → Nat → Nat} {b c : Nat → Nat} {p q h k g n m i j t : Nat} {scr : List Int32}
theorem op_restore : zOP scr 80 153 [] := by
  intro A hi
  obtain ⟨hr, ⟨⟨a1, a2, a3⟩, -⟩⟩ := id hi
  have ho := hi.2.2.1.1
  by_cases h0 : A 0 3 = 0
  · refine ⟨-3, A, A, ?_, ?_, hi⟩
    · rw [zC_of zh80]
      exact (b80_0 (f1 := nI (A 0 3)) (o_gf o_0 rfl)).trans ((i_eq0 h0).trans b80_7)
    · rw [zC_of zh153]
      exact (b153_0 gR5).trans ((i_eq0 (by omega)).trans b153_7)
  have hs := a3 (by omega)
  have hF : ∀ c i, (c = 0 ∨ (17 ≤ c ∧ c ≠ 69)) → cpS (kpA A 1) 17 1 c i = kpA A 1 c i := fun c i hc => by
    unfold cpS
    rw [if_neg (by omega)]
  obtain ⟨f1, f2, f3⟩ := iv_b hi hF
  have hF1 : zRR (cpS (kpA A 1) 17 1) 1 (A 74) := zRR_move (fun t i ht => by
    unfold cpS
    rw [if_pos (by omega), kp_off ho (by omega)]
    exact zAe (by omega) rfl) (fun _ _ => rfl) hs
  have e74 : ∀ i, rcA (cpS (kpA A 1) 17 1) 74 i = A 74 i := fun i => by rw [rc_off (by omega) (by omega), hF 74 i (by omega), kp_off ho (by omega)]
  have hov : ovA (rcA (cpS (kpA A 1) 17 1)) 71 0 74 0 190 = sb (rcA (cpS (kpA A 1) 17 1)) (fun i => if i < 190 then A 74 i else A 71 i) := by
    funext c i
    unfold ovA sb
    by_cases e : c = 71
    · rw [if_pos e]
      by_cases e2 : i < 190
      · rw [if_pos (by omega), e74]
        exact (congrArg (A 74) (by omega)).trans (if_pos e2).symm
      · rw [if_neg (by omega), e, f2]
        exact (if_neg e2).symm
    · rw [if_neg (by omega), if_neg e]
  have hF2 : zRR (cpS (kpA A 1) 17 1) 1 (fun i => if i < 190 then A 74 i else A 71 i) := zRR_move (fun _ _ _ => rfl) (fun i hi => if_pos hi) hF1
  refine ⟨nI (A 74 0), cpS (kpA A 1) 17 1, sb (rcA (cpS (kpA A 1) 17 1)) (fun i => if i < 190 then A 74 i else A 71 i), ?_, ?_, iv_rec hi hF hF2⟩
  · rw [zC_of zh80]
    refine (b80_0 (f1 := nI (A 0 3)) (o_gf o_0 rfl)).trans ((i_ne0 h0 (by omega)).trans ?_)
    exact b80_10 (f6 := nI (A 74 0)) (o_gf o_0 rfl) (o_gf o_0 rfl) (o_ob o_25) (keep1 hi) (o_gf o_0 rfl) (o_gf o_0 rfl) (o_ob (o_st z1)) (s_copyFrom z1 z17 (by omega)) (o_gf o_0 rfl) (by rw [s_gf 1 z1 (by omega), rr_n hF1])
  · rw [zC_of zh153]
    have e5 : cpS (kpA A 1) 17 1 70 5 = A 70 5 := by rw [hF 70 5 (by omega), kp_off ho (by omega)]
    refine (b153_0 gR5).trans ((i_ne0 (by omega) (by omega)).trans ((b153_10 oR (r_record f3)).trans ?_))
    refine (zloopW (W := fun j => wd (ovA (rcA (cpS (kpA A 1) 17 1)) 71 0 74 0 j)) (scr := scr) (mi := 153) (pc := 16) (st := []) (L := fun j => [some (.ref 70), some (.int (nI j))]) 190 (by rw [ov_0]) (fun j hj => ?_)).trans ?_
    · refine b153_16.trans ((i_lt hj (by omega)).trans ((b153_23 (f3 := nI (rcA (cpS (kpA A 1) 17 1) 74 j)) gR0 gR4 (by rw [w_al zra74 (by omega) (by omega), ov_ne (by omega)]) (by rw [w_as _ zra71 (by omega) (by omega)])).trans ?_))
      have := ov_s (A := rcA (cpS (kpA A 1) 17 1)) (k := 71) (d := 0) (j := 74) (s := 0) (n := j) (by omega)
      rw [Nat.zero_add] at this
      rw [n_add, this]
    · refine b153_16.trans ((i_nlt (by omega) (by omega)).trans ?_)
      rw [hov]
      exact b153_41 gR0 (aR' (by omega))
theorem op_undo : zOP scr 78 151 [] := by
  intro A hi
  obtain ⟨hr, ⟨⟨a1, a2, a3⟩, ⟨ho, p4, p5⟩, ⟨⟨t1, t2⟩, t3, t4⟩⟩⟩ := id hi
  have h5 := ho.1
  by_cases h0 : A 25 1 = 0
  · refine ⟨-3, A, A, ?_, ?_, hi⟩
    · rw [zC_of zh78]
      exact (b78_0 (o_gf o_0 rfl) p_gf).trans ((i_eq0 h0).trans b78_10)
    · rw [zC_of zh151]
      exact (b151_0 gR3).trans ((i_eq0 (by omega)).trans b151_7)
  have hz := ho.2.1 (A 25 1 - 1) (by omega)
  have hz1 := hz.1
  unfold zsb at hz1
  have l1 : ∀ c i, ¬ (1 ≤ c ∧ c < 9) → ¬ (c = 25 ∧ i = 1) → tbA A 1 c i = A c i := fun c i h1 h2 => by
    unfold tbA cpS
    rw [if_neg (by omega), up_ne h2]
  have l2 : ∀ c i, ¬ (1 ≤ c ∧ c < 9) → ¬ (c = 25 ∧ i = 1) → c ≠ 71 → ¬ (c = 70 ∧ i = 3) → ovA (up (tbA A 1) 70 3 (A 25 1 - 1)) 71 0 73 (190 * (A 25 1 - 1)) 190 c i = A c i := fun c i h1 h2 h3 h4 => by
    rw [ov_ne h3, up_ne h4, l1 c i h1 h2]
  have e25 : tbA A 1 25 1 = A 25 1 - 1 := by
    unfold tbA cpS
    rw [if_neg (by omega), up_eq]
  have w25 : ovA (up (tbA A 1) 70 3 (A 25 1 - 1)) 71 0 73 (190 * (A 25 1 - 1)) 190 25 1 = A 25 1 - 1 := by rw [ov_ne (by omega), up_ne (by omega), e25]
  have w26 : ∀ i, ovA (up (tbA A 1) 70 3 (A 25 1 - 1)) 71 0 73 (190 * (A 25 1 - 1)) 190 26 i = A 26 i := fun i => l2 _ _ (by omega) (by omega) (by omega) (by omega)
  have w1 : ∀ t i, t < 8 → ovA (up (tbA A 1) 70 3 (A 25 1 - 1)) 71 0 73 (190 * (A 25 1 - 1)) 190 (1 + t) i = A (A 26 (A 25 1 - 1) + t) i := fun t i ht => by
    rw [ov_ne (by omega), up_ne (by omega)]
    unfold tbA cpS
    rw [if_pos (by omega), up_ne (by omega)]
    exact zAe (by omega) rfl
  have w71 : ∀ i, i < 190 → ovA (up (tbA A 1) 70 3 (A 25 1 - 1)) 71 0 73 (190 * (A 25 1 - 1)) 190 71 i = A 73 (190 * (A 25 1 - 1) + i) := fun i hi => by
    unfold ovA
    rw [if_pos (by omega), up_ne (by omega), l1 _ _ (by omega) (by omega)]
    exact congrArg (A 73) (by omega)
  have w67 : ovA (up (tbA A 1) 70 3 (A 25 1 - 1)) 71 0 73 (190 * (A 25 1 - 1)) 190 67 1 = A 67 1 := l2 _ _ (by omega) (by omega) (by omega) (by omega)
  have w03 : ovA (up (tbA A 1) 70 3 (A 25 1 - 1)) 71 0 73 (190 * (A 25 1 - 1)) 190 0 3 = A 0 3 := l2 _ _ (by omega) (by omega) (by omega) (by omega)
  refine ⟨nI (A 25 1 - 1), tbA A 1, ovA (up (tbA A 1) 70 3 (A 25 1 - 1)) 71 0 73 (190 * (A 25 1 - 1)) 190, ?_, ?_, ⟨zRR_move w1 w71 (p5 _ (by omega)), ⟨?_, ?_, fun q => ?_⟩, ⟨⟨?_, fun i hi => ?_, fun i j hi hj he => ?_⟩, ?_, fun k hk => ?_⟩, ⟨⟨?_, fun i hi => ?_⟩, ?_, fun i hi => ?_⟩⟩⟩
  · rw [zC_of zh78]
    refine (b78_0 (o_gf o_0 rfl) p_gf).trans ((i_ne0 h0 (by omega)).trans ?_)
    exact b78_13 (f4 := nI (A 25 1 - 1)) (o_gf o_0 rfl) (o_gf o_0 rfl) (o_ob o_25) (p_takeBack z1 (by omega) ho (by omega)) (o_gf o_0 rfl) (by rw [p_gf, e25])
  · rw [zC_of zh151]
    have e3 : tbA A 1 70 3 = A 25 1 := by rw [l1 _ _ (by omega) (by omega), p4]
    refine (b151_0 gR3).trans ?_
    rw [e3]
    refine (i_ne0 h0 (by omega)).trans ((b151_10 (f1 := nI (A 25 1)) (by rw [gR3, e3]) (by rw [n_sub (by omega), pR 3 _ (by omega)])).trans ?_)
    refine (zloopW (W := fun j => wd (ovA (up (tbA A 1) 70 3 (A 25 1 - 1)) 71 0 73 (190 * (A 25 1 - 1)) j)) (scr := scr) (mi := 151) (pc := 22) (st := []) (L := fun j => [some (.ref 70), some (.int (nI j))]) 190 (by rw [ov_0]) (fun j hj => ?_)).trans ?_
    · refine b151_22.trans ((i_lt hj (by omega)).trans ((b151_29 (f3 := nI (A 25 1 - 1)) (f4 := nI (up (tbA A 1) 70 3 (A 25 1 - 1) 73 (190 * (A 25 1 - 1) + j))) gR0 gR2 (by rw [gR3, ov_ne (by omega), up_eq]) (by rw [n_mul, n_add, w_al zra73 (by omega) (by omega), ov_ne (by omega)]) (by rw [w_as _ zra71 (by omega) (by omega)])).trans ?_))
      have := ov_s (A := up (tbA A 1) 70 3 (A 25 1 - 1)) (k := 71) (d := 0) (j := 73) (s := 190 * (A 25 1 - 1)) (n := j) (by omega)
      rw [Nat.zero_add] at this
      rw [n_add, this]
    · exact b151_22.trans ((i_nlt (by omega) (by omega)).trans (b151_56 (by rw [gR3, ov_ne (by omega), up_eq])))
  · rw [w03, l2 70 5 (by omega) (by omega) (by omega) (by omega)]; exact a1
  · rw [w03]; exact a2
  · rw [w03] at q
    exact zRR_move (fun t i ht => l2 _ _ (by omega) (by omega) (by omega) (by omega)) (fun i _ => l2 _ _ (by omega) (by omega) (by omega) (by omega)) (a3 q)
  · rw [w25]; omega
  · rw [w26]; exact ho.2.1 i hi
  · rw [w26, w26] at he; exact ho.2.2 i j hi hj he
  · rw [w25, ov_ne (by omega), up_eq]
  · rw [w25] at hk
    have hzk := ho.2.1 k (by omega)
    have hzk1 := hzk.1
    unfold zsb at hzk1
    rw [w26]
    exact zRR_move (fun t i ht => l2 _ _ (by omega) (by omega) (by omega) (by omega)) (fun i _ => l2 _ _ (by omega) (by omega) (by omega) (by omega)) (p5 k (by omega))
  · rw [w67]; exact t1
  · rw [w67] at hi
    rw [l2 68 _ (by omega) (by omega) (by omega) (by omega)]; exact t2 i hi
  · rw [w67, l2 70 7 (by omega) (by omega) (by omega) (by omega)]; exact t3
  · rw [w67] at hi
    rw [l2 68 _ (by omega) (by omega) (by omega) (by omega), l2 75 _ (by omega) (by omega) (by omega) (by omega)]; exact t4 i hi
end OG
