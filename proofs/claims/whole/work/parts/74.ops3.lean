/-! the calls, on both sides: swap, whoVetoes, bag, hopper, vetoes, at -/
section OC
variable {A B : Nat → Nat → Nat} {b c : Nat → Nat} {p q h k g n m i j t : Nat} {scr : List Int32}
/-- a marble of a bag is found on both sides, or on none -/
theorem mar (hr : zRR A 1 b) (x y : Int32) : (∃ g, g < b 7 ∧ x = nI (own b g) ∧ y = nI (rk b (own b g) g) ∧ (∀ scr, zC scr 27 [.ref 1, .int x, .int y] (wd A) = some (some (.int (nI 1)), wd A)) ∧ ∀ scr (B : Nat → Nat → Nat), B 71 = b → zC scr 101 [.ref 70, .int x, .int y] (wd B) = some (some (.int (nI g)), wd B)) ∨ ((∀ scr, zC scr 27 [.ref 1, .int x, .int y] (wd A) = some (some (.int (nI 0)), wd A)) ∧ ∀ scr (B : Nat → Nat → Nat), B 71 = b → zC scr 101 [.ref 70, .int x, .int y] (wd B) = some (some (.int (-6)), wd B)) := by
  have h0 := hr.2.1.1
  have h7 := bO_7 hr.2.1
  have s1 := rr_n hr
  rcases s_heir_cases x (n := b 0) (by omega) with ⟨h, hh, rfl⟩ | hx
  · have hcn := hr.2.2.2.1.1 h (by omega)
    have hrl := rk_le (b := b) (h := h) (b 7)
    rcases s_heir_cases y (n := rk b h (b 7)) (by omega) with ⟨m, hm, rfl⟩ | hy
    · obtain ⟨g, g1, g2, g3⟩ := rk_find (b 7) hm
      refine Or.inl ⟨g, g1, by rw [g2], by rw [g2, g3], fun scr => ?_, fun scr B hB => ?_⟩
      · rw [s_hasMarble1 z1 hr.1.1 (by omega) (by omega), if_pos]
        rw [hcn]
        exact in_n hm (by omega)
      · subst hB
        exact r_find1 hr.2.1 hh g1 g2 g3
    · refine Or.inr ⟨fun scr => ?_, fun scr B hB => ?_⟩
      · rw [s_hasMarble1 z1 hr.1.1 (by omega) (by omega), if_neg]
        rw [hcn]; exact hy
      · subst hB
        refine r_find0 hr.2.1 (fun h2 hh2 e => ?_)
        rw [n_inj (by omega) (by omega)] at e
        rw [← e]; exact hy
  · refine Or.inr ⟨fun scr => s_hasMarble0 z1 y (by rw [s1]; exact hx), fun scr B hB => ?_⟩
    subst hB
    refine r_find0 hr.2.1 (fun h2 hh2 e => ?_)
    exact absurd (by rw [e]; exact in_n hh2 (by omega)) hx
theorem swerr (hr : zRR A 1 b) (x1 x2 x3 x4 : Int32) : (∃ e : Int32, e < 0 ∧ e ≠ 0 ∧ (∀ scr, zC scr 84 [.ref 0, .int x1, .int x2, .int x3, .int x4] (wd A) = some (some (.int e), wd A)) ∧ ∀ scr (B : Nat → Nat → Nat), B 71 = b → zC scr 129 [.ref 70, .int x1, .int x2, .int x3, .int x4] (wd B) = some (some (.int e), wd B)) ∨ (∃ g k, g < b 7 ∧ k < b 7 ∧ own b g ≠ own b k ∧ x1 = nI (own b g) ∧ x2 = nI (rk b (own b g) g) ∧ x3 = nI (own b k) ∧ x4 = nI (rk b (own b k) k) ∧ (∀ scr, zC scr 84 [.ref 0, .int x1, .int x2, .int x3, .int x4] (wd A) = some (some (.int (nI 0)), wd A)) ∧ (∀ scr (B : Nat → Nat → Nat), B 71 = b → zC scr 129 [.ref 70, .int x1, .int x2, .int x3, .int x4] (wd B) = some (some (.int (nI 0)), wd B)) ∧ (∀ scr (B : Nat → Nat → Nat), B 71 = b → zC scr 101 [.ref 70, .int x1, .int x2] (wd B) = some (some (.int (nI g)), wd B)) ∧ (∀ scr (B : Nat → Nat → Nat), B 71 = b → zC scr 101 [.ref 70, .int x3, .int x4] (wd B) = some (some (.int (nI k)), wd B))) := by
  have h0 := hr.2.1.1
  have h7 := bO_7 hr.2.1
  rcases mar hr x1 x2 with ⟨g, g1, g2, g3, g4, g5⟩ | ⟨m1, m2⟩
  case inr =>
    refine Or.inl ⟨-1, by decide, by decide, fun scr => ?_, fun scr B hB => ?_⟩
    · rw [zC_of zh84]
      refine (b84_0 (o_gf o_0 rfl) (o_ob (o_st z1)) (m1 scr)).trans ?_
      rw [if_pos (by decide)]; exact b84_25
    · rw [zC_of zh129]
      refine (b129_0 oR (m2 scr B hB)).trans ?_
      rw [if_pos rfl]; exact b129_23
  have ng : ¬ nI g = -6 := nI_ne6 (by omega)
  rcases mar hr x3 x4 with ⟨k, k1, k2, k3, k4, k5⟩ | ⟨m1, m2⟩
  case inr =>
    refine Or.inl ⟨-1, by decide, by decide, fun scr => ?_, fun scr B hB => ?_⟩
    · rw [zC_of zh84]
      refine (b84_0 (o_gf o_0 rfl) (o_ob (o_st z1)) (g4 scr)).trans ?_
      rw [if_neg (by decide)]
      refine (b84_12 (o_gf o_0 rfl) (o_ob (o_st z1)) (m1 scr)).trans ?_
      rw [if_pos (by decide)]; exact b84_25
    · rw [zC_of zh129]
      refine (b129_0 oR (g5 scr B hB)).trans ?_
      rw [if_neg ng]
      refine (b129_11 oR (m2 scr B hB)).trans ?_
      rw [if_pos rfl]; exact b129_23
  have nk : ¬ nI k = -6 := nI_ne6 (by omega)
  have ec : ∀ scr, zC scr 84 [.ref 0, .int x1, .int x2, .int x3, .int x4] (wd A) = if x1 = x3 then some (some (.int (-2)), wd A) else some (some (.int (nI 0)), wd A) := fun scr => by
    rw [zC_of zh84]
    refine (b84_0 (o_gf o_0 rfl) (o_ob (o_st z1)) (g4 scr)).trans ?_
    rw [if_neg (by decide)]
    refine (b84_12 (o_gf o_0 rfl) (o_ob (o_st z1)) (k4 scr)).trans ?_
    rw [if_neg (by decide)]
    refine b84_27.trans ?_
    by_cases e : x1 = x3
    · rw [if_pos e, if_pos e]; exact b84_32
    · rw [if_neg e, if_neg e]; exact b84_37
  have er : ∀ scr (B : Nat → Nat → Nat), B 71 = b → zC scr 129 [.ref 70, .int x1, .int x2, .int x3, .int x4] (wd B) = if x1 = x3 then some (some (.int (-2)), wd B) else some (some (.int (nI 0)), wd B) := fun scr B hB => by
    rw [zC_of zh129]
    refine (b129_0 oR (g5 scr B hB)).trans ?_
    rw [if_neg ng]
    refine (b129_11 oR (k5 scr B hB)).trans ?_
    rw [if_neg nk]
    refine b129_27.trans ?_
    by_cases e : x1 = x3
    · rw [if_pos e, if_pos e]; exact b129_32
    · rw [if_neg e, if_neg e]; exact b129_37
  by_cases e : x1 = x3
  · refine Or.inl ⟨-2, by decide, by decide, fun scr => ?_, fun scr B hB => ?_⟩
    · rw [ec, if_pos e]
    · rw [er scr B hB, if_pos e]
  · refine Or.inr ⟨g, k, g1, k1, fun q => e (by rw [g2, k2, q]), g2, g3, k2, k3, fun scr => ?_, fun scr B hB => ?_, g5, k5⟩
    · rw [ec, if_neg e]
    · rw [er scr B hB, if_neg e]
/-- the same veto -/
theorem vt_eq (hr : zRR A p b) (hg : g < b 7) (hk : k < b 7) : vtr A p (own b g) (rk b (own b g) g) (own b k) (rk b (own b k) k) = vtB b g k := by
  obtain ⟨-, -, s7, -, -, -, sv, sh⟩ := hr.2.2.2.2
  have m1 := rr_m hr hg
  have m2 := rr_m hr hk
  have e1 := (bO_g hr.2.1 hg).1
  have e2 := (bO_g hr.2.1 hk).1
  have h1 := sh _ e1
  have h2 := sh _ e2
  have a1 := hr.2.1.2.2.2.2.2.2.1 _ e1
  have a2 := hr.2.1.2.2.2.2.2.2.1 _ e2
  unfold vtr vtB mval
  rw [m1, m2, h1.1, h2.1, s7, sv _ a1.1, sv _ a2.1]
theorem at_120 (hr : zRR A p b) (hg : g < b 7) : own b g < b 0 ∧ rk b (own b g) g < zcnt A p (own b g) ∧ A (p + 3) (own b g) + rk b (own b g) g < 120 := by
  have h0 := hr.2.1.1
  have e1 := (bO_g hr.2.1 hg).1
  have hl := rk_lt (b := b) (g := g) (n := b 7) hg
  rw [← hr.2.2.2.1.1 _ (by omega)] at hl
  exact ⟨e1, hl, in_row hr.1.1 (by omega) hl⟩
theorem vtB_cases (ho : bOk b) (hg : g < b 7) (hk : k < b 7) : vtB b g k = -6 ∨ ∃ m, m < 4 ∧ 0 < b (8 + m) ∧ vtB b g k = nI m := by
  have e1 := (bO_g ho hg).1
  have e2 := (bO_g ho hk).1
  have a1 := (ho.2.2.2.2.2.2.1 _ e1).1
  have a2 := (ho.2.2.2.2.2.2.1 _ e2).1
  unfold vtB vto
  by_cases c1 : b 2 + cod b k % 10 < cod b g % 10 ∧ 0 < b (8 + b (12 + 2 * own b g))
  · rw [if_pos c1]; exact Or.inr ⟨_, a1, c1.2, rfl⟩
  · rw [if_neg c1]
    by_cases c2 : b 2 + cod b g % 10 < cod b k % 10 ∧ 0 < b (8 + b (12 + 2 * own b k))
    · rw [if_pos c2]; exact Or.inr ⟨_, a2, c2.2, rfl⟩
    · rw [if_neg c2]; exact Or.inl rfl
theorem op_whoVetoes (x1 x2 x3 x4 : Int32) : zOP scr 72 142 [.int x1, .int x2, .int x3, .int x4] := by
  intro A hi
  have hr := hi.1
  have h0 := hr.2.1.1
  rcases swerr hr x1 x2 x3 x4 with ⟨e, e1, e2, e3, e4⟩ | ⟨g, k, g1, k1, hne, rfl, rfl, rfl, rfl, e3, e4, e5, e6⟩
  · refine ⟨e, A, A, ?_, ?_, hi⟩
    · rw [zC_of zh72]
      refine (b72_0 (o_ob o_0) (e3 scr)).trans ?_
      rw [if_neg e2]; exact b72_16
    · rw [zC_of zh142]
      refine (b142_0 oR (e4 scr A rfl)).trans ?_
      rw [if_pos e1]; exact b142_16
  · have hg := at_120 hr g1
    have hk := at_120 hr k1
    have s1 := rr_n hr
    refine ⟨vtB (A 71) g k, A, A, ?_, ?_, hi⟩
    · rw [zC_of zh72]
      refine (b72_0 (o_ob o_0) (e3 scr)).trans ?_
      rw [if_pos (by decide)]
      have := s_vetoerV (scr := scr) z1 hr.1 (h := own (A 71) g) (g := own (A 71) k) (by omega) (by omega) hg.2.2 hk.2.2
      rw [vt_eq hr g1 k1] at this
      exact b72_19 (o_gf o_0 rfl) (o_ob (o_st z1)) this
    · rw [zC_of zh142]
      refine (b142_0 oR (e4 scr A rfl)).trans ?_
      rw [if_neg (by decide)]
      exact b142_21 oR (e5 scr A rfl) oR (e6 scr A rfl) oR (r_vetoer hr.2.1 g1 k1)
theorem op_swap (x1 x2 x3 x4 : Int32) : zOP scr 62 130 [.int x1, .int x2, .int x3, .int x4] := by
  intro A hi
  have hr := hi.1
  have h0 := hr.2.1.1
  rcases swerr hr x1 x2 x3 x4 with ⟨e, e1, e2, e3, e4⟩ | ⟨g, k, g1, k1, hne, rfl, rfl, rfl, rfl, e3, e4, e5, e6⟩
  · refine ⟨e, A, A, ?_, ?_, hi⟩
    · rw [zC_of zh62]
      refine (b62_0 (o_ob o_0) (e3 scr)).trans ?_
      rw [if_neg e2]; exact b62_16
    · rw [zC_of zh130]
      refine (b130_0 oR (e4 scr A rfl)).trans ?_
      rw [if_pos e1]; exact b130_16
  have hk := iv_kp hi
  have hag := at_120 hk g1
  have hak := at_120 hk k1
  have s1 := rr_n hk
  have hvt := vt_eq hk g1 k1
  have hgk : g ≠ k := fun q => hne (by rw [q])
  rcases vtB_cases hr.2.1 g1 k1 with hv | ⟨m, hm, hm2, hv⟩
  · have hF : ∀ c i, (c = 0 ∨ (17 ≤ c ∧ c ≠ 69)) → exA (kpA A 1) 1 (kpA A 1 (1 + 3) (own (A 71) g) + rk (A 71) (own (A 71) g) g) (kpA A 1 (1 + 3) (own (A 71) k) + rk (A 71) (own (A 71) k) k) c i = kpA A 1 c i := fun c i hc => by
      unfold exA trA
      rw [up_ne (by omega), up_ne (by omega), up_ne (by omega)]
    obtain ⟨f1, f2, f3⟩ := iv_b hi hF
    refine ⟨-6, exA (kpA A 1) 1 (kpA A 1 (1 + 3) (own (A 71) g) + rk (A 71) (own (A 71) g) g) (kpA A 1 (1 + 3) (own (A 71) k) + rk (A 71) (own (A 71) k) k), sb (rcA (exA (kpA A 1) 1 (kpA A 1 (1 + 3) (own (A 71) g) + rk (A 71) (own (A 71) g) g) (kpA A 1 (1 + 3) (own (A 71) k) + rk (A 71) (own (A 71) k) k))) (swB (A 71) g k), ?_, ?_, iv_rec hi hF (rr_swap hk g1 k1 hne)⟩
    · rw [zC_of zh62]
      refine (b62_0 (o_ob o_0) (e3 scr)).trans ?_
      rw [if_pos (by decide)]
      exact b62_19 (o_gf o_0 rfl) (o_gf o_0 rfl) (o_ob o_25) (keep1 hi) (o_gf o_0 rfl) (o_ob (o_st z1)) (s_exch0 z1 hk.1 (by omega) (by omega) hag.2.2 hak.2.2 (hvt.trans hv))
    · generalize exA (kpA A 1) 1 (kpA A 1 (1 + 3) (own (A 71) g) + rk (A 71) (own (A 71) g) g) (kpA A 1 (1 + 3) (own (A 71) k) + rk (A 71) (own (A 71) k) k) = F at f1 f2 f3
      rw [zC_of zh130]
      refine (b130_0 oR (e4 scr F f1)).trans ?_
      rw [if_neg (by decide)]
      have hvr := r_vetoer (scr := scr) (A := rcA F) (g := g) (k := k) (by rw [f2]; exact hr.2.1) (by rw [f2]; exact g1) (by rw [f2]; exact k1)
      rw [f2, hv] at hvr
      refine (b130_19 oR (r_record f3) oR (e5 scr _ f2) oR (e6 scr _ f2) oR hvr).trans ?_
      rw [if_pos rfl]
      have hsw := r_swaps (scr := scr) (A := rcA F) (g := g) (k := k) (by rw [f2]; exact hr.2.1) (by rw [f2]; exact g1) (by rw [f2]; exact k1) hgk
      rw [f2] at hsw
      exact b130_57 oR hsw
  · have hF : ∀ c i, (c = 0 ∨ (17 ≤ c ∧ c ≠ 69)) → vtA (kpA A 1) 1 m c i = kpA A 1 c i := fun c i hc => by
      unfold vtA
      rw [up_ne (by omega), up_ne (by omega)]
    obtain ⟨f1, f2, f3⟩ := iv_b hi hF
    have e8 := hk.2.2.2.2.2.2.2.2.2.2.1 m hm
    refine ⟨nI m, vtA (kpA A 1) 1 m, sb (rcA (vtA (kpA A 1) 1 m)) (ups (ups (A 71) (8 + m) (A 71 (8 + m) - 1)) 5 (A 71 5 + 1)), ?_, ?_, iv_rec hi hF (rr_veto hk hm)⟩
    · rw [zC_of zh62]
      refine (b62_0 (o_ob o_0) (e3 scr)).trans ?_
      rw [if_pos (by decide)]
      exact b62_19 (o_gf o_0 rfl) (o_gf o_0 rfl) (o_ob o_25) (keep1 hi) (o_gf o_0 rfl) (o_ob (o_st z1)) (s_exch1 z1 hk.1 (by omega) (by omega) hag.2.2 hak.2.2 hm (by rw [e8]; exact hm2) (hvt.trans hv))
    · generalize vtA (kpA A 1) 1 m = F at f1 f2 f3
      rw [zC_of zh130]
      refine (b130_0 oR (e4 scr F f1)).trans ?_
      rw [if_neg (by decide)]
      have hvr := r_vetoer (scr := scr) (A := rcA F) (g := g) (k := k) (by rw [f2]; exact hr.2.1) (by rw [f2]; exact g1) (by rw [f2]; exact k1)
      rw [f2, hv] at hvr
      refine (b130_19 oR (r_record f3) oR (e5 scr _ f2) oR (e6 scr _ f2) oR hvr).trans ?_
      rw [if_neg (nI_ne6 (by omega))]
      exact b130_68 (f2 := nI (A 71 (8 + m))) (f4 := nI (A 71 5)) gR0 (by rw [n_add, aR (by omega), f2]) (by rw [n_add, n_sub (by omega), sR _ (by omega), up71, f2]) gR0 (by rw [aR' (by omega), ups_ne (by omega)]) (by rw [n_add, sR' (by omega)])
theorem op_vetoes (x : Int32) : zOP scr 67 136 [.int x] := by
  intro A hi
  have hr := hi.1
  by_cases hx : ¬ x < 0 ∧ x < nI 4
  case neg =>
    refine ⟨-1, A, A, ?_, ?_, hi⟩
    · rw [zC_of zh67]
      refine (b67_0 (c_isMother x)).trans ?_
      rw [if_neg hx, if_pos (by decide)]; exact b67_7
    · rw [zC_of zh136]
      refine (b136_0 (r_isMother x)).trans ?_
      rw [if_neg hx, if_pos (by decide)]; exact b136_19
  obtain ⟨m, hm, rfl⟩ := (s_heir_cases x (n := 4) (by omega)).resolve_right (fun q => q hx)
  have e8 := hr.2.2.2.2.2.2.2.2.2.2.1 m hm
  refine ⟨nI (A 71 (8 + m)), A, A, ?_, ?_, hi⟩
  · rw [zC_of zh67]
    refine (b67_0 (c_isMother _)).trans ?_
    rw [if_pos hx, if_neg (by decide)]
    exact b67_9 (o_gf o_0 rfl) (o_gf (o_st z1) rfl) (by rw [w_al (zw7 z1) (by omega) (by omega), e8])
  · rw [zC_of zh136]
    refine (b136_0 (r_isMother _)).trans ?_
    rw [if_pos hx, if_neg (by decide)]
    exact b136_7 gR0 (by rw [n_add]; exact aR (by omega))
theorem r_in3 (x : Int32) (hn : n < 10000) : zC scr 87 [.int x, .int (nI 0), .int (nI n - nI 1)] (wd A) = some (some (.int (if ¬ x < 0 ∧ x < nI n then nI 1 else nI 0)), wd A) := by
  rw [r_in]
  exact congrArg (fun y => some (some (Value.int y), wd A)) (ite_iff (r_lt1 hn) _ _)
theorem op_at (x : Int32) : zOP scr 68 137 [.int x] := by
  intro A hi
  have hr := hi.1
  have h0 := hr.2.1.1
  have s1 := rr_n hr
  rcases s_heir_cases x (n := A 71 0) (by omega) with ⟨t, ht, rfl⟩ | hx
  · have hs := (hr.2.2.2.2.2.2.2.2.2.2.2 t ht).2.2
    refine ⟨nI (A 71 (24 + t)), A, A, ?_, ?_, hi⟩
    · rw [zC_of zh68]
      refine b68_0.trans ((i_neg (by omega)).trans ((b68_4 (o_gf o_0 rfl) (s_gf 1 z1 (by omega))).trans ((i_lt (by omega) (by omega)).trans ?_)))
      exact b68_17 (o_gf o_0 rfl) (o_gf (o_st z1) rfl) (by rw [w_al (zw6 z1) (by omega) (by omega), hs])
    · rw [zC_of zh137]
      refine (b137_0 gR0 (aR (by omega)) (r_in3 _ (by omega))).trans ?_
      rw [if_pos (in_n ht (by omega)), if_neg (by decide)]
      exact b137_16 gR0 (by rw [n_add]; exact aR (by omega))
  · refine ⟨-1, A, A, ?_, ?_, hi⟩
    · rw [zC_of zh68]
      refine b68_0.trans ?_
      by_cases c : x < 0
      · rw [if_pos c]; exact b68_15
      · rw [if_neg c]
        refine (b68_4 (o_gf o_0 rfl) (s_gf 1 z1 (by omega))).trans ((if_neg ?_).trans b68_15)
        rw [s1]
        exact fun q => hx ⟨c, q⟩
    · rw [zC_of zh137]
      refine (b137_0 gR0 (aR (by omega)) (r_in3 _ (by omega))).trans ?_
      rw [if_neg hx, if_pos (by decide)]; exact b137_28
theorem op_bag (x y z : Int32) : zOP scr 65 134 [.int x, .int y, .int z] := by
  intro A hi
  have hr := hi.1
  have h0 := hr.2.1.1
  have h7 := bO_7 hr.2.1
  rcases mar hr x y with ⟨g, g1, rfl, rfl, g4, g5⟩ | ⟨m1, m2⟩
  · have hag := at_120 hr g1
    have hm := rr_m hr g1
    have hc := bO_g hr.2.1 g1
    have hd := m_describe (scr := scr) (A := A) (h := own (A 71) g) (i := rk (A 71) (own (A 71) g) g) z1 (by omega) hag.2.2 (by rw [hm]; omega) z
    rw [hm] at hd
    refine ⟨if z = nI 0 then nI (cod (A 71) g / 10) else if z = nI 1 then nI (cod (A 71) g % 10) else -2, A, A, ?_, ?_, hi⟩
    · rw [zC_of zh65]
      refine (b65_0 (o_gf o_0 rfl) (o_ob (o_st z1)) (g4 scr)).trans ?_
      rw [if_neg (by decide)]
      exact b65_14 (o_gf o_0 rfl) (o_gf (o_st z1) rfl) (o_ob (o_mb z1)) hd
    · rw [zC_of zh134]
      refine (b134_0 oR (g5 scr A rfl)).trans ?_
      rw [if_neg (nI_ne6 (by omega))]
      refine b134_17.trans ?_
      by_cases c1 : z = nI 0
      · rw [if_pos (show z = 0 from c1), if_pos c1]; exact b134_21 oR (r_col2 hr.2.1 g1)
      · rw [if_neg (show ¬ z = 0 from c1), if_neg c1]
        refine b134_30.trans ?_
        by_cases c2 : z = nI 1
        · rw [if_pos c2, if_pos c2]; exact b134_35 oR (r_val2 hr.2.1 g1)
        · rw [if_neg c2, if_neg c2]; exact b134_44
  · refine ⟨-1, A, A, ?_, ?_, hi⟩
    · rw [zC_of zh65]
      refine (b65_0 (o_gf o_0 rfl) (o_ob (o_st z1)) (m1 scr)).trans ?_
      rw [if_pos (by decide)]; exact b65_12
    · rw [zC_of zh134]
      refine (b134_0 oR (m2 scr A rfl)).trans ?_
      rw [if_pos rfl]; exact b134_15
theorem op_hopper (x z : Int32) : zOP scr 66 135 [.int x, .int z] := by
  intro A hi
  have hr := hi.1
  have h6 := hr.2.1.2.2.2.1
  have hc6 := rr_6 hr
  have hhas := m_has (scr := scr) (A := A) (p := 1) (h := 6) z1 hr.1.1 (by omega) x
  rw [hc6] at hhas
  rcases s_heir_cases x (n := A 71 6) (by omega) with ⟨k, hk, rfl⟩ | hx
  · have hm := hr.2.2.2.1.2.2.2.1 k hk
    have hrow := in_row hr.1.1 (g := 6) (j := k) (by omega) (by omega)
    have hv := hr.2.1.2.2.2.2.2.2.2.1 k hk
    have hd := m_describe (scr := scr) (A := A) (h := 6) (i := k) z1 (by omega) hrow (by rw [hm]; omega) z
    rw [hm] at hd
    refine ⟨if z = nI 0 then nI (A 71 (30 + k) / 10) else if z = nI 1 then nI (A 71 (30 + k) % 10) else -2, A, A, ?_, ?_, hi⟩
    · rw [zC_of zh66]
      refine (b66_0 (o_gf o_0 rfl) (o_gf (o_st z1) rfl) (o_ob (o_mb z1)) hhas).trans ?_
      rw [if_pos (in_n hk (by omega)), if_neg (by decide)]
      exact b66_18 (o_gf o_0 rfl) (o_gf (o_st z1) rfl) (o_ob (o_mb z1)) hd
    · rw [zC_of zh135]
      refine (b135_0 gR0 (aR (by omega)) (r_in3 _ (by omega))).trans ?_
      rw [if_pos (in_n hk (by omega)), if_neg (by decide)]
      refine b135_19.trans ?_
      by_cases c1 : z = nI 0
      · rw [if_pos (show z = 0 from c1), if_pos c1]
        refine (b135_23 gR0 (by rw [n_add]; exact aR (by omega))).trans ?_
        rw [n_div (by omega) (by omega)]
      · rw [if_neg (show ¬ z = 0 from c1), if_neg c1]
        refine b135_38.trans ?_
        by_cases c2 : z = nI 1
        · rw [if_pos c2, if_pos c2]
          refine (b135_43 gR0 (by rw [n_add]; exact aR (by omega))).trans ?_
          rw [n_rem (by omega) (by omega)]
        · rw [if_neg c2, if_neg c2]; exact b135_58
  · refine ⟨-1, A, A, ?_, ?_, hi⟩
    · rw [zC_of zh66]
      refine (b66_0 (o_gf o_0 rfl) (o_gf (o_st z1) rfl) (o_ob (o_mb z1)) hhas).trans ?_
      rw [if_neg hx, if_pos (by decide)]; exact b66_16
    · rw [zC_of zh135]
      refine (b135_0 gR0 (aR (by omega)) (r_in3 _ (by omega))).trans ?_
      rw [if_neg hx, if_pos (by decide)]; exact b135_17
end OC
