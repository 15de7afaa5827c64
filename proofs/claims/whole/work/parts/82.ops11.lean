/-! the calls, on both sides: fairestRule -/
def spU (b : Nat → Nat) (r : Nat) : Nat := sprB (dvB (b 6) (ups b 1 r)).2 (msr (dvB (b 6) (ups b 1 r)).2 1)
section OK
variable {A B T W : Nat → Nat → Nat} {b c : Nat → Nat} {p q h k g n m i j t r : Nat} {scr : List Int32}
theorem spr_eq9 (hr : zRR A 9 b) : sprd A 9 3 = sprB b (msr b 1) := by
  unfold sprd sprB
  rw [rr_n hr]
  have he : ∀ h, h < b 0 → abt A 9 h 3 = msr b 1 h := fun h hh => (abt_n hr hh).2.1
  by_cases e : b 0 = 0
  · rw [if_pos e, if_pos e]
  · rw [if_neg e, if_neg e, zmax_congr (fun i hi => he i (by omega)), zmin_congr (fun i hi => he i (by omega))]
theorem spU_lt (ho : bOk (dvB (b 6) (ups b 1 r)).2) : spU b r ≤ 1080 := by
  unfold spU sprB
  have hmax : zmax (msr (dvB (b 6) (ups b 1 r)).2 1) ((dvB (b 6) (ups b 1 r)).2 0 - 1) < 1081 := zmax_lt (fun i => by have := msr_le (h := i) ho 1; omega) _
  split <;> omega
/-- the class's side: one rule tried -/
theorem c_under (hr : zRR W 1 b) (hn : 0 < b 0) (hr3 : r < 3) : ∃ V, (∀ c i, (c ≤ 8 ∨ 17 ≤ c) → V c i = W c i) ∧ bOk (dvB (b 6) (ups b 1 r)).2 ∧ zC scr 85 [.ref 0, .int (nI r)] (wd W) = some (some (.int (nI (spU b r))), wd V) := by
  have hT0 := rr_rule (x := r) (cp9 hr) hr3
  have e0 : ups b 1 r 0 = b 0 := ups_ne (by omega)
  have e6 : ups b 1 r 6 = b 6 := ups_ne (by omega)
  have dok := dvB_ok (b 6) (ups b 1 r) hT0.2.1 hT0.2.2.1 (by rw [e0]; exact hn)
  obtain ⟨dv1, dv2⟩ := rr_divide (b 6) _ _ hT0 (by rw [e0]; exact hn) (by rw [e6]; exact Nat.le_refl _)
  have hpl := s_playAll (scr := scr) (A := up (cpS W 1 9) 9 6 r) z9 hT0.1 (by rw [rr_n hT0, e0]; exact hn)
  rw [rr_6 hT0, e6] at hpl
  refine ⟨(dvN 9 (b 6) (up (cpS W 1 9) 9 6 r)).2, fun c i hc => by rw [dvN_off _ _ c i (by omega), up_ne (by omega), cp9_o hc], dok.1, ?_⟩
  have hsp := s_spread (scr := scr) z9 dv2.1 (k := 3) (by omega)
  rw [spr_eq9 dv2] at hsp
  rw [zC_of zh85]
  exact b85_0 (o_gf o_0 rfl) (o_gf o_0 rfl) (o_ob (o_st z9)) (s_copyFrom z9 z1 (by omega)) (o_gf o_0 rfl) (s_pf 6 _ z9 (by omega)) (o_gf o_0 rfl) (o_ob (o_st z9)) hpl (o_gf o_0 rfl) (o_ob (o_st z9)) hsp
end OK
section OL
variable {A B T W U : Nat → Nat → Nat} {b c : Nat → Nat} {p q h k g n m i j t r : Nat} {scr : List Int32}
/-- a rule tried gives the same for two rows that say the same -/
theorem spU_eq (h1 : zRR W 1 b) (h2 : zRR W 1 c) (hn : 0 < b 0) (hr3 : r < 3) : spU b r = spU c r ∧ spU b r ≤ 1080 := by
  have e0 : c 0 = b 0 := by rw [← rr_n h1, ← rr_n h2]
  obtain ⟨V, -, o1, v1⟩ := c_under (scr := []) h1 hn hr3
  obtain ⟨V2, -, o2, v2⟩ := c_under (scr := []) h2 (by omega) hr3
  have l1 := spU_lt o1
  have l2 := spU_lt o2
  have e := v1.symm.trans v2
  injection e with e
  injection e with e e'
  injection e with e
  injection e with e
  rw [n_inj (by omega) (by omega)] at e
  exact ⟨e, l1⟩
theorem r_under (hr : zRR U 1 (U 71)) (h72 : ∀ i, i < 190 → U 72 i = U 71 i) (hn : 0 < U 71 0) (hr3 : r < 3) : ∃ U' x, zRR U' 1 (U' 71) ∧ (∀ i, i < 190 → U' 72 i = U' 71 i) ∧ (∀ i, i < 190 → U' 71 i = U 71 i) ∧ (∀ c i, c ≠ 71 → U' c i = U c i) ∧ ∃ w1 w2, zas (wd U) 71 (nI 1) (nI r) = some w1 ∧ zob w1 70 6 = true ∧ zC scr 107 [.ref 70] w1 = some (some (.int x), w2) ∧ zob w2 70 6 = true ∧ zC scr 103 [.ref 70, .int (nI 1)] w2 = some (some (.int (nI (spU (U 71) r))), w2) ∧ zC scr 94 [.ref 70] w2 = some (none, wd U') := by
  have hR := rr_rule (x := r) hr hr3
  have e0 : ups (U 71) 1 r 0 = U 71 0 := ups_ne (by omega)
  have e6 : ups (U 71) 1 r 6 = U 71 6 := ups_ne (by omega)
  have dok := dvB_ok (U 71 6) (ups (U 71) 1 r) hR.2.1 hR.2.2.1 (by omega)
  have hdv := r_divides (scr := scr) (A := sb U (ups (U 71) 1 r)) hR.2.1 hR.2.2.1 (by rw [sb71]; omega)
  rw [sb71, sb_sb, e6] at hdv
  have hsp := r_spread (scr := scr) (A := sb U (dvB (U 71 6) (ups (U 71) 1 r)).2) (w := 1) dok.1 (by omega)
  have l71 : ∀ i, i < 190 → ovA (sb U (dvB (U 71 6) (ups (U 71) 1 r)).2) 71 0 72 0 190 71 i = U 71 i := fun i hi => by
    unfold ovA
    rw [if_pos (by omega), sb_off (by omega), h72 _ (by omega)]
    exact congrArg (U 71) (by omega)
  have lo : ∀ c i, c ≠ 71 → ovA (sb U (dvB (U 71 6) (ups (U 71) 1 r)).2) 71 0 72 0 190 c i = U c i := fun c i hc => by
    rw [ov_ne hc, sb_off hc]
  exact ⟨ovA (sb U (dvB (U 71 6) (ups (U 71) 1 r)).2) 71 0 72 0 190, nI (dvB (U 71 6) (ups (U 71) 1 r)).1, zRR_move (fun t i ht => lo _ _ (by omega)) (fun i hi => l71 i hi) hr, fun i hi => by rw [lo _ _ (by omega), l71 i hi, h72 i hi], l71, lo, wd (sb U (ups (U 71) 1 r)), wd (sb U (dvB (U 71 6) (ups (U 71) 1 r)).2), by rw [sR _ (by omega), up71], oR, hdv, oR, hsp, r_putBack⟩
end OL
