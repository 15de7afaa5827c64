section S5
variable {A B : Nat → Nat → Nat} {p q h : Nat} {scr : List Int32}
theorem rb_off {c i : Nat} (h2 : c ≠ p + 2) (h3 : c ≠ p + 3) : rbA A p h c i = A c i := by
  simp only [rbA]
  repeat rw [if_neg (by omega)]
set_option maxHeartbeats 4000000 in
theorem s_removeHeir (hp : zsb p) (ho : cOk A p) (hh : h < A p 1) : zC scr 29 [.ref p, .int (nI h)] (wd A) = some (none, wd (rhA A p h)) := by
  obtain ⟨hm, hs, hn, hw, -⟩ := id ho
  have hpl : plc A p h (A p 1 - 1) 0 ≤ A p 1 - 1 := by
    have := plc_le (A := A) (p := p) h (A p 1 - 1) 0
    omega
  have e1 : rbA A p h p 1 = A p 1 := rb_off (by omega) (by omega)
  have e6 : ∀ i, rbA A p h (p + 6) i = A (p + 6) i := fun i => rb_off (by omega) (by omega)
  have hplo : zC scr 30 [.ref p, .int (nI h)] (wd (rbA A p h)) = some (some (.int (nI (plc A p h (A p 1 - 1) 0))), wd (rbA A p h)) := by
    have := s_placeOf (scr := scr) (A := rbA A p h) hp (h := h) (by omega) (by omega) (fun i hi => by rw [e6]; have := hw i (by omega); omega)
    rw [e1, plc_congr e6] at this
    exact this
  rw [zC_of zh29]
  refine (b29_0 (f4 := nI (A p 1)) (f6 := nI (A p 1)) (f8 := nI (A p 1)) (f9 := nI (A p 1)) (o_gf (o_st hp) rfl) (o_ob (o_mb hp)) (m_removeBag hp hm (by omega)) (o_gf (o_st hp) rfl) (o_ob (o_st hp)) hplo
    (by rw [s_gf 1 hp (by omega), e1]) (by rw [n_sub (by omega)]; exact m_moveBack (zw6 hp) (by show 6 < _; omega) (by omega) (by show _ < 6; omega)) (o_gf (o_st hp) rfl)
    (by rw [s_gf 1 hp (by omega)]; simp only [mvA]; rw [if_neg (by omega), if_neg (by omega), e1]) (by rw [n_sub (by omega)]; exact m_moveBack (zw4 hp) (by show 6 < _; omega) (by omega) (by show _ < 6; omega)) (o_gf (o_st hp) rfl)
    (by rw [s_gf 1 hp (by omega)]; simp only [mvA]; (repeat rw [if_neg (by omega)]); rw [e1]) (by rw [n_sub (by omega)]; exact m_moveBack (zw5 hp) (by show 6 < _; omega) (by omega) (by show _ < 6; omega))
    (by rw [s_gf 1 hp (by omega)]; simp only [mvA]; (repeat rw [if_neg (by omega)]); rw [e1]) (by rw [n_sub (by omega)]; exact s_pf 1 _ hp (by omega))).trans ?_
  -- the loop over the order
  have hloop : ∀ B : Nat → Nat → Nat, B p 1 = A p 1 - 1 → (∀ i, i < A p 1 - 1 → B (p + 6) i < 6) → zd scr 29 66 [some (.ref p), some (.int (nI h)), some (.int (nI 0))] [] (wd B) = some (none, wd (fun c i => if c = p + 6 ∧ i < A p 1 - 1 ∧ h < B (p + 6) i then B (p + 6) i - 1 else B c i)) := by
    intro B hB1 hB6
    refine (zloopA (scr := scr) (mi := 29) (pc := 66) (st := []) (L := fun j => [some (.ref p), some (.int (nI h)), some (.int (nI j))]) (W := fun j c i => if c = p + 6 ∧ i < j ∧ h < B (p + 6) i then B (p + 6) i - 1 else B c i) (A p 1 - 1) (by funext c i; exact if_neg (by omega)) (fun j hj => ?_)).trans ?_
    · have hb := hB6 j (by omega)
      refine (b29_66 (f1 := nI (A p 1 - 1)) (by rw [s_gf 1 hp (by omega)]; rw [if_neg (by omega), hB1])).trans ?_
      rw [i_lt hj (by omega)]
      refine (b29_74 (f2 := nI (B (p + 6) j)) (o_gf (o_st hp) rfl) (by rw [w_al (zw6 hp) (by show j < 6; omega) (by show 6 < _; omega), if_neg (by omega)])).trans ?_
      by_cases c1 : h < B (p + 6) j
      · rw [i_lt c1 (by omega)]
        refine (b29_84 (f2 := nI (B (p + 6) j)) (o_gf (o_st hp) rfl) (by rw [w_al (zw6 hp) (by show j < 6; omega) (by show 6 < _; omega), if_neg (by omega)]) (by rw [n_sub (by omega)]; exact w_as _ (zw6 hp) (by show j < 6; omega) (by show 6 < _; omega))).trans ?_
        rw [n_add]
        refine congrArg (fun w => zd scr 29 66 _ [] w) (congrArg wd ?_)
        funext c i
        simp only [up]
        by_cases c2 : c = p + 6 ∧ i = j
        · obtain ⟨rfl, rfl⟩ := c2
          rw [if_pos (by omega), if_pos (by omega)]
        · rw [if_neg c2]
          by_cases c3 : c = p + 6 ∧ i < j ∧ h < B (p + 6) i
          · rw [if_pos c3, if_pos (by omega)]
          · rw [if_neg c3, if_neg (by omega)]
      · rw [i_nlt c1 (by omega)]
        refine b29_94.trans ?_
        rw [n_add]
        refine congrArg (fun w => zd scr 29 66 _ [] w) (congrArg wd ?_)
        funext c i
        by_cases c3 : c = p + 6 ∧ i < j ∧ h < B (p + 6) i
        · rw [if_pos c3, if_pos (by omega)]
        · rw [if_neg c3]
          by_cases c4 : i = j
          · subst c4; rw [if_neg (by omega)]
          · rw [if_neg (by omega)]
    · refine (b29_66 (f1 := nI (A p 1 - 1)) (by rw [s_gf 1 hp (by omega)]; rw [if_neg (by omega), hB1])).trans ?_
      rw [i_nlt (by omega) (by omega)]
      exact b29_100
  obtain ⟨F, hF⟩ : ∃ F, F = up (mvA (mvA (mvA (rbA A p h) (p + 6) (plc A p h (A p 1 - 1) 0) (A p 1 - 1)) (p + 4) h (A p 1 - 1)) (p + 5) h (A p 1 - 1)) p 1 (A p 1 - 1) := ⟨_, rfl⟩
  rw [← hF]
  generalize hpe : plc A p h (A p 1 - 1) 0 = pl at hpl hF ⊢
  have hF1 : F p 1 = A p 1 - 1 := by rw [hF]; simp [up]
  have hF6 : ∀ i, F (p + 6) i = if pl ≤ i ∧ i < A p 1 - 1 then A (p + 6) (i + 1) else if i = A p 1 - 1 then A (p + 6) pl else A (p + 6) i := by
    intro i
    rw [hF]
    simp only [up, mvA, true_and]
    repeat rw [if_neg (show ¬ (p + 6 = p ∧ i = 1) by omega)]
    repeat rw [if_neg (show ¬ (p + 6 = p + 5 ∧ h ≤ i ∧ i < A p 1 - 1) by omega)]
    repeat rw [if_neg (show ¬ (p + 6 = p + 5 ∧ i = A p 1 - 1) by omega)]
    repeat rw [if_neg (show ¬ (p + 6 = p + 4 ∧ h ≤ i ∧ i < A p 1 - 1) by omega)]
    repeat rw [if_neg (show ¬ (p + 6 = p + 4 ∧ i = A p 1 - 1) by omega)]
    rw [e6, e6, e6]
  have hF4 : ∀ i, F (p + 4) i = if h ≤ i ∧ i < A p 1 - 1 then A (p + 4) (i + 1) else if i = A p 1 - 1 then A (p + 4) h else A (p + 4) i := by
    intro i
    have e4 : ∀ i, mvA (rbA A p h) (p + 6) pl (A p 1 - 1) (p + 4) i = A (p + 4) i := fun i => by
      simp only [mvA]
      rw [if_neg (by omega), if_neg (by omega)]
      exact rb_off (by omega) (by omega)
    rw [hF]
    simp only [up]
    rw [if_neg (by omega)]
    simp only [mvA.eq_def (mvA (mvA (rbA A p h) (p + 6) pl (A p 1 - 1)) (p + 4) h (A p 1 - 1))]
    rw [if_neg (by omega), if_neg (by omega)]
    simp only [mvA.eq_def (mvA (rbA A p h) (p + 6) pl (A p 1 - 1)), true_and, e4]
  have hF5 : ∀ i, F (p + 5) i = if h ≤ i ∧ i < A p 1 - 1 then A (p + 5) (i + 1) else if i = A p 1 - 1 then A (p + 5) h else A (p + 5) i := by
    intro i
    have e5 : ∀ i, mvA (mvA (rbA A p h) (p + 6) pl (A p 1 - 1)) (p + 4) h (A p 1 - 1) (p + 5) i = A (p + 5) i := fun i => by
      simp only [mvA.eq_def (mvA (rbA A p h) (p + 6) pl (A p 1 - 1))]
      rw [if_neg (by omega), if_neg (by omega)]
      simp only [mvA]
      rw [if_neg (by omega), if_neg (by omega)]
      exact rb_off (by omega) (by omega)
    rw [hF]
    simp only [up]
    rw [if_neg (by omega)]
    simp only [mvA.eq_def (mvA (mvA (rbA A p h) (p + 6) pl (A p 1 - 1)) (p + 4) h (A p 1 - 1)), true_and, e5]
  have hFo : ∀ c i, c ≠ p + 4 → c ≠ p + 5 → c ≠ p + 6 → ¬ (c = p ∧ i = 1) → F c i = rbA A p h c i := by
    intro c i h4 h5 h6 h1
    rw [hF]
    simp only [up]
    rw [if_neg h1]
    simp only [mvA.eq_def (mvA (mvA (rbA A p h) (p + 6) pl (A p 1 - 1)) (p + 4) h (A p 1 - 1))]
    rw [if_neg (by omega), if_neg (by omega)]
    simp only [mvA.eq_def (mvA (rbA A p h) (p + 6) pl (A p 1 - 1))]
    rw [if_neg (by omega), if_neg (by omega)]
    simp only [mvA]
    rw [if_neg (by omega), if_neg (by omega)]
  clear hF hplo
  refine (hloop F hF1 (fun i hi => ?_)).trans ?_
  · rw [hF6]
    have h1 := hw i (by omega)
    have h2 := hw (i + 1) (by omega)
    (repeat' split) <;> omega
  · refine congrArg (fun w => some (none, w)) (congrArg wd ?_)
    funext c i
    simp only [rhA, hpe]
    by_cases c6 : c = p + 6
    · subst c6
      rw [if_neg (show ¬ (p + 6 = p ∧ i = 1) by omega)]
      by_cases ci : i < A p 1 - 1
      · rw [if_pos (show p + 6 = p + 6 ∧ i < A p 1 - 1 from ⟨rfl, ci⟩)]
        have e : F (p + 6) i = if pl ≤ i then A (p + 6) (i + 1) else A (p + 6) i := by
          rw [hF6]
          by_cases c2 : pl ≤ i
          · rw [if_pos ⟨c2, ci⟩, if_pos c2]
          · rw [if_neg (fun q => c2 q.1), if_neg (by omega), if_neg c2]
        rw [e]
        by_cases c3 : h < (if pl ≤ i then A (p + 6) (i + 1) else A (p + 6) i)
        · rw [if_pos ⟨rfl, ci, c3⟩, if_pos c3]
        · rw [if_neg (fun q => c3 q.2.2), if_neg c3]
      · rw [if_neg (fun q => ci q.2.1), if_neg (fun q => ci q.2), hF6, if_neg (fun q => ci q.2)]
        by_cases c2 : i = A p 1 - 1
        · rw [if_pos c2, if_pos ⟨rfl, c2⟩]
        · rw [if_neg c2, if_neg (fun q => c2 q.2), if_neg (by omega), if_neg (by omega), rb_off (by omega) (by omega)]
    · rw [if_neg (fun q => c6 q.1)]
      by_cases c1 : c = p ∧ i = 1
      · rw [if_pos c1, c1.1, c1.2, hF1]
      · rw [if_neg c1, if_neg (fun q => c6 q.1), if_neg (fun q => c6 q.1)]
        by_cases c4 : c = p + 4
        · subst c4
          rw [hF4]
          by_cases c2 : h ≤ i ∧ i < A p 1 - 1
          · (repeat first | rw [if_pos (by omega)] | rw [if_neg (by omega)])
          · by_cases c3 : i = A p 1 - 1
            · (repeat first | rw [if_pos (by omega)] | rw [if_neg (by omega)])
            · (repeat first | rw [if_pos (by omega)] | rw [if_neg (by omega)])
              rw [rb_off (by omega) (by omega)]
        · by_cases c5 : c = p + 5
          · subst c5
            rw [hF5]
            by_cases c2 : h ≤ i ∧ i < A p 1 - 1
            · (repeat first | rw [if_pos (by omega)] | rw [if_neg (by omega)])
            · by_cases c3 : i = A p 1 - 1
              · (repeat first | rw [if_pos (by omega)] | rw [if_neg (by omega)])
              · (repeat first | rw [if_pos (by omega)] | rw [if_neg (by omega)])
                rw [rb_off (by omega) (by omega)]
          · rw [hFo c i c4 c5 c6 c1, if_neg (fun q => by omega), if_neg (fun q => by omega)]
end S5
