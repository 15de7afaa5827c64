/-! rounds on both sides -/
section RN
variable {A B : Nat → Nat → Nat} {b c : Nat → Nat} {p q h k g n m s : Nat}
theorem prs_spec (hv : ∀ i, i < A p 1 → zval A p (A (p + 6) i) < 1081) : ∀ t, t ≤ A p 1 → (prs A p s t = (0, 1081) ∧ ∀ i, i < t → ¬ s / 2 ^ A (p + 6) i % 2 = 0) ∨ ∃ j, j < t ∧ s / 2 ^ A (p + 6) j % 2 = 0 ∧ prs A p s t = (A (p + 6) j, zval A p (A (p + 6) j)) ∧ ∀ i, i < t → s / 2 ^ A (p + 6) i % 2 = 0 → (zval A p (A (p + 6) j) < zval A p (A (p + 6) i) ∨ (zval A p (A (p + 6) j) = zval A p (A (p + 6) i) ∧ j ≤ i)) := by
  intro t
  induction t with
  | zero => intro _; exact Or.inl ⟨rfl, fun i hi => by omega⟩
  | succ t ih =>
    intro ht
    have hvt := hv t (by omega)
    rcases ih (by omega) with ⟨e, hn⟩ | ⟨j, j1, j2, e, hj⟩
    · by_cases c : s / 2 ^ A (p + 6) t % 2 = 0
      · refine Or.inr ⟨t, by omega, c, ?_, fun i hi hu => ?_⟩
        · rw [prs, e, if_pos ⟨c, hvt⟩]
        · by_cases e2 : i = t
          · subst e2; exact Or.inr ⟨rfl, Nat.le_refl _⟩
          · exact absurd hu (hn i (by omega))
      · refine Or.inl ⟨?_, fun i hi => ?_⟩
        · rw [prs, e, if_neg (fun q => c q.1)]
        · by_cases e2 : i = t
          · subst e2; exact c
          · exact hn i (by omega)
    · by_cases c : s / 2 ^ A (p + 6) t % 2 = 0 ∧ zval A p (A (p + 6) t) < zval A p (A (p + 6) j)
      · refine Or.inr ⟨t, by omega, c.1, ?_, fun i hi hu => ?_⟩
        · rw [prs, e, if_pos c]
        · by_cases e2 : i = t
          · subst e2; exact Or.inr ⟨rfl, Nat.le_refl _⟩
          · have := hj i (by omega) hu
            have := c.2
            omega
      · refine Or.inr ⟨j, by omega, j2, ?_, fun i hi hu => ?_⟩
        · rw [prs, e, if_neg c]
        · by_cases e2 : i = t
          · subst e2
            have : ¬ zval A p (A (p + 6) i) < zval A p (A (p + 6) j) := fun q => c ⟨hu, q⟩
            omega
          · exact hj i (by omega) hu
theorem po_spec : ∀ d, d ≤ b 0 → (po b s d = none ∧ ∀ i, b 0 - d ≤ i → i < b 0 → ¬ s / 2 ^ b (24 + i) % 2 = 0) ∨ ∃ j, b 0 - d ≤ j ∧ j < b 0 ∧ s / 2 ^ b (24 + j) % 2 = 0 ∧ po b s d = some (b (24 + j)) ∧ ∀ i, b 0 - d ≤ i → i < b 0 → s / 2 ^ b (24 + i) % 2 = 0 → (wrt b (b (24 + j)) < wrt b (b (24 + i)) ∨ (wrt b (b (24 + j)) = wrt b (b (24 + i)) ∧ j ≤ i)) := by
  intro d
  induction d with
  | zero => intro _; exact Or.inl ⟨rfl, fun i hi hi2 => by omega⟩
  | succ d ih =>
    intro hd
    have ei : ∀ i, b 0 - (d + 1) ≤ i → i = b 0 - 1 - d ∨ b 0 - d ≤ i := fun i hi => by omega
    rcases ih (by omega) with ⟨e, hn⟩ | ⟨j, j1, j2, j3, e, hj⟩
    · by_cases c : s / 2 ^ b (24 + (b 0 - 1 - d)) % 2 = 0
      · refine Or.inr ⟨b 0 - 1 - d, by omega, by omega, c, ?_, fun i hi hi2 hu => ?_⟩
        · rw [po, e, if_pos ⟨c, Or.inl rfl⟩]
        · rcases ei i hi with e2 | e2
          · subst e2; exact Or.inr ⟨rfl, Nat.le_refl _⟩
          · exact absurd hu (hn i e2 hi2)
      · refine Or.inl ⟨?_, fun i hi hi2 => ?_⟩
        · rw [po, e, if_neg (fun q => c q.1)]
        · rcases ei i hi with e2 | e2
          · subst e2; exact c
          · exact hn i e2 hi2
    · by_cases c : s / 2 ^ b (24 + (b 0 - 1 - d)) % 2 = 0 ∧ wrt b (b (24 + (b 0 - 1 - d))) ≤ wrt b (b (24 + j))
      · refine Or.inr ⟨b 0 - 1 - d, by omega, by omega, c.1, ?_, fun i hi hi2 hu => ?_⟩
        · rw [po, e, if_pos ⟨c.1, Or.inr c.2⟩]
        · rcases ei i hi with e2 | e2
          · subst e2; exact Or.inr ⟨rfl, Nat.le_refl _⟩
          · have := hj i e2 hi2 hu
            have := c.2
            omega
      · refine Or.inr ⟨j, by omega, j2, j3, ?_, fun i hi hi2 hu => ?_⟩
        · rw [po, e, if_neg]
          rintro ⟨q1, q2 | q2⟩
          · cases q2
          · exact c ⟨q1, q2⟩
        · rcases ei i hi with e2 | e2
          · subst e2
            have : ¬ wrt b (b (24 + (b 0 - 1 - d))) ≤ wrt b (b (24 + j)) := fun q => c ⟨hu, q⟩
            omega
          · exact hj i e2 hi2 hu
/-- both find the same one -/
theorem rr_poorest (hr : zRR A p b) (hc : btc s (b 0) < b 0) : (prs A p s (A p 1)).1 = (po b s (b 0)).getD 0 := by
  obtain ⟨o, ob, om, hm, ⟨s1, -, -, -, -, -, -, sh⟩⟩ := hr
  have hn := ob.1
  have eo : ∀ i, i < b 0 → A (p + 6) i = b (24 + i) := fun i hi => (sh i hi).2.2
  have bo : ∀ i, i < b 0 → b (24 + i) < b 0 := fun i hi => (ob.2.2.2.2.2.2.1 i hi).2.2
  have ev : ∀ i, i < b 0 → zval A p (A (p + 6) i) = wrt b (b (24 + i)) := fun i hi => by
    rw [eo i hi]
    exact rm_val hm (by have := bo i hi; omega)
  obtain ⟨x, hx, -⟩ := po_some (s := s) ob om hc
  have h1 := prs_spec (A := A) (p := p) (s := s) (fun i hi => by rw [ev i (by omega)]; have := wrt_le (h := b (24 + i)) ob; omega) (A p 1) (Nat.le_refl _)
  have h2 := po_spec (b := b) (s := s) (b 0) (Nat.le_refl _)
  rw [s1] at h1 ⊢
  rcases h2 with ⟨e, -⟩ | ⟨j, -, j2, j3, e, hj⟩
  · rw [hx] at e; cases e
  rcases h1 with ⟨-, hno⟩ | ⟨i, i1, i2, e2, hi⟩
  · exact absurd (by rw [eo j j2]; exact j3) (hno j j2)
  · have a1 := hi j j2 (by rw [eo j j2]; exact j3)
    rw [eo i i1] at i2
    have a2 := hj i (by omega) i1 i2
    rw [ev i i1, ev j j2] at a1
    have : i = j := by omega
    subst this
    rw [e2, e]
    exact eo i i1
theorem rr_n (hr : zRR A p b) : A p 1 = b 0 := hr.2.2.2.2.1
theorem rr_6 (hr : zRR A p b) : zcnt A p 6 = b 6 := hr.2.2.2.1.2.1
/-- the marbles of a round -/
theorem rr_gvO (hr : zRR A p b) : ∀ k, k ≤ b 0 → k ≤ b 6 → zRR (gvO A p k) p (gvS b 0 k).1 := by
  intro k
  induction k with
  | zero => intro _ _; exact hr
  | succ k ih =>
    intro k1 k2
    obtain ⟨-, -, i3, i4, -⟩ := gvS_ok hr.2.1 hr.2.2.1 0 k (by omega) (by omega)
    have h0 := hr.2.1.1
    have e := (hr.2.2.2.2.2.2.2.2.2.2.2 k (by omega)).2.2
    have hb := (hr.2.1.2.2.2.2.2.2.1 k (by omega)).2.2
    have := rr_give (h := A (p + 6) k) (ih (by omega) (by omega)) (by rw [i3 0 (by omega) (by omega) (by omega)]; omega) (by rw [i4]; omega)
    have e2 : (gvS b 0 (k + 1)).1 = gvB (gvS b 0 k).1 (A (p + 6) k) := by
      show gvB (gvS b 0 k).1 (if 0 = 0 then (gvS b 0 k).1 (24 + k) else _) = _
      rw [if_pos rfl, i3 _ (by omega) (by omega) (by omega), e]
    rw [e2]
    exact this
theorem rr_gvP (hr : zRR A p b) : ∀ k, k ≤ b 0 → k ≤ b 6 → zRR (gvP A p k).1 p (gvS b 1 k).1 ∧ (gvP A p k).2 = (gvS b 1 k).2 := by
  intro k
  induction k with
  | zero => intro _ _; exact ⟨hr, rfl⟩
  | succ k ih =>
    intro k1 k2
    obtain ⟨ih1, ih2⟩ := ih (by omega) (by omega)
    obtain ⟨i1, i2, i3, i4, i5, i6, i7, i8⟩ := gvS_ok hr.2.1 hr.2.2.1 1 k (by omega) (by omega)
    have i0 := i3 0 (by omega) (by omega) (by omega)
    have hx := i8 (by omega)
    rw [if_neg (by omega)] at hx
    have hpo := rr_poorest (s := (gvS b 1 k).2) ih1 (by rw [i0]; omega)
    rw [rr_n ih1, i0] at hpo
    have e1 : (gvP A p (k + 1)).1 = gvA (gvP A p k).1 p ((po (gvS b 1 k).1 (gvS b 1 k).2 ((gvS b 1 k).1 0)).getD 0) := by
      show gvA (gvP A p k).1 p (prs (gvP A p k).1 p (gvP A p k).2 (A p 1)).1 = _
      rw [ih2, rr_n hr, hpo, i0]
    have e2 : (gvP A p (k + 1)).2 = bset (gvS b 1 k).2 ((po (gvS b 1 k).1 (gvS b 1 k).2 ((gvS b 1 k).1 0)).getD 0) := by
      show bset (gvP A p k).2 (prs (gvP A p k).1 p (gvP A p k).2 (A p 1)).1 = _
      rw [ih2, rr_n hr, hpo, i0]
    have e3 : gvS b 1 (k + 1) = (gvB (gvS b 1 k).1 ((po (gvS b 1 k).1 (gvS b 1 k).2 ((gvS b 1 k).1 0)).getD 0), bset (gvS b 1 k).2 ((po (gvS b 1 k).1 (gvS b 1 k).2 ((gvS b 1 k).1 0)).getD 0)) := by
      show (gvB (gvS b 1 k).1 (if 1 = 0 then (gvS b 1 k).1 (24 + k) else _), bset (gvS b 1 k).2 (if 1 = 0 then (gvS b 1 k).1 (24 + k) else _)) = _
      rw [if_neg (by omega)]
    rw [e1, e2, e3]
    exact ⟨rr_give ih1 (Nat.lt_of_lt_of_eq hx i0.symm) (by rw [i4]; omega), rfl⟩
theorem rr_round (hr : zRR A p b) (hn : 0 < b 0) : rdR A p = mny b ∧ zRR (rdA A p) p (rdB b) := by
  have e1 := rr_n hr
  have e6 := rr_6 hr
  have eru : A p 6 = b 1 := hr.2.2.2.2.2.1
  have eN : rdN A p = if b 6 < b 0 then b 6 else b 0 := by unfold rdN; rw [e1, e6]
  have eR : rdR A p = mny b := by
    unfold rdR mny
    rw [eN, e1, eru]
    by_cases c : b 6 < b 0
    · rw [if_pos c, if_neg (show ¬ b 0 ≤ b 6 by omega)]
      by_cases c2 : b 1 = 2
      · rw [if_pos ⟨c, c2⟩, if_pos c2]
      · rw [if_neg (fun q => c2 q.2), if_neg c2]
    · rw [if_neg c, if_pos (show b 0 ≤ b 6 by omega), if_neg (by omega)]
  refine ⟨eR, ?_⟩
  unfold rdA rdB
  rw [eR]
  by_cases c : mny b = 0
  · rw [if_pos c, if_pos c]; exact hr
  rw [if_neg c, if_neg c]
  have hml := mny_le b
  have eNm : rdN A p = mny b := by
    have := eR
    unfold rdR at this
    by_cases c2 : rdN A p < A p 1 ∧ A p 6 = 2
    · rw [if_pos c2] at this; omega
    · rw [if_neg c2] at this; exact this
  have hG : zRR (rdG A p) p (gvS b (byw b) (mny b)).1 := by
    unfold rdG byw
    rw [eNm, e1, eru]
    have hiff : mny b < b 0 ↔ b 6 < b 0 := by
      rw [← eNm, eN]
      split <;> omega
    by_cases c2 : mny b < b 0 ∧ b 1 = 1
    · rw [if_pos c2, if_pos ⟨hiff.mp c2.1, c2.2⟩]
      exact (rr_gvP hr (mny b) hml.1 hml.2).1
    · rw [if_neg c2, if_neg (fun q => c2 ⟨hiff.mpr q.1, q.2⟩)]
      exact rr_gvO hr (mny b) hml.1 hml.2
  -- the order turns
  have hi0 : (gvS b (byw b) (mny b)).1 0 = b 0 := (gvS_ok hr.2.1 hr.2.2.1 (byw b) (mny b) hml.1 hml.2).2.2.1 0 (by omega) (by omega) (by omega)
  have hk := rdB_ok hr.2.1 hr.2.2.1 hn
  have hko := (rdA_ok hr.1 (by omega)).1
  unfold rdA at hko
  unfold rdB at hk
  rw [eR, if_neg c] at hko
  rw [if_neg c] at hk
  have hp8 : rdG A p p 8 = A p 8 := rdG_off (by omega) (by omega)
  rw [← hp8, e1] at hko ⊢
  generalize rdG A p = C at hG hko
  generalize (gvS b (byw b) (mny b)).1 = r at hG hk hi0
  obtain ⟨-, -, -, hm, ⟨s1, s6, s7, s8, s9, s10, sv, sh⟩⟩ := hG
  have ro : ∀ i, i ≠ 3 → (i < 24 ∨ 24 + (b 0 - 1) < i) → roB r i = r i := fun i a1 a2 => by
    unfold roB
    rw [hi0, if_neg (by omega), if_neg (by omega), if_neg a1]
  have h0 := hr.2.1.1
  have lC : ∀ k i, k ≠ p + 6 → ¬ (k = p ∧ i = 8) → up (mvA C (p + 6) 0 (b 0 - 1)) p 8 (C p 8 + 1) k i = C k i := fun k i a1 a2 => by
    simp only [up, mvA]
    rw [if_neg a2, if_neg (by omega), if_neg (by omega)]
  refine ⟨hko, hk.1, hk.2.1, rm_of (fun i => lC _ _ (by omega) (by omega)) (fun i => lC _ _ (by omega) (by omega)) (ro 6 (by omega) (by omega)) (ro 7 (by omega) (by omega)) (fun k hk => ro _ (by omega) (by omega)) (fun g hg => ro _ (by omega) (by omega)) hm, ⟨?_, ?_, ?_, ?_, ?_, ?_, fun m hm => ?_, fun x hx => ?_⟩⟩
  · rw [lC _ _ (by omega) (by omega), ro 0 (by omega) (by omega)]; exact s1
  · rw [lC _ _ (by omega) (by omega), ro 1 (by omega) (by omega)]; exact s6
  · rw [lC _ _ (by omega) (by omega), ro 2 (by omega) (by omega)]; exact s7
  · have : roB r 3 = r 3 + 1 := by
      unfold roB
      rw [if_neg (by omega), if_neg (by omega), if_pos rfl]
    rw [this, ← s8]
    exact if_pos ⟨rfl, rfl⟩
  · rw [lC _ _ (by omega) (by omega), ro 4 (by omega) (by omega)]; exact s9
  · rw [lC _ _ (by omega) (by omega), ro 5 (by omega) (by omega)]; exact s10
  · rw [lC _ _ (by omega) (by omega), ro _ (by omega) (by omega)]; exact sv m hm
  · rw [ro 0 (by omega) (by omega), hi0] at hx
    rw [lC _ _ (by omega) (by omega), lC _ _ (by omega) (by omega), ro _ (by omega) (by omega), ro _ (by omega) (by omega)]
    have hxx := sh x (by omega)
    refine ⟨hxx.1, hxx.2.1, ?_⟩
    simp only [up, mvA, roB, true_and, hi0]
    rw [if_neg (by omega)]
    by_cases e : x = b 0 - 1
    · rw [if_neg (by omega), if_pos e, if_neg (by omega), if_pos (by omega)]
      exact (sh 0 (by omega)).2.2
    · rw [if_pos (by omega), if_pos (by omega)]
      exact (sh (x + 1) (by omega)).2.2
theorem rr_divide : ∀ n (A : Nat → Nat → Nat) (b : Nat → Nat), zRR A p b → 0 < b 0 → b 6 ≤ n → (dvN p n A).1 = (dvB n b).1 ∧ zRR (dvN p n A).2 p (dvB n b).2
  | 0, A, b, hr, _, _ => ⟨rfl, hr⟩
  | n + 1, A, b, hr, hn, h6 => by
    obtain ⟨eR, hr2⟩ := rr_round hr hn
    rw [dvN, dvB, eR]
    by_cases c : mny b = 0
    · rw [if_pos c, if_pos c]
      refine ⟨rfl, ?_⟩
      unfold rdB at hr2
      rw [if_pos c] at hr2
      exact hr2
    · rw [if_neg c, if_neg c]
      have hk := rdB_ok hr.2.1 hr.2.2.1 hn
      have ih := rr_divide n (rdA A p) (rdB b) hr2 (by omega) (by omega)
      exact ⟨congrArg (· + 1) ih.1, ih.2⟩
end RN
