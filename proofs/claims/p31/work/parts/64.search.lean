/-! the search on both sides -/
/-- the best swap so far, on both sides -/
def zSR (A : Nat → Nat → Nat) (b : Nat → Nat) (s : Nat × (Nat → Nat)) : Prop := (s.1 = 0 ∧ A 69 4 = 0 ∧ A 69 5 = 0) ∨ (0 < A 69 4 ∧ A 69 5 ≤ 9 ∧ s.1 = 10 * A 69 4 + 9 - A 69 5 ∧ (∀ i, i < 5 → s.2 i = A 69 i + 1) ∧ ∃ g k, g < b 7 ∧ k < b 7 ∧ s.2 5 = g + 1 ∧ s.2 6 = k + 1 ∧ own b g = A 69 0 ∧ rk b (own b g) g = A 69 1 ∧ own b k = A 69 2 ∧ rk b (own b k) k = A 69 3 ∧ A 69 0 < A 69 2 ∧ A 69 4 + gMi b g k = gPl b g k)
section SE
variable {A B : Nat → Nat → Nat} {b c : Nat → Nat} {p q h k g n m i j one : Nat}
theorem one1_comm (x y : Nat) : one1 x y = one1 y x := by
  unfold one1
  by_cases e : x = y
  · rw [if_pos e, if_pos e.symm]
  · rw [if_neg e, if_neg (fun q => e q.symm)]
theorem rr_m (hr : zRR A p b) (hg : g < b 7) : A (p + 2) (A (p + 3) (own b g) + rk b (own b g) g) = cod b g := hr.2.2.2.1.2.2.2.2 g hg
theorem rr_step {s : Nat × (Nat → Nat)} (hr : zRR A p b) (hg : one < b 7) (hk : k < b 7) (hlt : own b one < own b k) (hs : zSR A b s) : zSR (cdA A p (own b one) (rk b (own b one) one) (own b k) (rk b (own b k) k)) b (if s.1 < rtB b one k then (rtB b one k, bst b one (own b k) k s.2) else s) := by
  obtain ⟨-, -, s7, -, -, -, sv, sh⟩ := hr.2.2.2.2
  have m1 := rr_m hr hg
  have m2 := rr_m hr hk
  have e1 := (bO_g hr.2.1 hg).1
  have e2 := (bO_g hr.2.1 hk).1
  have h1 := sh _ e1
  have h2 := sh _ e2
  have a1 := hr.2.1.2.2.2.2.2.2.1 _ e1
  have a2 := hr.2.1.2.2.2.2.2.2.1 _ e2
  have eP : gpl A p (own b one) (rk b (own b one) one) (own b k) (rk b (own b k) k) = gPl b one k := by
    unfold gpl gPl mcol
    rw [m1, m2, h1.2.1, h2.2.1, one1_comm (cod b one / 10), one1_comm (cod b k / 10), Nat.add_comm]
  have eM : gmi A p (own b one) (rk b (own b one) one) (own b k) (rk b (own b k) k) = gMi b one k := by
    unfold gmi gMi mcol
    rw [m1, m2, h1.2.1, h2.2.1, one1_comm (cod b one / 10), one1_comm (cod b k / 10)]
  have eV : vtr A p (own b one) (rk b (own b one) one) (own b k) (rk b (own b k) k) = vtB b one k := by
    unfold vtr vtB mval
    rw [m1, m2, h1.1, h2.1, s7, sv _ a1.1, sv _ a2.1]
  have eD : dif (mval A p (own b one) (rk b (own b one) one)) (mval A p (own b k) (rk b (own b k) k)) = dif (cod b one % 10) (cod b k % 10) := by
    unfold mval
    rw [m1, m2]
  have hd : dif (cod b one % 10) (cod b k % 10) ≤ 9 := by unfold dif; split <;> omega
  unfold cdA wgA
  rw [eP, eM, eV, eD]
  have hrt0 : gMi b one k < gPl b one k ∧ vtB b one k = -6 → rtB b one k = 10 * (gPl b one k - gMi b one k) + 9 - dif (cod b one % 10) (cod b k % 10) := fun c1 => by
    unfold rtB
    rw [if_neg (fun q => q.elim (fun q => by omega) (fun q => q c1.2))]
  generalize dif (cod b one % 10) (cod b k % 10) = d at hd hrt0
  by_cases c1 : gMi b one k < gPl b one k ∧ vtB b one k = -6
  · have hrt := hrt0 c1
    have new : zSR (wgB A (own b one) (rk b (own b one) one) (own b k) (rk b (own b k) k) (gPl b one k - gMi b one k) d) b (rtB b one k, bst b one (own b k) k s.2) := by
      have w0 : wgB A (own b one) (rk b (own b one) one) (own b k) (rk b (own b k) k) (gPl b one k - gMi b one k) d 69 0 = own b one := by
        unfold wgB
        rw [up_ne (by omega), up_ne (by omega), up_ne (by omega), up_ne (by omega), up_ne (by omega), up_eq]
      have w1 : wgB A (own b one) (rk b (own b one) one) (own b k) (rk b (own b k) k) (gPl b one k - gMi b one k) d 69 1 = rk b (own b one) one := by
        unfold wgB
        rw [up_ne (by omega), up_ne (by omega), up_ne (by omega), up_ne (by omega), up_eq]
      have w2 : wgB A (own b one) (rk b (own b one) one) (own b k) (rk b (own b k) k) (gPl b one k - gMi b one k) d 69 2 = own b k := by
        unfold wgB
        rw [up_ne (by omega), up_ne (by omega), up_ne (by omega), up_eq]
      have w3 : wgB A (own b one) (rk b (own b one) one) (own b k) (rk b (own b k) k) (gPl b one k - gMi b one k) d 69 3 = rk b (own b k) k := by
        unfold wgB
        rw [up_ne (by omega), up_ne (by omega), up_eq]
      have w4 : wgB A (own b one) (rk b (own b one) one) (own b k) (rk b (own b k) k) (gPl b one k - gMi b one k) d 69 4 = gPl b one k - gMi b one k := by
        unfold wgB
        rw [up_ne (by omega), up_eq]
      have w5 : wgB A (own b one) (rk b (own b one) one) (own b k) (rk b (own b k) k) (gPl b one k - gMi b one k) d 69 5 = d := by
        unfold wgB
        rw [up_eq]
      have t6 : bst b one (own b k) k s.2 6 = k + 1 := by unfold bst; rw [if_pos rfl]
      have t5 : bst b one (own b k) k s.2 5 = one + 1 := by unfold bst; rw [if_neg (by omega), if_pos rfl]
      have t4 : bst b one (own b k) k s.2 4 = gPl b one k - gMi b one k + 1 := by unfold bst; rw [if_neg (by omega), if_neg (by omega), if_pos rfl]
      have t3 : bst b one (own b k) k s.2 3 = rk b (own b k) k + 1 := by unfold bst; rw [if_neg (by omega), if_neg (by omega), if_neg (by omega), if_pos rfl]
      have t2 : bst b one (own b k) k s.2 2 = own b k + 1 := by unfold bst; rw [if_neg (by omega), if_neg (by omega), if_neg (by omega), if_neg (by omega), if_pos rfl]
      have t1 : bst b one (own b k) k s.2 1 = rk b (own b one) one + 1 := by unfold bst; rw [if_neg (by omega), if_neg (by omega), if_neg (by omega), if_neg (by omega), if_neg (by omega), if_pos rfl]
      have t0 : bst b one (own b k) k s.2 0 = own b one + 1 := by unfold bst; rw [if_neg (by omega), if_neg (by omega), if_neg (by omega), if_neg (by omega), if_neg (by omega), if_neg (by omega), if_pos rfl]
      refine Or.inr ⟨by rw [w4]; omega, by rw [w5]; exact hd, by rw [w4, w5]; exact hrt, fun i hi => ?_, one, k, hg, hk, t5, t6, w0.symm, w1.symm, w2.symm, w3.symm, by rw [w0, w2]; exact hlt, by rw [w4]; omega⟩
      rcases (show i = 0 ∨ i = 1 ∨ i = 2 ∨ i = 3 ∨ i = 4 by omega) with rfl | rfl | rfl | rfl | rfl
      · rw [w0]; exact t0
      · rw [w1]; exact t1
      · rw [w2]; exact t2
      · rw [w3]; exact t3
      · rw [w4]; exact t4
    rcases hs with ⟨z1, z2, z3⟩ | hs
    · have c3 : s.1 < rtB b one k := by omega
      rw [if_pos c3, if_pos ⟨c1.1, by omega⟩, if_pos ⟨Or.inl (by omega), c1.2⟩]
      exact new
    · obtain ⟨q1, q2, q3, -⟩ := id hs
      by_cases c3 : s.1 < rtB b one k
      · rw [if_pos c3, if_pos (by omega), if_pos ⟨by omega, c1.2⟩]
        exact new
      · rw [if_neg c3]
        by_cases c2 : gMi b one k < gPl b one k ∧ A 69 4 ≤ gPl b one k - gMi b one k
        · rw [if_pos c2, if_neg (by omega)]; exact Or.inr hs
        · rw [if_neg c2]; exact Or.inr hs
  · have hrt : rtB b one k = 0 := by
      unfold rtB
      rw [if_pos]
      by_cases c2 : gPl b one k ≤ gMi b one k
      · exact Or.inl c2
      · exact Or.inr (fun q => c1 ⟨by omega, q⟩)
    rw [hrt, if_neg (Nat.not_lt_zero _)]
    by_cases c2 : gMi b one k < gPl b one k ∧ A 69 4 ≤ gPl b one k - gMi b one k
    · rw [if_pos c2, if_neg (fun q => c1 ⟨c2.1, q.2⟩)]; exact hs
    · rw [if_neg c2]; exact hs
theorem off_move (hp : p + 8 ≤ 69) (h : ∀ c k, c ≠ 69 → B c k = A c k) (hr : zRR A p b) : zRR B p b := zRR_move (fun t i ht => h _ _ (by omega)) (fun _ _ => rfl) hr
theorem itJ_off : ∀ j, ∀ c k, c ≠ 69 → itJ A p h i g j c k = A c k
  | 0, _, _, _ => rfl
  | j + 1, c, k, hc => (cd_off hc).trans (itJ_off j c k hc)
theorem itG_off : ∀ k, ∀ c j, c ≠ 69 → itG A p h i k c j = A c j
  | 0, _, _, _ => rfl
  | k + 1, c, j, hc => (itJ_off _ c j hc).trans (itG_off k c j hc)
theorem itI_off : ∀ i, ∀ c j, c ≠ 69 → itI A p h i c j = A c j
  | 0, _, _, _ => rfl
  | k + 1, c, j, hc => (itG_off _ c j hc).trans (itI_off k c j hc)
theorem itH_off : ∀ h, ∀ c j, c ≠ 69 → itH A p h c j = A c j
  | 0, _, _, _ => rfl
  | k + 1, c, j, hc => (itI_off _ c j hc).trans (itH_off k c j hc)
theorem rr_J {s : Nat × (Nat → Nat)} (hp : p + 8 ≤ 69) (hr : zRR A p b) (hg : one < b 7) (hlt : own b one < g) (hs : zSR A b s) : ∀ k, k ≤ b 7 → zSR (itJ A p (own b one) (rk b (own b one) one) g (rk b g k)) b (tyR b one g s k) := by
  intro k
  induction k with
  | zero => intro _; exact hs
  | succ k ih =>
    intro hk
    have ih := ih (by omega)
    rw [rk_succ, tyR]
    by_cases e : own b k = g
    · rw [if_pos e]
      have hst := rr_step (off_move hp (itJ_off (A := A) (p := p) (h := own b one) (i := rk b (own b one) one) (g := g) (rk b g k)) hr) hg (show k < b 7 by omega) (by rw [e]; exact hlt) ih
      rw [e] at hst
      show zSR (cdA _ _ _ _ _ _) b _
      by_cases c : (tyR b one g s k).1 < rtB b one k
      · rw [if_pos ⟨e, c⟩]
        rw [if_pos c] at hst
        exact hst
      · rw [if_neg (fun q => c q.2)]
        rw [if_neg c] at hst
        exact hst
    · rw [if_neg e, if_neg (fun q => e q.1)]
      exact ih
theorem rr_G {s : Nat × (Nat → Nat)} (hp : p + 8 ≤ 69) (hr : zRR A p b) (hg : one < b 7) (hs : zSR A b s) : ∀ k, own b one + 1 + k ≤ b 0 → zSR (itG A p (own b one) (rk b (own b one) one) k) b (lyG b one (own b one) s k) := by
  intro k
  induction k with
  | zero => intro _; exact hs
  | succ k ih =>
    intro hk
    have h0 := hr.2.1.1
    have := rr_J hp (off_move hp (itG_off (A := A) (p := p) (h := own b one) (i := rk b (own b one) one) k) hr) hg (show own b one < own b one + 1 + k by omega) (ih (by omega)) (b 7) (Nat.le_refl _)
    rw [← hr.2.2.2.1.1 _ (by omega)] at this
    exact this
theorem rr_I {s : Nat × (Nat → Nat)} (hp : p + 8 ≤ 69) (hr : zRR A p b) (hh : h < b 0) (hs : zSR A b s) : ∀ k, k ≤ b 7 → zSR (itI A p h (rk b h k)) b (lyO b h s k) := by
  intro k
  induction k with
  | zero => intro _; exact hs
  | succ k ih =>
    intro hk
    have ih := ih (by omega)
    rw [rk_succ, lyO]
    by_cases e : own b k = h
    · subst e
      rw [if_pos rfl, if_pos rfl]
      have := rr_G hp (off_move hp (itI_off (A := A) (p := p) (h := own b k) (rk b (own b k) k)) hr) (show k < b 7 by omega) ih (b 0 - (own b k + 1)) (by omega)
      rw [← rr_n hr] at this ⊢
      exact this
    · rw [if_neg e, if_neg e]
      exact ih
theorem rr_H {s : Nat → Nat} (hp : p + 8 ≤ 69) (hr : zRR A p b) (h4 : A 69 4 = 0) (h5 : A 69 5 = 0) : ∀ h, h ≤ b 0 → zSR (itH A p h) b (lyH b s h) := by
  intro h
  induction h with
  | zero => intro _; exact Or.inl ⟨rfl, h4, h5⟩
  | succ h ih =>
    intro hh
    have h0 := hr.2.1.1
    have := rr_I hp (off_move hp (itH_off (A := A) (p := p) h) hr) hh (ih (by omega)) (b 7) (Nat.le_refl _)
    rw [← hr.2.2.2.1.1 _ (by omega)] at this
    exact this
theorem srA_off : ∀ c j, c ≠ 69 → srA A p c j = A c j := fun c j hc => by
  unfold srA
  rw [itH_off _ c j hc, up_ne (by omega), up_ne (by omega)]
/-- both lay out the same -/
theorem rr_best {s : Nat → Nat} (hp : p + 8 ≤ 69) (hr : zRR A p b) : (srA A p 69 4 = 0 ∧ ∀ i, i < 7 → lyB b s i = 0) ∨ (0 < srA A p 69 4 ∧ (∀ i, i < 5 → lyB b s i = srA A p 69 i + 1) ∧ ∃ g k, g < b 7 ∧ k < b 7 ∧ lyB b s 5 = g + 1 ∧ lyB b s 6 = k + 1 ∧ own b g = srA A p 69 0 ∧ rk b (own b g) g = srA A p 69 1 ∧ own b k = srA A p 69 2 ∧ rk b (own b k) k = srA A p 69 3 ∧ srA A p 69 0 < srA A p 69 2 ∧ srA A p 69 4 + gMi b g k = gPl b g k) := by
  have hr2 : zRR (up (up A 69 4 0) 69 5 0) p b := off_move hp (fun c k hc => by rw [up_ne (by omega), up_ne (by omega)]) hr
  have := rr_H (s := s) hp hr2 (by rw [up_ne (by omega), up_eq]) up_eq (b 0) (Nat.le_refl _)
  rw [← rr_n hr] at this
  unfold lyB
  rw [← rr_n hr]
  have e : srA A p = itH (up (up A 69 4 0) 69 5 0) p (A p 1) := rfl
  rw [← e] at this
  rcases this with ⟨z1, z2, -⟩ | ⟨q1, q2, q3, q4, q5⟩
  · rw [if_pos z1]
    exact Or.inl ⟨z2, fun i hi => if_pos hi⟩
  · rw [if_neg (by omega)]
    exact Or.inr ⟨q1, q4, q5⟩
end SE
