/-! an heir leaves, on both sides -/
def lvB (b : Nat → Nat) (h t : Nat) : Nat → Nat := fun i => if i = 13 + 2 * (b 0 - 1) then 0 else if i = 12 + 2 * (b 0 - 1) then 0 else if 12 + 2 * h ≤ i ∧ i < 12 + 2 * (b 0 - 1) then b (i + 2) else if i = 24 + (b 0 - 1) then 0 else if i = 0 then b 0 - 1 else if 24 ≤ i ∧ i < 24 + (b 0 - 1) then lss h (if i < 24 + t then b i else b (i + 1)) else gbF b h i
section LV
variable {A B : Nat → Nat → Nat} {b c : Nat → Nat} {p q h k g n m i j t : Nat} {scr : List Int32}
theorem gbF_lo (h40 : b 6 + rk b h (b 7) ≤ 40) (hi : i < 30) (h6 : i ≠ 6) (h7 : i ≠ 7) : gbF b h i = b i := by
  unfold gbF
  rw [if_neg h7, if_neg (by omega)]
  exact (gbR_ok h40 (b 7) (Nat.le_refl _)).2.1 i hi h6
/-- the marbles of an heir who leaves -/
theorem rm_leave (ho : bOk b) (hm : zmo A p) (hr : zRM A p b) (hh : h < b 0) (h40 : b 6 + rk b h (b 7) ≤ 40) : zRM (rbA A p h) p (gbF b h) := by
  obtain ⟨r1, r2, r3, r4, r5⟩ := id hr
  have h0 := ho.1
  have h67 := ho.2.2.2.2.1
  have hz : ∀ x, zcnt A p x = A (p + 3) (x + 1) - A (p + 3) x := fun _ => rfl
  have hcn := r1 h (by omega)
  have hle := rk_le (b := b) (h := h) (b 7)
  obtain ⟨f6, flo, -, fho, fgi, fke⟩ := gbR_ok h40 (b 7) (Nat.le_refl _)
  have c6 : gbF b h 6 = b 6 + rk b h (b 7) := by
    unfold gbF
    rw [if_neg (by omega), if_neg (by omega), f6]
  have c7 : gbF b h 7 = b 7 - rk b h (b 7) := if_pos rfl
  have cho : ∀ i, 30 ≤ i → i < 70 + (b 7 - rk b h (b 7)) → gbF b h i = gbR b h (b 7) i := fun i a1 a2 => by
    unfold gbF
    rw [if_neg (by omega), if_neg (by omega)]
  have hmh := hm.1 h (by omega)
  have hm7 : A (p + 3) 6 ≤ A (p + 3) 7 := hm.1 6 (by omega)
  have hm6 := zmo_le hm (a := h + 1) (b := 6) (by omega) (by omega)
  have e67 : zcnt A p 6 = A (p + 3) 7 - A (p + 3) 6 := rfl
  have hzh := hz h
  generalize hcc : rk b h (b 7) = cc at *
  -- where the bags begin now
  have st1 : ∀ i, i ≤ h → rbA A p h (p + 3) i = A (p + 3) i := fun i hi => by
    unfold rbA
    rw [if_neg (by omega), if_neg (by omega), if_neg (by omega)]
  have st2 : ∀ i, h < i → i < 6 → rbA A p h (p + 3) i = A (p + 3) (i + 1) - cc := fun i h1 h2 => by
    unfold rbA
    rw [if_neg (by omega), if_pos ⟨rfl, by omega, by omega⟩, hcn]
  have st6 : rbA A p h (p + 3) 6 = A (p + 3) 6 - cc := by
    unfold rbA
    rw [if_neg (by omega), if_neg (by omega), if_pos ⟨rfl, rfl⟩, hcn]
  have st7 : rbA A p h (p + 3) 7 = A (p + 3) 7 := by
    unfold rbA
    rw [if_neg (by omega), if_neg (by omega), if_neg (by omega)]
  have st3 : ∀ i, h ≤ i → i < 6 → rbA A p h (p + 3) i = A (p + 3) (i + 1) - cc := fun i h1 h2 => by
    by_cases e : i = h
    · rw [e, st1 h (Nat.le_refl _)]; omega
    · exact st2 i (by omega) h2
  -- the row now
  have rw1 : ∀ i, i < A (p + 3) h → rbA A p h (p + 2) i = A (p + 2) i := fun i hi => by
    unfold rbA
    rw [if_neg (by omega), if_neg (by omega), if_neg (by omega)]
  have rw2 : ∀ i, A (p + 3) h ≤ i → i + cc < A (p + 3) 7 → rbA A p h (p + 2) i = A (p + 2) (i + cc) := fun i h1 h2 => by
    unfold rbA
    rw [if_pos ⟨rfl, by omega, by omega⟩, hcn, if_pos h2]
  have rw3 : ∀ i, A (p + 3) h ≤ i → i < A (p + 3) 7 → A (p + 3) 7 ≤ i + cc → rbA A p h (p + 2) i = A (p + 2) (A (p + 3) h + (i + cc - A (p + 3) 7)) := fun i h1 h2 h3 => by
    unfold rbA
    rw [if_pos ⟨rfl, by omega, by omega⟩, hcn, if_neg (by omega)]
  have hown : ∀ g, g < b 7 → own b g ≠ h → own (gbF b h) (g - rk b h g) = lss h (own b g) ∧ cod (gbF b h) (g - rk b h g) = cod b g ∧ g - rk b h g < b 7 - cc := fun g hg hne => by
    have hmo := lft_mono (b := b) (h := h) (k := g + 1) (b 7 - (g + 1))
    rw [show g + 1 + (b 7 - (g + 1)) = b 7 by omega, rk_succ, if_neg hne, hcc] at hmo
    have hgl := rk_le (b := b) (h := h) g
    have hlt : g - rk b h g < b 7 - cc := by omega
    have h2 := gb_own ho hg hne _ (fke g hg hne)
    unfold own cod at *
    rw [cho _ (by omega) (by omega)]
    exact ⟨h2.1, h2.2, hlt⟩
  have hrk : ∀ k, k ≤ b 7 → ∀ o, o ≠ h → rk (gbF b h) (lss h o) (k - rk b h k) = rk b o k := fun k hk o hoh => by
    rw [← gbR_rk ho (by rw [hcc]; exact h40) (b 7) (Nat.le_refl _) k hk o hoh]
    have hmo := lft_mono (b := b) (h := h) (k := k) (b 7 - k)
    rw [show k + (b 7 - k) = b 7 by omega, hcc] at hmo
    refine rk_congr (fun g hg => ?_)
    unfold own
    rw [cho _ (by omega) (by omega)]
  have hrk7 : ∀ o, o ≠ h → rk (gbF b h) (lss h o) (b 7 - cc) = rk b o (b 7) := fun o hoh => by
    have := hrk (b 7) (Nat.le_refl _) o hoh
    rw [hcc] at this
    exact this
  have r66 : rk b 6 (b 7) = 0 := by
    have : ∀ n, n ≤ b 7 → rk b 6 n = 0 := by
      intro n
      induction n with
      | zero => intro _; rfl
      | succ n ih =>
        intro hn
        have := (bO_g ho (g := n) (by omega)).1
        rw [rk_succ, ih (by omega), if_neg (by omega)]
    exact this _ (Nat.le_refl _)
  refine ⟨fun x hx => ?_, ?_, ?_, fun k hk => ?_, fun g hg => ?_⟩
  · rw [c7]
    by_cases e : x < h
    · have h1 := hrk7 x (by omega)
      have h2 : lss h x = x := if_neg (by omega)
      rw [h2] at h1
      rw [h1, ← r1 x hx, hz]
      show rbA A p h (p + 3) (x + 1) - rbA A p h (p + 3) x = _
      rw [st1 _ (by omega), st1 _ (by omega)]
    · have h1 := hrk7 (x + 1) (by omega)
      have h2 : lss h (x + 1) = x := if_pos (by omega)
      rw [h2] at h1
      rw [h1]
      show rbA A p h (p + 3) (x + 1) - rbA A p h (p + 3) x = _
      rw [st3 x (by omega) hx]
      by_cases e5 : x = 5
      · subst e5
        rw [r66]
        show rbA A p h (p + 3) 6 - (A (p + 3) 6 - cc) = 0
        rw [st6]; omega
      · rw [st3 (x + 1) (by omega) (by omega), ← r1 (x + 1) (by omega), hz]
        have m1 := zmo_le hm (a := h + 1) (b := x + 1) (by omega) (by omega)
        omega
  · show rbA A p h (p + 3) 7 - rbA A p h (p + 3) 6 = _
    rw [st7, st6, c6]; omega
  · rw [st7, c6, c7]; omega
  · rw [c6] at hk
    rw [st6]
    by_cases e : k < b 6
    · rw [rw2 _ (by omega) (by omega), cho _ (by omega) (by omega), fho k e, ← r4 k e]
      exact zAe rfl (by omega)
    · rw [rw3 _ (by omega) (by omega) (by omega), cho _ (by omega) (by omega)]
      obtain ⟨g, g1, g2, g3, g4⟩ := rm_at (m := k - b 6) hr (by omega) (show k - b 6 < zcnt A p h by omega)
      have h1 := fgi g g1 g2
      rw [g3, show b 6 + (k - b 6) = k by omega] at h1
      rw [h1, ← g4]
      exact zAe rfl (by omega)
  · rw [c7] at hg
    obtain ⟨y, y1, y2, y3⟩ := gb_surj (b := b) (h := h) (b 7) g (by rw [hcc]; exact hg)
    subst y3
    obtain ⟨w1, w2, -⟩ := hown y y1 y2
    rw [w1, w2, hrk y (by omega) _ y2, ← r5 y y1]
    have hoy := (bO_g ho y1).1
    have hlt := rk_lt (b := b) (g := y) (n := b 7) y1
    rw [← r1 (own b y) (by omega), hz] at hlt
    have m1 := hm.1 (own b y) (by omega)
    generalize own b y = o at *
    by_cases e : o < h
    · have h2 : lss h o = o := if_neg (by omega)
      have m2 := zmo_le hm (a := o + 1) (b := h) (by omega) (by omega)
      rw [h2, st1 _ (by omega), rw1 _ (by omega)]
    · have h2 : lss h o = o - 1 := if_pos (by omega)
      have m2 := zmo_le hm (a := h + 1) (b := o) (by omega) (by omega)
      have m3 := zmo_le hm (a := o + 1) (b := 7) (by omega) (by omega)
      rw [h2, st3 _ (by omega) (by omega), show o - 1 + 1 = o by omega, rw2 _ (by omega) (by omega)]
      exact zAe rfl (by omega)
end LV
