/-! an heir leaves: the whole state -/
section LW
variable {A B : Nat → Nat → Nat} {b c : Nat → Nat} {p q h k g n m i j t : Nat} {scr : List Int32}
theorem plc_is {x : Nat} : ∀ n s t, s ≤ t → t ≤ s + n → (∀ i, s ≤ i → i < t → A (p + 6) i ≠ x) → (t < s + n → A (p + 6) t = x) → plc A p x n s = t
  | 0, s, t, h1, h2, _, _ => by
    show s = t
    omega
  | n + 1, s, t, h1, h2, h3, h4 => by
    unfold plc
    by_cases e : s = t
    · subst e
      rw [if_pos (h4 (by omega))]
    · rw [if_neg (h3 s (Nat.le_refl _) (by omega))]
      exact plc_is n (s + 1) t (by omega) (by omega) (fun i a1 a2 => h3 i (by omega) a2) (fun q => h4 (by omega))
theorem rr_plc (hr : zRR A p b) (ht : t < b 0) (htb : b (24 + t) = h) : plc A p h (A p 1 - 1) 0 = t := by
  obtain ⟨-, -, om, -, ⟨s1, -, -, -, -, -, -, sh⟩⟩ := hr
  rw [s1]
  refine plc_is _ 0 t (by omega) (by omega) (fun i _ hi e => ?_) (fun _ => by rw [(sh t ht).2.2]; exact htb)
  rw [(sh i (by omega)).2.2] at e
  have := om.1 i t (by omega) ht (by rw [e, htb])
  omega
theorem rb_mo (hm : zmo A p) (hh : h < 6) : zmo (rbA A p h) p := by
  have hz : zcnt A p h = A (p + 3) (h + 1) - A (p + 3) h := rfl
  have hmh := hm.1 h (by omega)
  have st1 : ∀ i, i ≤ h → rbA A p h (p + 3) i = A (p + 3) i := fun i hi => by
    unfold rbA
    rw [if_neg (by omega), if_neg (by omega), if_neg (by omega)]
  have st2 : ∀ i, h < i → i < 6 → rbA A p h (p + 3) i = A (p + 3) (i + 1) - zcnt A p h := fun i h1 h2 => by
    unfold rbA
    rw [if_neg (by omega), if_pos ⟨rfl, by omega, by omega⟩]
  have st6 : rbA A p h (p + 3) 6 = A (p + 3) 6 - zcnt A p h := by
    unfold rbA
    rw [if_neg (by omega), if_neg (by omega), if_pos ⟨rfl, rfl⟩]
  have st7 : rbA A p h (p + 3) 7 = A (p + 3) 7 := by
    unfold rbA
    rw [if_neg (by omega), if_neg (by omega), if_neg (by omega)]
  refine ⟨fun j hj => ?_, by rw [st7]; exact hm.2⟩
  rcases (show j + 1 ≤ h ∨ (j = h ∧ h < 5) ∨ (j = h ∧ h = 5) ∨ (h < j ∧ j < 5) ∨ (h < j ∧ j = 5) ∨ j = 6 by omega) with e | ⟨e, e2⟩ | ⟨e, e2⟩ | ⟨e, e2⟩ | ⟨e, e2⟩ | e
  · rw [st1 _ (by omega), st1 _ e]; exact hm.1 j hj
  · have := hm.1 (h + 1) (by omega)
    rw [e, st1 _ (Nat.le_refl _), st2 (h + 1) (by omega) (by omega)]; omega
  · subst e2
    subst e
    show rbA A p 5 (p + 3) 5 ≤ rbA A p 5 (p + 3) 6
    rw [st1 _ (Nat.le_refl _), st6]
    have e3 : A (p + 3) (5 + 1) = A (p + 3) 6 := rfl
    omega
  · have := hm.1 (j + 1) (by omega)
    rw [st2 j e (by omega), st2 (j + 1) (by omega) (by omega)]; omega
  · subst e2
    show rbA A p h (p + 3) 5 ≤ rbA A p h (p + 3) 6
    rw [st2 5 e (by omega), st6]
    exact Nat.le_refl _
  · subst e
    show rbA A p h (p + 3) 6 ≤ rbA A p h (p + 3) 7
    have := hm.1 6 (by omega)
    have e3 : A (p + 3) (6 + 1) = A (p + 3) 7 := rfl
    rw [st6, st7]; omega
theorem rb_sm (hm : zmo A p) (hs : zsm A p) (hh : h < 6) : zsm (rbA A p h) p := by
  intro i hi
  have hz : zcnt A p h = A (p + 3) (h + 1) - A (p + 3) h := rfl
  have h7 := hm.2
  have h1 := zmo_120 hm (b := h + 1) (by omega)
  have hmh := hm.1 h (by omega)
  unfold rbA
  by_cases e : p + 2 = p + 2 ∧ A (p + 3) h ≤ i ∧ i < A (p + 3) 7
  · rw [if_pos e]
    by_cases e2 : i + zcnt A p h < A (p + 3) 7
    · rw [if_pos e2]; exact hs _ (by omega)
    · rw [if_neg e2]; exact hs _ (by omega)
  · rw [if_neg e, if_neg (by omega), if_neg (by omega)]; exact hs i hi
theorem rr_leave (hr : zRR A p b) (hh : h < b 0) (ht : t < b 0) (htb : b (24 + t) = h) (h40 : b 6 + rk b h (b 7) ≤ 40) : zRR (rhA A p h) p (lvB b h t) := by
  have hpl := rr_plc hr ht htb
  obtain ⟨⟨o1, o2, o3, o4, o5, o6, o7⟩, ⟨a0, a1, a2, a6, a7, a8, a9, a10, a11⟩, om, hm, ⟨s1, s6, s7, s8, s9, s10, sv, sh⟩⟩ := id hr
  have hL := rm_leave hr.2.1 o1 hm hh h40
  have hle := rk_le (b := b) (h := h) (b 7)
  -- the class's side
  have l : ∀ c i, ¬ (c = p ∧ i = 1) → c ≠ p + 6 → c ≠ p + 4 → c ≠ p + 5 → rhA A p h c i = rbA A p h c i := fun c i h1 h2 h3 h4 => by
    unfold rhA
    rw [if_neg h1, if_neg (by omega), if_neg (by omega), if_neg (by omega), if_neg (by omega)]
  have l1 : rhA A p h p 1 = b 0 - 1 := by
    unfold rhA
    rw [if_pos ⟨rfl, rfl⟩, s1]
  have l6 : ∀ i, i < b 0 - 1 → rhA A p h (p + 6) i = lss h (if t ≤ i then A (p + 6) (i + 1) else A (p + 6) i) := fun i hi => by
    unfold rhA
    rw [if_neg (by omega), if_pos ⟨rfl, by omega⟩, hpl]; rfl
  have l45 : ∀ f i, (f = 4 ∨ f = 5) → i < b 0 - 1 → rhA A p h (p + f) i = A (p + f) (if h ≤ i then i + 1 else i) := fun f i hf hi => by
    unfold rhA
    by_cases e : h ≤ i
    · rw [if_neg (by omega), if_neg (by omega), if_neg (by omega), if_pos (by omega), if_pos e]
    · rw [if_neg (by omega), if_neg (by omega), if_neg (by omega), if_neg (by omega), if_neg (by omega), if_neg e]
      exact rb_off (by omega) (by omega)
  have l0 : ∀ i, i ≠ 1 → rhA A p h p i = A p i := fun i hi => by
    rw [l _ _ (by omega) (by omega) (by omega) (by omega)]; exact rb_off (by omega) (by omega)
  -- the reference's side
  have u0 : lvB b h t 0 = b 0 - 1 := by
    unfold lvB
    rw [if_neg (by omega), if_neg (by omega), if_neg (by omega), if_neg (by omega), if_pos rfl]
  have ug : ∀ i, 0 < i → (i < 12 ∨ 30 ≤ i) → lvB b h t i = gbF b h i := fun i i1 i2 => by
    unfold lvB
    rw [if_neg (by omega), if_neg (by omega), if_neg (by omega), if_neg (by omega), if_neg (by omega), if_neg (by omega)]
  have ulo : ∀ i, 0 < i → i < 12 → i ≠ 6 → i ≠ 7 → lvB b h t i = b i := fun i i1 i2 i3 i4 => by
    rw [ug i i1 (Or.inl i2)]; exact gbF_lo h40 (by omega) i3 i4
  have uord : ∀ i, i < b 0 - 1 → lvB b h t (24 + i) = lss h (b (24 + if i < t then i else i + 1)) := fun i hi => by
    unfold lvB
    rw [if_neg (by omega), if_neg (by omega), if_neg (by omega), if_neg (by omega), if_neg (by omega), if_pos (by omega)]
    refine congrArg (lss h) ?_
    by_cases e : i < t
    · rw [if_pos e, if_pos (by omega)]
    · rw [if_neg e, if_neg (by omega)]; rfl
  have ux : ∀ i, 12 ≤ i → i < 12 + 2 * (b 0 - 1) → lvB b h t i = b (if 12 + 2 * h ≤ i then i + 2 else i) := fun i i1 i2 => by
    unfold lvB
    by_cases e : 12 + 2 * h ≤ i
    · rw [if_neg (by omega), if_neg (by omega), if_pos ⟨e, i2⟩, if_pos e]
    · rw [if_neg (by omega), if_neg (by omega), if_neg (by omega), if_neg (by omega), if_neg (by omega), if_neg (by omega), if_neg e]
      exact gbF_lo h40 (by omega) (by omega) (by omega)
  have uh : ∀ x, x < b 0 - 1 → lvB b h t (12 + 2 * x) = b (12 + 2 * (if h ≤ x then x + 1 else x)) ∧ lvB b h t (13 + 2 * x) = b (13 + 2 * (if h ≤ x then x + 1 else x)) := fun x hx => by
    rw [ux _ (by omega) (by omega), ux _ (by omega) (by omega)]
    by_cases e : h ≤ x
    · rw [if_pos (show 12 + 2 * h ≤ 12 + 2 * x by omega), if_pos (show 12 + 2 * h ≤ 13 + 2 * x by omega), if_pos e]
      exact ⟨congrArg b (by omega), congrArg b (by omega)⟩
    · rw [if_neg (show ¬ 12 + 2 * h ≤ 12 + 2 * x by omega), if_neg (show ¬ 12 + 2 * h ≤ 13 + 2 * x by omega), if_neg e]
      exact ⟨rfl, rfl⟩
  have hRM : zRM (rhA A p h) p (lvB b h t) := by
    have c7 : gbF b h 7 ≤ b 7 := by
      have : gbF b h 7 = b 7 - rk b h (b 7) := if_pos rfl
      omega
    exact rm_of (fun i => l _ _ (by omega) (by omega) (by omega) (by omega)) (fun i => l _ _ (by omega) (by omega) (by omega) (by omega)) (ug 6 (by omega) (by omega)) (ug 7 (by omega) (by omega)) (fun k hk => ug _ (by omega) (by omega)) (fun g hg => ug _ (by omega) (by omega)) hL
  have ordne : ∀ i, i < b 0 - 1 → b (24 + if i < t then i else i + 1) < b 0 ∧ b (24 + if i < t then i else i + 1) ≠ h := fun i hi => by
    have hj : (if i < t then i else i + 1) < b 0 ∧ (if i < t then i else i + 1) ≠ t := by split <;> omega
    refine ⟨(a9 _ hj.1).2.2, fun e => hj.2 (om.1 _ _ hj.1 ht (by rw [e, htb]))⟩
  have lssl : ∀ o, o < b 0 → o ≠ h → lss h o < b 0 - 1 := fun o h1 h2 => by unfold lss; split <;> omega
  have hsh : ∀ x, x < b 0 - 1 → (rhA A p h (p + 4) x = lvB b h t (12 + 2 * x) ∧ rhA A p h (p + 5) x = lvB b h t (13 + 2 * x) ∧ rhA A p h (p + 6) x = lvB b h t (24 + x)) ∧ lvB b h t (12 + 2 * x) < 4 ∧ lvB b h t (13 + 2 * x) < 6 ∧ lvB b h t (24 + x) < b 0 - 1 := fun x hx => by
    have hj : (if h ≤ x then x + 1 else x) < b 0 := by split <;> omega
    have hs := sh _ hj
    have ha := a9 _ hj
    have hon := ordne x hx
    have hol := lssl _ hon.1 hon.2
    rw [l45 4 x (Or.inl rfl) hx, l45 5 x (Or.inr rfl) hx, l6 x hx, (uh x hx).1, (uh x hx).2, uord x hx]
    refine ⟨⟨hs.1, hs.2.1, congrArg (lss h) ?_⟩, ha.1, ha.2.1, hol⟩
    by_cases e : x < t
    · rw [if_neg (by omega), if_pos e]; exact (sh x (by omega)).2.2
    · rw [if_pos (by omega), if_neg e]; exact (sh (x + 1) (by omega)).2.2
  have h6 := hL.2.1
  have c6 : gbF b h 6 = b 6 + rk b h (b 7) := by
    unfold gbF
    rw [if_neg (by omega), if_neg (by omega)]
    exact (gbR_ok h40 (b 7) (Nat.le_refl _)).1
  have c7 : gbF b h 7 = b 7 - rk b h (b 7) := if_pos rfl
  obtain ⟨f6, flo, -, fho, fgi, fke⟩ := gbR_ok h40 (b 7) (Nat.le_refl _)
  refine ⟨⟨?_, ?_, ?_, fun x hx => ?_, ?_, ?_, fun m hm => ?_⟩, ⟨?_, ?_, ?_, ?_, ?_, fun m hm => ?_, fun x hx => ?_, fun k hk => ?_, fun g hg => ?_⟩, ⟨fun i j hi hj he => ?_, fun x hx => ?_⟩, hRM, ⟨?_, ?_, ?_, ?_, ?_, ?_, fun m hm => ?_, fun x hx => ?_⟩⟩
  · have hb := rb_mo (A := A) (p := p) (h := h) o1 (by omega)
    refine ⟨fun j hj => ?_, ?_⟩
    · rw [l _ _ (by omega) (by omega) (by omega) (by omega), l _ _ (by omega) (by omega) (by omega) (by omega)]; exact hb.1 j hj
    · rw [l _ _ (by omega) (by omega) (by omega) (by omega)]; exact hb.2
  · intro i hi
    rw [l _ _ (by omega) (by omega) (by omega) (by omega)]
    exact rb_sm o1 o2 (by omega) i hi
  · rw [l1]; omega
  · rw [l1] at hx ⊢
    have := hsh x hx
    omega
  · rw [l0 _ (by omega)]; exact o5
  · rw [l0 _ (by omega)]; exact o6
  · rw [l _ _ (by omega) (by omega) (by omega) (by omega), rb_off (by omega) (by omega)]; exact o7 m hm
  · rw [u0]; omega
  · rw [ulo 1 (by omega) (by omega) (by omega) (by omega)]; exact a1
  · rw [ulo 2 (by omega) (by omega) (by omega) (by omega)]; exact a2
  · rw [ug 6 (by omega) (by omega), c6]; exact h40
  · rw [ug 6 (by omega) (by omega), ug 7 (by omega) (by omega), c6, c7]; omega
  · rw [ulo _ (by omega) (by omega) (by omega) (by omega)]; exact a8 m hm
  · rw [u0] at hx ⊢
    exact (hsh x hx).2
  · rw [ug 6 (by omega) (by omega), c6] at hk
    have e : gbF b h (30 + k) = gbR b h (b 7) (30 + k) := by
      unfold gbF
      rw [if_neg (by omega), if_neg (by omega)]
    rw [ug _ (by omega) (by omega), e]
    by_cases e2 : k < b 6
    · rw [fho k e2]; exact a10 k e2
    · obtain ⟨g, g1, g2, g3, -⟩ := rm_at (m := k - b 6) hm (by omega) (show k - b 6 < zcnt A p h by rw [hm.1 h (by omega)]; omega)
      have h1 := fgi g g1 g2
      rw [g3, show b 6 + (k - b 6) = k by omega] at h1
      rw [h1]
      exact (bO_g hr.2.1 g1).2.1
  · rw [ug 7 (by omega) (by omega), c7] at hg
    obtain ⟨y, y1, y2, y3⟩ := gb_surj (b := b) (h := h) (b 7) g hg
    have e : gbF b h (70 + g) = gbR b h (b 7) (70 + g) := by
      unfold gbF
      rw [if_neg (by omega), if_neg (by omega)]
    have hk := fke y y1 y2
    rw [y3] at hk
    have h2 := gb_own hr.2.1 y1 y2 _ hk
    have h3 := bO_g hr.2.1 y1
    rw [ug _ (by omega) (by omega), e, u0, h2.1, h2.2]
    exact ⟨lssl _ h3.1 y2, h3.2.1⟩
  · rw [u0] at hi hj
    rw [uord i hi, uord j hj, lss_inj (ordne i hi).2 (ordne j hj).2] at he
    have := om.1 _ _ (by split <;> omega) (by split <;> omega) he
    split at this <;> split at this <;> omega
  · rw [u0] at hx ⊢
    have hy : (if h ≤ x then x + 1 else x) < b 0 ∧ (if h ≤ x then x + 1 else x) ≠ h ∧ lss h (if h ≤ x then x + 1 else x) = x := by
      unfold lss
      by_cases e : h ≤ x
      · rw [if_pos e, if_pos (by omega)]; omega
      · rw [if_neg e, if_neg (by omega)]; omega
    obtain ⟨j, j1, j2⟩ := om.2 _ hy.1
    have jt : j ≠ t := fun e => hy.2.1 (by rw [← j2, e, htb])
    refine ⟨if j < t then j else j - 1, by split <;> omega, ?_⟩
    rw [uord _ (by split <;> omega)]
    have e2 : (if (if j < t then j else j - 1) < t then (if j < t then j else j - 1) else (if j < t then j else j - 1) + 1) = j := by
      by_cases f : j < t
      · rw [if_pos f, if_pos f]
      · rw [if_neg f, if_neg (by omega)]; omega
    rw [e2, j2, hy.2.2]
  · rw [l1, u0]
  · rw [l0 _ (by omega), ulo 1 (by omega) (by omega) (by omega) (by omega)]; exact s6
  · rw [l0 _ (by omega), ulo 2 (by omega) (by omega) (by omega) (by omega)]; exact s7
  · rw [l0 _ (by omega), ulo 3 (by omega) (by omega) (by omega) (by omega)]; exact s8
  · rw [l0 _ (by omega), ulo 4 (by omega) (by omega) (by omega) (by omega)]; exact s9
  · rw [l0 _ (by omega), ulo 5 (by omega) (by omega) (by omega) (by omega)]; exact s10
  · rw [l _ _ (by omega) (by omega) (by omega) (by omega), rb_off (by omega) (by omega), ulo _ (by omega) (by omega) (by omega) (by omega)]; exact sv m hm
  · rw [u0] at hx
    exact (hsh x hx).1
end LW
