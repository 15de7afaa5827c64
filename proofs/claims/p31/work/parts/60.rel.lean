/-! the class's State and the reference's row: when they say the same -/
def zRM (A : Nat → Nat → Nat) (p : Nat) (b : Nat → Nat) : Prop := (∀ h, h < 6 → zcnt A p h = rk b h (b 7)) ∧ zcnt A p 6 = b 6 ∧ A (p + 3) 7 = b 6 + b 7 ∧ (∀ k, k < b 6 → A (p + 2) (A (p + 3) 6 + k) = b (30 + k)) ∧ ∀ g, g < b 7 → A (p + 2) (A (p + 3) (own b g) + rk b (own b g) g) = cod b g
def zRS (A : Nat → Nat → Nat) (p : Nat) (b : Nat → Nat) : Prop := A p 1 = b 0 ∧ A p 6 = b 1 ∧ A p 7 = b 2 ∧ A p 8 = b 3 ∧ A p 9 = b 4 ∧ A p 10 = b 5 ∧ (∀ m, m < 4 → A (p + 7) m = b (8 + m)) ∧ ∀ h, h < b 0 → A (p + 4) h = b (12 + 2 * h) ∧ A (p + 5) h = b (13 + 2 * h) ∧ A (p + 6) h = b (24 + h)
def zRR (A : Nat → Nat → Nat) (p : Nat) (b : Nat → Nat) : Prop := cOk A p ∧ bOk b ∧ bPm b ∧ zRM A p b ∧ zRS A p b
section RL
variable {A B : Nat → Nat → Nat} {b c : Nat → Nat} {p q h k g n m : Nat}
theorem rk_congr (e : ∀ g, g < n → own b g = own c g) : rk b h n = rk c h n := by
  unfold rk
  exact zsum_congr (fun i hi => by show (if own b (0 + i) = h then 1 else 0) = (if own c (0 + i) = h then 1 else 0); rw [Nat.zero_add, e i hi])
theorem rsm_congr {f : Nat → Nat} (e : ∀ g, g < n → own b g = own c g ∧ cod b g = cod c g) : rsm b f h n = rsm c f h n := by
  unfold rsm
  exact zsum_congr (fun i hi => by show (if own b (0 + i) = h then f (cod b (0 + i)) else 0) = (if own c (0 + i) = h then f (cod c (0 + i)) else 0); rw [Nat.zero_add, (e i hi).1, (e i hi).2])
theorem rk_mono : ∀ d, rk b h n ≤ rk b h (n + d)
  | 0 => Nat.le_refl _
  | d + 1 => by
    have := rk_mono d
    rw [← Nat.add_assoc, rk_succ]
    omega
theorem rk_lt (hg : g < n) : rk b (own b g) g < rk b (own b g) n := by
  have h1 := rk_succ (b := b) (h := own b g) g
  rw [if_pos rfl] at h1
  have h2 := rk_mono (b := b) (h := own b g) (n := g + 1) (n - (g + 1))
  rw [show g + 1 + (n - (g + 1)) = n by omega] at h2
  omega
theorem rk_find : ∀ n, m < rk b h n → ∃ g, g < n ∧ own b g = h ∧ rk b h g = m
  | 0, hm => absurd hm (Nat.not_lt_zero _)
  | n + 1, hm => by
    rw [rk_succ] at hm
    by_cases e : m < rk b h n
    · obtain ⟨g, h1, h2⟩ := rk_find n e
      exact ⟨g, by omega, h2⟩
    · by_cases e2 : own b n = h
      · rw [if_pos e2] at hm
        exact ⟨n, by omega, e2, by omega⟩
      · rw [if_neg e2] at hm
        omega
/-- a bag's marbles, one by one -/
theorem rm_sum (hr : zRM A p b) (f : Nat → Nat) : ∀ n, n ≤ b 7 → rsm b f h n = zsum (fun i => f (A (p + 2) i)) (A (p + 3) h) (rk b h n)
  | 0, _ => rfl
  | n + 1, hn => by
    rw [rsm_succ, rk_succ, rm_sum hr f n (by omega)]
    by_cases e : own b n = h
    · rw [if_pos e, if_pos e]
      have := hr.2.2.2.2 n (by omega)
      rw [e] at this
      show _ = zsum _ _ (rk b h n) + f (A (p + 2) (A (p + 3) h + rk b h n))
      rw [this]
    · rw [if_neg e, if_neg e]; rfl
theorem rm_val (hr : zRM A p b) (hh : h < 6) : zval A p h = wrt b h := by
  unfold zval wrt
  rw [hr.1 h hh, rm_sum hr (fun c => c % 10) (b 7) (Nat.le_refl _)]
theorem rm_col (hr : zRM A p b) (hh : h < 6) (c : Nat) : zcol A p h c = rsm b (fun x => if x / 10 = c then 1 else 0) h (b 7) := by
  unfold zcol
  rw [hr.1 h hh, rm_sum hr (fun x => if x / 10 = c then 1 else 0) (b 7) (Nat.le_refl _)]
/-- a marble of a bag -/
theorem rm_at (hr : zRM A p b) (hh : h < 6) (hm : m < zcnt A p h) : ∃ g, g < b 7 ∧ own b g = h ∧ rk b h g = m ∧ A (p + 2) (A (p + 3) h + m) = cod b g := by
  rw [hr.1 h hh] at hm
  obtain ⟨g, h1, h2, h3⟩ := rk_find _ hm
  have := hr.2.2.2.2 g h1
  rw [h2, h3] at this
  exact ⟨g, h1, h2, h3, this⟩
theorem rm_of (h2 : ∀ i, B (q + 2) i = A (p + 2) i) (h3 : ∀ i, B (q + 3) i = A (p + 3) i) (e6 : c 6 = b 6) (e7 : c 7 = b 7) (ek : ∀ k, k < b 6 → c (30 + k) = b (30 + k)) (eg : ∀ g, g < b 7 → c (70 + g) = b (70 + g)) (hr : zRM A p b) : zRM B q c := by
  have ho : ∀ g, g < b 7 → own c g = own b g := fun g hg => by unfold own; rw [eg g hg]
  have hc : ∀ g, g < b 7 → cod c g = cod b g := fun g hg => by unfold cod; rw [eg g hg]
  have hz : ∀ h, zcnt B q h = zcnt A p h := fun h => by unfold zcnt; rw [h3, h3]
  refine ⟨fun h hh => ?_, ?_, ?_, fun k hk => ?_, fun g hg => ?_⟩
  · rw [hz, e7, rk_congr ho, hr.1 h hh]
  · rw [hz, e6, hr.2.1]
  · rw [h3, e6, e7, hr.2.2.1]
  · rw [e6] at hk
    rw [h2, h3, hr.2.2.2.1 k hk, ek k hk]
  · rw [e7] at hg
    rw [h2, h3, ho g hg, rk_congr (fun x hx => ho x (by omega)), hr.2.2.2.2 g hg, hc g hg]
theorem zRR_move (h : ∀ t i, t < 8 → B (q + t) i = A (p + t) i) (hb : ∀ i, i < 190 → c i = b i) (hr : zRR A p b) : zRR B q c := by
  obtain ⟨⟨o1, o2, o3, o4, o5, o6, o7⟩, ⟨a0, a1, a2, a6, a7, a8, a9, a10, a11⟩, ⟨m1, m2⟩, hm, ⟨s1, s6, s7, s8, s9, s10, sv, sh⟩⟩ := hr
  have t0 : ∀ i, B q i = A p i := fun i => h 0 i (by omega)
  have c0 : c 0 = b 0 := hb 0 (by omega)
  refine ⟨⟨⟨fun j hj => ?_, ?_⟩, fun i hi => ?_, ?_, fun j hj => ?_, ?_, ?_, fun m hm => ?_⟩, ⟨?_, ?_, ?_, ?_, ?_, fun m hm => ?_, fun x hx => ?_, fun k hk => ?_, fun g hg => ?_⟩, ⟨fun i j hi hj he => ?_, fun x hx => ?_⟩, rm_of (fun i => h 2 i (by omega)) (fun i => h 3 i (by omega)) (hb 6 (by omega)) (hb 7 (by omega)) (fun k hk => hb _ (by omega)) (fun g hg => hb _ (by omega)) hm, ⟨?_, ?_, ?_, ?_, ?_, ?_, fun m hm => ?_, fun x hx => ?_⟩⟩
  · rw [h 3 _ (by omega), h 3 _ (by omega)]; exact o1.1 j hj
  · rw [h 3 _ (by omega)]; exact o1.2
  · rw [h 2 _ (by omega)]; exact o2 i hi
  · rw [t0]; exact o3
  · rw [t0] at hj ⊢
    rw [h 4 _ (by omega), h 5 _ (by omega), h 6 _ (by omega)]; exact o4 j hj
  · rw [t0]; exact o5
  · rw [t0]; exact o6
  · rw [h 7 _ (by omega)]; exact o7 m hm
  · rw [c0]; exact a0
  · rw [hb 1 (by omega)]; exact a1
  · rw [hb 2 (by omega)]; exact a2
  · rw [hb 6 (by omega)]; exact a6
  · rw [hb 6 (by omega), hb 7 (by omega)]; exact a7
  · rw [hb _ (by omega)]; exact a8 m hm
  · rw [c0] at hx ⊢
    rw [hb _ (by omega), hb _ (by omega), hb _ (by omega)]; exact a9 x hx
  · rw [hb 6 (by omega)] at hk
    rw [hb _ (by omega)]; exact a10 k hk
  · rw [hb 7 (by omega)] at hg
    rw [hb _ (by omega), c0]; exact a11 g hg
  · rw [c0] at hi hj
    rw [hb _ (by omega), hb _ (by omega)] at he
    exact m1 i j hi hj he
  · rw [c0] at hx ⊢
    obtain ⟨j, j1, j2⟩ := m2 x hx
    exact ⟨j, j1, by rw [hb _ (by omega)]; exact j2⟩
  · rw [t0, c0]; exact s1
  · rw [t0, hb 1 (by omega)]; exact s6
  · rw [t0, hb 2 (by omega)]; exact s7
  · rw [t0, hb 3 (by omega)]; exact s8
  · rw [t0, hb 4 (by omega)]; exact s9
  · rw [t0, hb 5 (by omega)]; exact s10
  · rw [h 7 _ (by omega), hb _ (by omega)]; exact sv m hm
  · rw [c0] at hx
    rw [h 4 _ (by omega), h 5 _ (by omega), h 6 _ (by omega), hb _ (by omega), hb _ (by omega), hb _ (by omega)]; exact sh x hx
/-- a marble is given -/
theorem rm_give (ho : bOk b) (hm : zmo A p) (hr : zRM A p b) (hh : h < b 0) (h6 : 0 < b 6) : zRM (gvA A p h) p (gvB b h) := by
  obtain ⟨r1, r2, r3, r4, r5⟩ := hr
  have hn := ho.1
  have h67 := ho.2.2.2.2.1
  have hb6 := ho.2.2.2.1
  have hz : ∀ x, zcnt A p x = A (p + 3) (x + 1) - A (p + 3) x := fun _ => rfl
  have e6 : gvB b h 6 = b 6 - 1 := by
    unfold gvB
    rw [if_neg (by omega), if_neg (by omega), if_pos rfl]
  have e7 : gvB b h 7 = b 7 + 1 := by
    unfold gvB
    rw [if_neg (by omega), if_pos rfl]
  have eg : ∀ g, g < b 7 → gvB b h (70 + g) = b (70 + g) := fun g hg => by
    unfold gvB
    rw [if_neg (by omega), if_neg (by omega), if_neg (by omega), if_neg (by omega), if_neg (by omega)]
  have el : gvB b h (70 + b 7) = 100 * h + b 30 := by
    unfold gvB
    rw [if_pos rfl]
  have b30 : b 30 < 60 := ho.2.2.2.2.2.2.2.1 0 h6
  have ho1 : ∀ g, g < b 7 → own (gvB b h) g = own b g := fun g hg => by unfold own; rw [eg g hg]
  have ho2 : own (gvB b h) (b 7) = h := by unfold own; rw [el]; omega
  have hc1 : ∀ g, g < b 7 → cod (gvB b h) g = cod b g := fun g hg => by unfold cod; rw [eg g hg]
  have hc2 : cod (gvB b h) (b 7) = b 30 := by unfold cod; rw [el]; omega
  have hrk : ∀ x g, g ≤ b 7 → rk (gvB b h) x g = rk b x g := fun x g hg => rk_congr (fun y hy => ho1 y (by omega))
  have s6 : A (p + 3) 6 < A (p + 3) 7 := by have := hz 6; have e67 : A (p + 3) (6 + 1) = A (p + 3) 7 := rfl; omega
  refine ⟨fun x hx => ?_, ?_, ?_, fun k hk => ?_, fun g hg => ?_⟩
  · rw [e7, rk_succ, hrk x _ (Nat.le_refl _), ho2, ← r1 x hx]
    have hmx := hm.1 x (by omega)
    show gvA A p h (p + 3) (x + 1) - gvA A p h (p + 3) x = _
    rw [gv_st, gv_st, hz]
    by_cases e : h = x
    · subst e
      rw [if_pos (by omega), if_neg (by omega), if_pos rfl]
      omega
    · rw [if_neg e]
      by_cases e2 : h < x
      · rw [if_pos (by omega), if_pos (by omega)]; omega
      · rw [if_neg (by omega), if_neg (by omega)]; omega
  · rw [gv_cnt (by omega), e6, r2]
  · rw [gv_st, if_neg (by omega), e6, e7, r3]; omega
  · rw [e6] at hk
    have mo := zmo_le hm (a := h + 1) (b := 6) (by omega) (by omega)
    rw [gv_st, if_pos (by omega)]
    have e1 : gvB b h (30 + k) = b (30 + (k + 1)) := by
      unfold gvB
      rw [if_neg (by omega), if_neg (by omega), if_neg (by omega), if_pos (by omega)]; rfl
    rw [e1, ← r4 (k + 1) (by omega)]
    simp only [gvA, true_and]
    rw [if_neg (by omega), if_neg (by omega), if_neg (by omega)]
    exact zAe rfl (by omega)
  · rw [e7] at hg
    by_cases e : g = b 7
    · subst e
      rw [ho2, hrk _ _ (Nat.le_refl _), hc2, gv_st, if_neg (by omega), ← r1 h (by omega)]
      have hmx := hm.1 h (by omega)
      have e1 : A (p + 3) h + zcnt A p h = A (p + 3) (h + 1) := by rw [hz]; omega
      have e2 := r4 0 h6
      rw [e1]
      exact (if_pos ⟨rfl, rfl⟩).trans e2
    · have hgl : g < b 7 := by omega
      rw [ho1 g hgl, hrk _ g (by omega), hc1 g hgl, ← r5 g hgl]
      have hlt := rk_lt (b := b) (g := g) (n := b 7) hgl
      have hog : own b g < 6 := by have := (bO_g ho hgl).1; omega
      rw [← r1 _ hog, hz] at hlt
      have m1 := hm.1 (own b g) (by omega)
      generalize own b g = o at *
      generalize rk b o g = r at *
      rw [gv_st]
      by_cases c1 : h < o
      · rw [if_pos (by omega)]
        have mo := zmo_le hm (a := h + 1) (b := o) (by omega) (by omega)
        have mo2 := zmo_le hm (a := o + 1) (b := 6) (by omega) (by omega)
        simp only [gvA, true_and]
        rw [if_neg (by omega), if_pos (by omega)]
        exact zAe rfl (by omega)
      · rw [if_neg (by omega)]
        have mo := zmo_le hm (a := o + 1) (b := h + 1) (by omega) (by omega)
        simp only [gvA, true_and]
        rw [if_neg (by omega), if_neg (by omega), if_neg (by omega)]
theorem rr_give (hr : zRR A p b) (hh : h < b 0) (h6 : 0 < b 6) : zRR (gvA A p h) p (gvB b h) := by
  obtain ⟨o, ob, om, hm, ⟨s1, s6, s7, s8, s9, s10, sv, sh⟩⟩ := hr
  have hn := ob.1
  have l : ∀ i, i ≠ 6 → i ≠ 7 → i < 30 → gvB b h i = b i := fun i a1 a2 a3 => gvB_lo a1 a2 a3
  have c0 := l 0 (by omega) (by omega) (by omega)
  refine ⟨gv_ok o (by omega) (by rw [hm.2.1]; exact h6), gvB_ok ob hh h6, ⟨fun i j hi hj he => ?_, fun x hx => ?_⟩, rm_give ob o.1 hm hh h6, ⟨?_, ?_, ?_, ?_, ?_, ?_, fun m hm => ?_, fun x hx => ?_⟩⟩
  · rw [c0] at hi hj
    rw [l _ (by omega) (by omega) (by omega), l _ (by omega) (by omega) (by omega)] at he
    exact om.1 i j hi hj he
  · rw [c0] at hx ⊢
    obtain ⟨j, j1, j2⟩ := om.2 x hx
    exact ⟨j, j1, by rw [l _ (by omega) (by omega) (by omega)]; exact j2⟩
  · rw [gv_off (by omega) (by omega), c0]; exact s1
  · rw [gv_off (by omega) (by omega), l 1 (by omega) (by omega) (by omega)]; exact s6
  · rw [gv_off (by omega) (by omega), l 2 (by omega) (by omega) (by omega)]; exact s7
  · rw [gv_off (by omega) (by omega), l 3 (by omega) (by omega) (by omega)]; exact s8
  · rw [gv_off (by omega) (by omega), l 4 (by omega) (by omega) (by omega)]; exact s9
  · rw [gv_off (by omega) (by omega), l 5 (by omega) (by omega) (by omega)]; exact s10
  · rw [gv_off (by omega) (by omega), l _ (by omega) (by omega) (by omega)]; exact sv m hm
  · rw [c0] at hx
    rw [gv_off (by omega) (by omega), gv_off (by omega) (by omega), gv_off (by omega) (by omega), l _ (by omega) (by omega) (by omega), l _ (by omega) (by omega) (by omega), l _ (by omega) (by omega) (by omega)]
    exact sh x hx
end RL
