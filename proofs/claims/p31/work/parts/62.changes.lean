/-! changes on both sides -/
section CH
variable {A B : Nat → Nat → Nat} {b c : Nat → Nat} {p q h k g n m s i j : Nat}
theorem up_ne {k i x c j : Nat} (h : ¬ (c = k ∧ j = i)) : up A k i x c j = A c j := if_neg h
theorem up_eq {k i x : Nat} : up A k i x k i = x := if_pos ⟨rfl, rfl⟩
theorem ups_ne {i x j : Nat} (h : ¬ j = i) : ups b i x j = b j := if_neg h
theorem ups_eq {i x : Nat} : ups b i x i = x := if_pos rfl
/-- the marbles stay -/
theorem rr_chg (hr : zRR A p b) (h2 : ∀ i, B (p + 2) i = A (p + 2) i) (h3 : ∀ i, B (p + 3) i = A (p + 3) i) (c6 : c 6 = b 6) (c7 : c 7 = b 7) (ck : ∀ k, k < b 6 → c (30 + k) = b (30 + k)) (cg : ∀ g, g < b 7 → c (70 + g) = b (70 + g)) (s1 : B p 1 = c 0) (n6 : c 0 ≤ 6) (n0 : b 0 ≤ c 0) (s6 : B p 6 = c 1) (c1 : c 1 < 3) (s7 : B p 7 = c 2) (c2 : c 2 < 9) (s8 : B p 8 = c 3) (s9 : B p 9 = c 4) (s10 : B p 10 = c 5) (sv : ∀ m, m < 4 → B (p + 7) m = c (8 + m) ∧ c (8 + m) < 10) (sh : ∀ h, h < c 0 → (B (p + 4) h = c (12 + 2 * h) ∧ B (p + 5) h = c (13 + 2 * h) ∧ B (p + 6) h = c (24 + h)) ∧ c (12 + 2 * h) < 4 ∧ c (13 + 2 * h) < 6 ∧ c (24 + h) < c 0) (hp : bPm c) : zRR B p c := by
  obtain ⟨⟨o1, o2, o3, o4, o5, o6, o7⟩, ⟨a0, a1, a2, a6, a7, a8, a9, a10, a11⟩, -, hm, -⟩ := hr
  refine ⟨⟨⟨fun j hj => ?_, ?_⟩, fun i hi => ?_, ?_, fun j hj => ?_, ?_, ?_, fun m hm => ?_⟩, ⟨n6, c1, c2, ?_, ?_, fun m hm => (sv m hm).2, fun x hx => (sh x hx).2, fun k hk => ?_, fun g hg => ?_⟩, hp, rm_of h2 h3 c6 c7 ck cg hm, ⟨s1, s6, s7, s8, s9, s10, fun m hm => (sv m hm).1, fun x hx => (sh x hx).1⟩⟩
  · rw [h3, h3]; exact o1.1 j hj
  · rw [h3]; exact o1.2
  · rw [h2]; exact o2 i hi
  · rw [s1]; exact n6
  · rw [s1] at hj ⊢
    have := sh j hj
    omega
  · rw [s6]; exact c1
  · rw [s7]; exact c2
  · have := sv m hm
    omega
  · rw [c6]; exact a6
  · rw [c6, c7]; exact a7
  · rw [c6] at hk
    rw [ck k hk]; exact a10 k hk
  · rw [c7] at hg
    rw [cg g hg]
    have := a11 g hg
    omega
theorem pm_of (hp : bPm b) (e0 : c 0 = b 0) (e : ∀ i, i < b 0 → c (24 + i) = b (24 + i)) : bPm c := by
  refine ⟨fun i j hi hj he => ?_, fun x hx => ?_⟩
  · rw [e0] at hi hj
    rw [e i hi, e j hj] at he
    exact hp.1 i j hi hj he
  · rw [e0] at hx ⊢
    obtain ⟨j, j1, j2⟩ := hp.2 x hx
    exact ⟨j, j1, by rw [e j j1]; exact j2⟩
theorem rr_rule {x : Nat} (hr : zRR A p b) (hx : x < 3) : zRR (up A p 6 x) p (ups b 1 x) := by
  obtain ⟨-, ⟨a0, a1, a2, a6, a7, a8, a9, -⟩, om, -, ⟨s1, s6, s7, s8, s9, s10, sv, sh⟩⟩ := id hr
  refine rr_chg hr (fun i => up_ne (by omega)) (fun i => up_ne (by omega)) (ups_ne (by omega)) (ups_ne (by omega)) (fun k hk => ups_ne (by omega)) (fun g hg => ups_ne (by omega)) ?_ ?_ ?_ ?_ ?_ ?_ ?_ ?_ ?_ ?_ (fun m hm => ?_) (fun y hy => ?_) (pm_of om (ups_ne (by omega)) (fun i hi => ups_ne (by omega)))
  · rw [up_ne (by omega), ups_ne (by omega)]; exact s1
  · rw [ups_ne (by omega)]; exact a0
  · rw [ups_ne (by omega)]; exact Nat.le_refl _
  · rw [up_eq, ups_eq]
  · rw [ups_eq]; exact hx
  · rw [up_ne (by omega), ups_ne (by omega)]; exact s7
  · rw [ups_ne (by omega)]; exact a2
  · rw [up_ne (by omega), ups_ne (by omega)]; exact s8
  · rw [up_ne (by omega), ups_ne (by omega)]; exact s9
  · rw [up_ne (by omega), ups_ne (by omega)]; exact s10
  · rw [up_ne (by omega), ups_ne (by omega)]; exact ⟨sv m hm, a8 m hm⟩
  · rw [ups_ne (by omega)] at hy
    rw [up_ne (by omega), up_ne (by omega), up_ne (by omega), ups_ne (by omega), ups_ne (by omega), ups_ne (by omega), ups_ne (by omega)]; exact ⟨sh y hy, a9 y hy⟩
theorem rr_patience {x : Nat} (hr : zRR A p b) (hx : x < 9) : zRR (up A p 7 x) p (ups b 2 x) := by
  obtain ⟨-, ⟨a0, a1, a2, a6, a7, a8, a9, -⟩, om, -, ⟨s1, s6, s7, s8, s9, s10, sv, sh⟩⟩ := id hr
  refine rr_chg hr (fun i => up_ne (by omega)) (fun i => up_ne (by omega)) (ups_ne (by omega)) (ups_ne (by omega)) (fun k hk => ups_ne (by omega)) (fun g hg => ups_ne (by omega)) ?_ ?_ ?_ ?_ ?_ ?_ ?_ ?_ ?_ ?_ (fun m hm => ?_) (fun y hy => ?_) (pm_of om (ups_ne (by omega)) (fun i hi => ups_ne (by omega)))
  · rw [up_ne (by omega), ups_ne (by omega)]; exact s1
  · rw [ups_ne (by omega)]; exact a0
  · rw [ups_ne (by omega)]; exact Nat.le_refl _
  · rw [up_ne (by omega), ups_ne (by omega)]; exact s6
  · rw [ups_ne (by omega)]; exact a1
  · rw [up_eq, ups_eq]
  · rw [ups_eq]; exact hx
  · rw [up_ne (by omega), ups_ne (by omega)]; exact s8
  · rw [up_ne (by omega), ups_ne (by omega)]; exact s9
  · rw [up_ne (by omega), ups_ne (by omega)]; exact s10
  · rw [up_ne (by omega), ups_ne (by omega)]; exact ⟨sv m hm, a8 m hm⟩
  · rw [ups_ne (by omega)] at hy
    rw [up_ne (by omega), up_ne (by omega), up_ne (by omega), ups_ne (by omega), ups_ne (by omega), ups_ne (by omega), ups_ne (by omega)]; exact ⟨sh y hy, a9 y hy⟩
theorem rr_grant {x : Nat} (hr : zRR A p b) (hm : m < 4) (hx : x < 10) : zRR (up A (p + 7) m x) p (ups b (8 + m) x) := by
  obtain ⟨-, ⟨a0, a1, a2, a6, a7, a8, a9, -⟩, om, -, ⟨s1, s6, s7, s8, s9, s10, sv, sh⟩⟩ := id hr
  refine rr_chg hr (fun i => up_ne (by omega)) (fun i => up_ne (by omega)) (ups_ne (by omega)) (ups_ne (by omega)) (fun k hk => ups_ne (by omega)) (fun g hg => ups_ne (by omega)) ?_ ?_ ?_ ?_ ?_ ?_ ?_ ?_ ?_ ?_ (fun m2 hm2 => ?_) (fun y hy => ?_) (pm_of om (ups_ne (by omega)) (fun i hi => ups_ne (by omega)))
  · rw [up_ne (by omega), ups_ne (by omega)]; exact s1
  · rw [ups_ne (by omega)]; exact a0
  · rw [ups_ne (by omega)]; exact Nat.le_refl _
  · rw [up_ne (by omega), ups_ne (by omega)]; exact s6
  · rw [ups_ne (by omega)]; exact a1
  · rw [up_ne (by omega), ups_ne (by omega)]; exact s7
  · rw [ups_ne (by omega)]; exact a2
  · rw [up_ne (by omega), ups_ne (by omega)]; exact s8
  · rw [up_ne (by omega), ups_ne (by omega)]; exact s9
  · rw [up_ne (by omega), ups_ne (by omega)]; exact s10
  · by_cases e : m2 = m
    · subst e; rw [up_eq, ups_eq]; exact ⟨rfl, hx⟩
    · rw [up_ne (by omega), ups_ne (by omega)]; exact ⟨sv m2 hm2, a8 m2 hm2⟩
  · rw [ups_ne (by omega)] at hy
    rw [up_ne (by omega), up_ne (by omega), up_ne (by omega), ups_ne (by omega), ups_ne (by omega), ups_ne (by omega), ups_ne (by omega)]; exact ⟨sh y hy, a9 y hy⟩
theorem rr_wish {x : Nat} (hr : zRR A p b) (hh : h < b 0) (hx : x < 6) : zRR (up A (p + 5) h x) p (ups b (13 + 2 * h) x) := by
  obtain ⟨-, ⟨a0, a1, a2, a6, a7, a8, a9, -⟩, om, -, ⟨s1, s6, s7, s8, s9, s10, sv, sh⟩⟩ := id hr
  refine rr_chg hr (fun i => up_ne (by omega)) (fun i => up_ne (by omega)) (ups_ne (by omega)) (ups_ne (by omega)) (fun k hk => ups_ne (by omega)) (fun g hg => ups_ne (by omega)) ?_ ?_ ?_ ?_ ?_ ?_ ?_ ?_ ?_ ?_ (fun m2 hm2 => ?_) (fun y hy => ?_) (pm_of om (ups_ne (by omega)) (fun i hi => ups_ne (by omega)))
  · rw [up_ne (by omega), ups_ne (by omega)]; exact s1
  · rw [ups_ne (by omega)]; exact a0
  · rw [ups_ne (by omega)]; exact Nat.le_refl _
  · rw [up_ne (by omega), ups_ne (by omega)]; exact s6
  · rw [ups_ne (by omega)]; exact a1
  · rw [up_ne (by omega), ups_ne (by omega)]; exact s7
  · rw [ups_ne (by omega)]; exact a2
  · rw [up_ne (by omega), ups_ne (by omega)]; exact s8
  · rw [up_ne (by omega), ups_ne (by omega)]; exact s9
  · rw [up_ne (by omega), ups_ne (by omega)]; exact s10
  · rw [up_ne (by omega), ups_ne (by omega)]; exact ⟨sv m2 hm2, a8 m2 hm2⟩
  · rw [ups_ne (by omega)] at hy
    have e4 : up A (p + 5) h x (p + 4) y = A (p + 4) y := up_ne (by omega)
    have e6 : up A (p + 5) h x (p + 6) y = A (p + 6) y := up_ne (by omega)
    have f4 : ups b (13 + 2 * h) x (12 + 2 * y) = b (12 + 2 * y) := ups_ne (by omega)
    have f6 : ups b (13 + 2 * h) x (24 + y) = b (24 + y) := ups_ne (by omega)
    have f0 : ups b (13 + 2 * h) x 0 = b 0 := ups_ne (by omega)
    have hs := sh y hy
    have ha := a9 y hy
    rw [e4, e6, f4, f6, f0]
    by_cases e : y = h
    · subst e; rw [up_eq, ups_eq]; exact ⟨⟨hs.1, rfl, hs.2.2⟩, ha.1, hx, ha.2.2⟩
    · rw [up_ne (by omega), ups_ne (by omega)]; exact ⟨hs, ha⟩
/-- a mother vetoes -/
theorem rr_veto (hr : zRR A p b) (hm : m < 4) : zRR (vtA A p m) p (ups (ups b (8 + m) (b (8 + m) - 1)) 5 (b 5 + 1)) := by
  obtain ⟨-, ⟨a0, a1, a2, a6, a7, a8, a9, -⟩, om, -, ⟨s1, s6, s7, s8, s9, s10, sv, sh⟩⟩ := id hr
  have l : ∀ c i, ¬ (c = p + 7) → ¬ (c = p ∧ i = 10) → vtA A p m c i = A c i := fun c i h1 h2 => by
    unfold vtA
    rw [up_ne h2, up_ne (by omega)]
  have u : ∀ i, ¬ i = 8 + m → ¬ i = 5 → ups (ups b (8 + m) (b (8 + m) - 1)) 5 (b 5 + 1) i = b i := fun i h1 h2 => by
    rw [ups_ne h2, ups_ne h1]
  refine rr_chg hr (fun i => l _ _ (by omega) (by omega)) (fun i => l _ _ (by omega) (by omega)) (u _ (by omega) (by omega)) (u _ (by omega) (by omega)) (fun k hk => u _ (by omega) (by omega)) (fun g hg => u _ (by omega) (by omega)) ?_ ?_ ?_ ?_ ?_ ?_ ?_ ?_ ?_ ?_ (fun m2 hm2 => ?_) (fun y hy => ?_) (pm_of om (u _ (by omega) (by omega)) (fun i hi => u _ (by omega) (by omega)))
  · rw [l _ _ (by omega) (by omega), u _ (by omega) (by omega)]; exact s1
  · rw [u _ (by omega) (by omega)]; exact a0
  · rw [u _ (by omega) (by omega)]; exact Nat.le_refl _
  · rw [l _ _ (by omega) (by omega), u _ (by omega) (by omega)]; exact s6
  · rw [u _ (by omega) (by omega)]; exact a1
  · rw [l _ _ (by omega) (by omega), u _ (by omega) (by omega)]; exact s7
  · rw [u _ (by omega) (by omega)]; exact a2
  · rw [l _ _ (by omega) (by omega), u _ (by omega) (by omega)]; exact s8
  · rw [l _ _ (by omega) (by omega), u _ (by omega) (by omega)]; exact s9
  · rw [ups_eq, ← s10]; unfold vtA; rw [up_eq]
  · have hs := sv m2 hm2
    have ha := a8 m2 hm2
    unfold vtA
    by_cases e : m2 = m
    · subst e
      rw [up_ne (by omega), up_eq, ups_ne (by omega), ups_eq, hs]
      exact ⟨rfl, by omega⟩
    · rw [up_ne (by omega), up_ne (by omega), ups_ne (by omega), ups_ne (by omega)]; exact ⟨hs, ha⟩
  · rw [u _ (by omega) (by omega)] at hy
    rw [l _ _ (by omega) (by omega), l _ _ (by omega) (by omega), l _ _ (by omega) (by omega), u _ (by omega) (by omega), u _ (by omega) (by omega), u _ (by omega) (by omega), u _ (by omega) (by omega)]; exact ⟨sh y hy, a9 y hy⟩
/-- an heir comes -/
def cmB (b : Nat → Nat) (mo wi : Nat) : Nat → Nat := ups (ups (ups (ups b 0 (b 0 + 1)) (12 + 2 * b 0) mo) (13 + 2 * b 0) wi) (24 + b 0) (b 0)
theorem rr_come {mo wi : Nat} (hr : zRR A p b) (h6 : b 0 < 6) (hmo : mo < 4) (hwi : wi < 6) : zRR (ahA A p mo wi) p (cmB b mo wi) := by
  obtain ⟨-, ⟨a0, a1, a2, a6, a7, a8, a9, -⟩, om, -, ⟨s1, s6, s7, s8, s9, s10, sv, sh⟩⟩ := id hr
  have l : ∀ c i, ¬ (c = p + 4 ∧ i = b 0) → ¬ (c = p + 5 ∧ i = b 0) → ¬ (c = p + 6 ∧ i = b 0) → ¬ (c = p ∧ i = 1) → ahA A p mo wi c i = A c i := fun c i h1 h2 h3 h4 => by
    unfold ahA
    rw [s1, up_ne h4, up_ne h3, up_ne h2, up_ne h1]
  have u : ∀ i, ¬ i = 0 → ¬ i = 12 + 2 * b 0 → ¬ i = 13 + 2 * b 0 → ¬ i = 24 + b 0 → cmB b mo wi i = b i := fun i h1 h2 h3 h4 => by
    unfold cmB
    rw [ups_ne h4, ups_ne h3, ups_ne h2, ups_ne h1]
  have u0 : cmB b mo wi 0 = b 0 + 1 := by
    unfold cmB
    rw [ups_ne (by omega), ups_ne (by omega), ups_ne (by omega), ups_eq]
  have u24 : cmB b mo wi (24 + b 0) = b 0 := ups_eq
  refine rr_chg hr (fun i => l _ _ (by omega) (by omega) (by omega) (by omega)) (fun i => l _ _ (by omega) (by omega) (by omega) (by omega)) (u _ (by omega) (by omega) (by omega) (by omega)) (u _ (by omega) (by omega) (by omega) (by omega)) (fun k hk => u _ (by omega) (by omega) (by omega) (by omega)) (fun g hg => u _ (by omega) (by omega) (by omega) (by omega)) ?_ ?_ ?_ ?_ ?_ ?_ ?_ ?_ ?_ ?_ (fun m2 hm2 => ?_) (fun y hy => ?_) ⟨fun i j hi hj he => ?_, fun x hx => ?_⟩
  · rw [u0, ← s1]; unfold ahA; rw [up_eq]
  · rw [u0]; omega
  · rw [u0]; omega
  · rw [l _ _ (by omega) (by omega) (by omega) (by omega), u _ (by omega) (by omega) (by omega) (by omega)]; exact s6
  · rw [u _ (by omega) (by omega) (by omega) (by omega)]; exact a1
  · rw [l _ _ (by omega) (by omega) (by omega) (by omega), u _ (by omega) (by omega) (by omega) (by omega)]; exact s7
  · rw [u _ (by omega) (by omega) (by omega) (by omega)]; exact a2
  · rw [l _ _ (by omega) (by omega) (by omega) (by omega), u _ (by omega) (by omega) (by omega) (by omega)]; exact s8
  · rw [l _ _ (by omega) (by omega) (by omega) (by omega), u _ (by omega) (by omega) (by omega) (by omega)]; exact s9
  · rw [l _ _ (by omega) (by omega) (by omega) (by omega), u _ (by omega) (by omega) (by omega) (by omega)]; exact s10
  · rw [l _ _ (by omega) (by omega) (by omega) (by omega), u _ (by omega) (by omega) (by omega) (by omega)]; exact ⟨sv m2 hm2, a8 m2 hm2⟩
  · rw [u0] at hy ⊢
    by_cases e : y = b 0
    · subst e
      have w4 : ahA A p mo wi (p + 4) (b 0) = mo := by
        unfold ahA
        rw [s1, up_ne (by omega), up_ne (by omega), up_ne (by omega), up_eq]
      have w5 : ahA A p mo wi (p + 5) (b 0) = wi := by
        unfold ahA
        rw [s1, up_ne (by omega), up_ne (by omega), up_eq]
      have w6 : ahA A p mo wi (p + 6) (b 0) = b 0 := by
        unfold ahA
        rw [s1, up_ne (by omega), up_eq]
      have v4 : cmB b mo wi (12 + 2 * b 0) = mo := by
        unfold cmB
        rw [ups_ne (by omega), ups_ne (by omega), ups_eq]
      have v5 : cmB b mo wi (13 + 2 * b 0) = wi := by
        unfold cmB
        rw [ups_ne (by omega), ups_eq]
      rw [w4, w5, w6, v4, v5, u24]
      exact ⟨⟨rfl, rfl, rfl⟩, hmo, hwi, by omega⟩
    · have hs := sh y (by omega)
      have ha := a9 y (by omega)
      rw [l _ _ (by omega) (by omega) (by omega) (by omega), l _ _ (by omega) (by omega) (by omega) (by omega), l _ _ (by omega) (by omega) (by omega) (by omega), u _ (by omega) (by omega) (by omega) (by omega), u _ (by omega) (by omega) (by omega) (by omega), u _ (by omega) (by omega) (by omega) (by omega)]
      exact ⟨hs, ha.1, ha.2.1, by omega⟩
  · rw [u0] at hi hj
    by_cases e1 : i = b 0
    · by_cases e2 : j = b 0
      · omega
      · subst e1
        rw [u24, u _ (by omega) (by omega) (by omega) (by omega)] at he
        have := (a9 j (by omega)).2.2
        omega
    · by_cases e2 : j = b 0
      · subst e2
        rw [u24, u _ (by omega) (by omega) (by omega) (by omega)] at he
        have := (a9 i (by omega)).2.2
        omega
      · rw [u _ (by omega) (by omega) (by omega) (by omega), u _ (by omega) (by omega) (by omega) (by omega)] at he
        exact om.1 i j (by omega) (by omega) he
  · rw [u0] at hx ⊢
    by_cases e : x = b 0
    · exact ⟨b 0, by omega, by rw [u24, e]⟩
    · obtain ⟨j, j1, j2⟩ := om.2 x (by omega)
      exact ⟨j, by omega, by rw [u _ (by omega) (by omega) (by omega) (by omega)]; exact j2⟩
/-- a marble more in the hopper -/
def drB (b : Nat → Nat) (x : Nat) : Nat → Nat := ups (ups b (30 + b 6) x) 6 (b 6 + 1)
theorem rr_drop {x : Nat} (hr : zRR A p b) (hx : x < 60) (h6 : b 6 < 40) (h7 : b 6 + b 7 < 120) : zRR (zadd1 A p x) p (drB b x) := by
  obtain ⟨⟨o1, o2, o3, o4, o5, o6, o7⟩, ⟨a0, a1, a2, a6, a7, a8, a9, a10, a11⟩, om, ⟨r1, r2, r3, r4, r5⟩, ⟨s1, s6, s7, s8, s9, s10, sv, sh⟩⟩ := id hr
  have l : ∀ c i, ¬ (c = p + 2 ∧ i = A (p + 3) 7) → ¬ (c = p + 3 ∧ i = 7) → zadd1 A p x c i = A c i := fun c i h1 h2 => by
    unfold zadd1
    rw [up_ne h2, up_ne h1]
  have u : ∀ i, ¬ i = 6 → ¬ i = 30 + b 6 → drB b x i = b i := fun i h1 h2 => by
    unfold drB
    rw [ups_ne h1, ups_ne h2]
  have u6 : drB b x 6 = b 6 + 1 := ups_eq
  have u3 : drB b x (30 + b 6) = x := by
    unfold drB
    rw [ups_ne (by omega), ups_eq]
  have hs7 : zadd1 A p x (p + 3) 7 = A (p + 3) 7 + 1 := by unfold zadd1; rw [up_eq]
  have hro : ∀ g, g < b 7 → own (drB b x) g = own b g := fun g hg => by unfold own; rw [u _ (by omega) (by omega)]
  have hco : ∀ g, g < b 7 → cod (drB b x) g = cod b g := fun g hg => by unfold cod; rw [u _ (by omega) (by omega)]
  have hz6 : A (p + 3) 7 - A (p + 3) 6 = b 6 := r2
  have m6 : A (p + 3) 6 ≤ A (p + 3) 7 := o1.1 6 (by omega)
  refine ⟨⟨ad_mo o1 (by omega), fun i hi => ?_, ?_, fun j hj => ?_, ?_, ?_, fun m hm => ?_⟩, ⟨?_, ?_, ?_, ?_, ?_, fun m hm => ?_, fun y hy => ?_, fun k hk => ?_, fun g hg => ?_⟩, pm_of om (u _ (by omega) (by omega)) (fun i hi => u _ (by omega) (by omega)), ⟨fun y hy => ?_, ?_, ?_, fun k hk => ?_, fun g hg => ?_⟩, ⟨?_, ?_, ?_, ?_, ?_, ?_, fun m hm => ?_, fun y hy => ?_⟩⟩
  · by_cases e : i = A (p + 3) 7
    · subst e
      unfold zadd1
      rw [up_ne (by omega), up_eq]; omega
    · rw [l _ _ (by omega) (by omega)]; exact o2 i hi
  · rw [l _ _ (by omega) (by omega)]; exact o3
  · rw [l _ _ (by omega) (by omega)] at hj ⊢
    rw [l _ _ (by omega) (by omega), l _ _ (by omega) (by omega), l _ _ (by omega) (by omega)]; exact o4 j hj
  · rw [l _ _ (by omega) (by omega)]; exact o5
  · rw [l _ _ (by omega) (by omega)]; exact o6
  · rw [l _ _ (by omega) (by omega)]; exact o7 m hm
  · rw [u _ (by omega) (by omega)]; exact a0
  · rw [u _ (by omega) (by omega)]; exact a1
  · rw [u _ (by omega) (by omega)]; exact a2
  · rw [u6]; omega
  · rw [u6, u _ (by omega) (by omega)]; omega
  · rw [u _ (by omega) (by omega)]; exact a8 m hm
  · rw [u 0 (by omega) (by omega)] at hy ⊢
    rw [u _ (by omega) (by omega), u _ (by omega) (by omega), u _ (by omega) (by omega)]; exact a9 y hy
  · rw [u6] at hk
    by_cases e : k = b 6
    · rw [e, u3]; exact hx
    · rw [u _ (by omega) (by omega)]; exact a10 k (by omega)
  · rw [u 7 (by omega) (by omega)] at hg
    rw [u _ (by omega) (by omega), u _ (by omega) (by omega)]; exact a11 g hg
  · rw [u 7 (by omega) (by omega), rk_congr hro, ← r1 y hy]
    unfold zcnt
    rw [l _ _ (by omega) (by omega), l _ _ (by omega) (by omega)]
  · rw [ad_cnt o1, u6, r2]
  · rw [hs7, u6, u 7 (by omega) (by omega), r3]; omega
  · rw [u6] at hk
    rw [l (p + 3) 6 (by omega) (by omega)]
    by_cases e : k = b 6
    · rw [e, u3]
      have e7 : A (p + 3) 6 + b 6 = A (p + 3) 7 := by omega
      rw [e7]
      unfold zadd1
      rw [up_ne (by omega), up_eq]
    · rw [l _ _ (by omega) (by omega), u _ (by omega) (by omega)]; exact r4 k (by omega)
  · rw [u 7 (by omega) (by omega)] at hg
    have hog : own b g < 6 := by have := (bO_g hr.2.1 hg).1; omega
    have hlt := rk_lt (b := b) (g := g) (n := b 7) hg
    rw [← r1 _ hog] at hlt
    have m1 := zmo_le o1 (a := own b g + 1) (b := 7) (by omega) (by omega)
    have hz : zcnt A p (own b g) = A (p + 3) (own b g + 1) - A (p + 3) (own b g) := rfl
    rw [hro g hg, rk_congr (fun y hy => hro y (by omega)), hco g hg, l (p + 3) _ (by omega) (by omega), l _ _ (by omega) (by omega)]
    exact r5 g hg
  · rw [l _ _ (by omega) (by omega), u _ (by omega) (by omega)]; exact s1
  · rw [l _ _ (by omega) (by omega), u _ (by omega) (by omega)]; exact s6
  · rw [l _ _ (by omega) (by omega), u _ (by omega) (by omega)]; exact s7
  · rw [l _ _ (by omega) (by omega), u _ (by omega) (by omega)]; exact s8
  · rw [l _ _ (by omega) (by omega), u _ (by omega) (by omega)]; exact s9
  · rw [l _ _ (by omega) (by omega), u _ (by omega) (by omega)]; exact s10
  · rw [l _ _ (by omega) (by omega), u _ (by omega) (by omega)]; exact sv m hm
  · rw [u 0 (by omega) (by omega)] at hy
    rw [l _ _ (by omega) (by omega), l _ _ (by omega) (by omega), l _ _ (by omega) (by omega), u _ (by omega) (by omega), u _ (by omega) (by omega), u _ (by omega) (by omega)]; exact sh y hy
end CH
