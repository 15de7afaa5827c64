/-! an exchange on both sides -/
section EX
variable {A B : Nat → Nat → Nat} {b c : Nat → Nat} {p q h k g n m s i j : Nat}
/-- places of the row are told apart by the marbles -/
theorem rm_inj (ho : bOk b) (hm : zmo A p) (hr : zRM A p b) {g k : Nat} (hg : g < b 7) (hk : k < b 7) (he : A (p + 3) (own b g) + rk b (own b g) g = A (p + 3) (own b k) + rk b (own b k) k) : g = k := by
  have h0 := ho.1
  have one : ∀ g, g < b 7 → own b g < 6 ∧ rk b (own b g) g < A (p + 3) (own b g + 1) - A (p + 3) (own b g) := fun g hg => by
    have h1 := (bO_g ho hg).1
    have h2 := rk_lt (b := b) (g := g) (n := b 7) hg
    rw [← hr.1 (own b g) (by omega)] at h2
    exact ⟨by omega, h2⟩
  have h1 := one g hg
  have h2 := one k hk
  rcases Nat.lt_trichotomy (own b g) (own b k) with e | e | e
  · have := zmo_le hm (a := own b g + 1) (b := own b k) (by omega) (by omega)
    omega
  · rw [e] at he
    have e2 : rk b (own b k) g = rk b (own b k) k := by omega
    rcases Nat.lt_trichotomy g k with f | f | f
    · have h3 := rk_lt (b := b) (g := g) (n := k) f
      rw [e] at h3
      omega
    · exact f
    · have h3 := rk_lt (b := b) (g := k) (n := g) f
      omega
  · have := zmo_le hm (a := own b k + 1) (b := own b g) (by omega) (by omega)
    omega
theorem rr_swap (hr : zRR A p b) (hg : g < b 7) (hk : k < b 7) (hne : own b g ≠ own b k) : zRR (exA A p (A (p + 3) (own b g) + rk b (own b g) g) (A (p + 3) (own b k) + rk b (own b k) k)) p (swB b g k) := by
  obtain ⟨⟨o1, o2, o3, o4, o5, o6, o7⟩, ⟨a0, a1, a2, a6, a7, a8, a9, a10, a11⟩, om, hm, ⟨s1, s6, s7, s8, s9, s10, sv, sh⟩⟩ := id hr
  obtain ⟨r1, r2, r3, r4, r5⟩ := id hm
  have gk : g ≠ k := fun e => hne (by rw [e])
  have bg := bO_g hr.2.1 hg
  have bk := bO_g hr.2.1 hk
  have in6 : ∀ g, g < b 7 → A (p + 3) (own b g) + rk b (own b g) g < A (p + 3) 6 := fun g hg => by
    have h1 := (bO_g hr.2.1 hg).1
    have h2 := rk_lt (b := b) (g := g) (n := b 7) hg
    rw [← r1 (own b g) (by omega)] at h2
    have hz : zcnt A p (own b g) = A (p + 3) (own b g + 1) - A (p + 3) (own b g) := rfl
    have := zmo_le o1 (a := own b g + 1) (b := 6) (by omega) (by omega)
    omega
  have ig := in6 g hg
  have ik := in6 k hk
  have i6 := zmo_120 o1 (b := 6) (by omega)
  generalize hx : A (p + 3) (own b g) + rk b (own b g) g = x at ig
  generalize hy : A (p + 3) (own b k) + rk b (own b k) k = y at ik
  have vx : A (p + 2) x = cod b g := by rw [← hx]; exact r5 g hg
  have vy : A (p + 2) y = cod b k := by rw [← hy]; exact r5 k hk
  have xy : x ≠ y := fun e => gk (rm_inj hr.2.1 o1 hm hg hk (by rw [hx, hy, e]))
  have l : ∀ c i, ¬ (c = p + 2) → ¬ (c = p ∧ i = 9) → exA A p x y c i = A c i := fun c i h1 h2 => by
    unfold exA trA
    rw [up_ne h2, up_ne (by omega), up_ne (by omega)]
  have lx : exA A p x y (p + 2) x = cod b k := by
    unfold exA trA
    rw [up_ne (by omega), up_ne (by omega), up_eq, vy]
  have ly : exA A p x y (p + 2) y = cod b g := by
    unfold exA trA
    rw [up_ne (by omega), up_eq, vx]
  have lo : ∀ i, i ≠ x → i ≠ y → exA A p x y (p + 2) i = A (p + 2) i := fun i h1 h2 => by
    unfold exA trA
    rw [up_ne (by omega), up_ne (by omega), up_ne (by omega)]
  have u : ∀ i, ¬ i = 4 → ¬ i = 70 + k → ¬ i = 70 + g → swB b g k i = b i := fun i h1 h2 h3 => by
    unfold swB
    rw [if_neg h1, if_neg h2, if_neg h3]
  have uk : swB b g k (70 + k) = 100 * own b k + cod b g := by
    unfold swB
    rw [if_neg (by omega), if_pos rfl]
  have ug : swB b g k (70 + g) = 100 * own b g + cod b k := by
    unfold swB
    rw [if_neg (by omega), if_neg (by omega), if_pos rfl]
  have hro : ∀ t, own (swB b g k) t = own b t := fun t => by
    unfold own
    by_cases e1 : t = k
    · subst e1; rw [uk]; unfold own at *; omega
    · by_cases e2 : t = g
      · subst e2; rw [ug]; unfold own at *; omega
      · rw [u _ (by omega) (by omega) (by omega)]
  have hcg : cod (swB b g k) g = cod b k := by unfold cod at *; rw [ug]; omega
  have hck : cod (swB b g k) k = cod b g := by unfold cod at *; rw [uk]; omega
  have hco : ∀ t, t ≠ g → t ≠ k → cod (swB b g k) t = cod b t := fun t h1 h2 => by unfold cod; rw [u _ (by omega) (by omega) (by omega)]
  have hrk : ∀ z t, rk (swB b g k) z t = rk b z t := fun z t => rk_congr (fun w _ => hro w)
  have hzc : ∀ z, zcnt (exA A p x y) p z = zcnt A p z := fun z => by unfold zcnt; rw [l _ _ (by omega) (by omega), l _ _ (by omega) (by omega)]
  have t3 : ∀ i, exA A p x y (p + 3) i = A (p + 3) i := fun i => l _ _ (by omega) (by omega)
  refine ⟨⟨⟨fun j hj => ?_, ?_⟩, fun i hi => ?_, ?_, fun j hj => ?_, ?_, ?_, fun m hm => ?_⟩, ⟨?_, ?_, ?_, ?_, ?_, fun m hm => ?_, fun y hy => ?_, fun t ht => ?_, fun t ht => ?_⟩, pm_of om (u _ (by omega) (by omega) (by omega)) (fun i hi => u _ (by omega) (by omega) (by omega)), ⟨fun y hy => ?_, ?_, ?_, fun t ht => ?_, fun t ht => ?_⟩, ⟨?_, ?_, ?_, ?_, ?_, ?_, fun m hm => ?_, fun y hy => ?_⟩⟩
  · rw [t3, t3]; exact o1.1 j hj
  · rw [t3]; exact o1.2
  · by_cases e1 : i = x
    · rw [e1, lx]; omega
    · by_cases e2 : i = y
      · rw [e2, ly]; omega
      · rw [lo i e1 e2]; exact o2 i hi
  · rw [l _ _ (by omega) (by omega)]; exact o3
  · rw [l _ _ (by omega) (by omega)] at hj ⊢
    rw [l _ _ (by omega) (by omega), l _ _ (by omega) (by omega), l _ _ (by omega) (by omega)]; exact o4 j hj
  · rw [l _ _ (by omega) (by omega)]; exact o5
  · rw [l _ _ (by omega) (by omega)]; exact o6
  · rw [l _ _ (by omega) (by omega)]; exact o7 m hm
  · rw [u _ (by omega) (by omega) (by omega)]; exact a0
  · rw [u _ (by omega) (by omega) (by omega)]; exact a1
  · rw [u _ (by omega) (by omega) (by omega)]; exact a2
  · rw [u _ (by omega) (by omega) (by omega)]; exact a6
  · rw [u _ (by omega) (by omega) (by omega), u _ (by omega) (by omega) (by omega)]; exact a7
  · rw [u _ (by omega) (by omega) (by omega)]; exact a8 m hm
  · rw [u 0 (by omega) (by omega) (by omega)] at hy ⊢
    rw [u _ (by omega) (by omega) (by omega), u _ (by omega) (by omega) (by omega), u _ (by omega) (by omega) (by omega)]; exact a9 y hy
  · rw [u 6 (by omega) (by omega) (by omega)] at ht
    rw [u _ (by omega) (by omega) (by omega)]; exact a10 t ht
  · rw [u 7 (by omega) (by omega) (by omega)] at ht
    rw [u 0 (by omega) (by omega) (by omega)]
    have e1 : swB b g k (70 + t) / 100 = own b t := hro t
    have e2 : swB b g k (70 + t) % 100 = cod (swB b g k) t := rfl
    rw [e1, e2]
    refine ⟨(bO_g hr.2.1 ht).1, ?_⟩
    by_cases f1 : t = g
    · rw [f1, hcg]; omega
    · by_cases f2 : t = k
      · rw [f2, hck]; omega
      · rw [hco t f1 f2]; exact (bO_g hr.2.1 ht).2.1
  · rw [hzc, u 7 (by omega) (by omega) (by omega), hrk, r1 y hy]
  · rw [hzc, u 6 (by omega) (by omega) (by omega), r2]
  · rw [t3, u 6 (by omega) (by omega) (by omega), u 7 (by omega) (by omega) (by omega), r3]
  · rw [u 6 (by omega) (by omega) (by omega)] at ht
    rw [t3, lo _ (by omega) (by omega), u _ (by omega) (by omega) (by omega)]; exact r4 t ht
  · rw [u 7 (by omega) (by omega) (by omega)] at ht
    rw [hro, hrk, t3]
    by_cases f1 : t = g
    · rw [f1, hcg, hx, lx]
    · by_cases f2 : t = k
      · rw [f2, hck, hy, ly]
      · rw [hco t f1 f2, lo _ (fun e => f1 (rm_inj hr.2.1 o1 hm ht hg (by rw [hx]; exact e))) (fun e => f2 (rm_inj hr.2.1 o1 hm ht hk (by rw [hy]; exact e)))]
        exact r5 t ht
  · rw [l _ _ (by omega) (by omega), u _ (by omega) (by omega) (by omega)]; exact s1
  · rw [l _ _ (by omega) (by omega), u _ (by omega) (by omega) (by omega)]; exact s6
  · rw [l _ _ (by omega) (by omega), u _ (by omega) (by omega) (by omega)]; exact s7
  · rw [l _ _ (by omega) (by omega), u _ (by omega) (by omega) (by omega)]; exact s8
  · have : swB b g k 4 = b 4 + 1 := if_pos rfl
    rw [this, ← s9]
    exact up_eq
  · rw [l _ _ (by omega) (by omega), u _ (by omega) (by omega) (by omega)]; exact s10
  · rw [l _ _ (by omega) (by omega), u _ (by omega) (by omega) (by omega)]; exact sv m hm
  · rw [u 0 (by omega) (by omega) (by omega)] at hy
    rw [l _ _ (by omega) (by omega), l _ _ (by omega) (by omega), l _ _ (by omega) (by omega), u _ (by omega) (by omega) (by omega), u _ (by omega) (by omega) (by omega), u _ (by omega) (by omega) (by omega)]; exact sh y hy
end EX
