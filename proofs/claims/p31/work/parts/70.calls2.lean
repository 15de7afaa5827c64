/-! the calls of the class: swap, settle, and what would be -/
/-- the values of all marbles -/
def WA (A : Nat → Nat → Nat) : Nat := zsum (fun i => A 3 i % 10) 0 (A 4 7)
def spU (b : Nat → Nat) (r : Nat) : Nat := sprB (dvB (b 6) (ups b 1 r)).2 (msr (dvB (b 6) (ups b 1 r)).2 1)
def frS (S : Nat → Nat) : Nat → Nat × Nat
  | 0 => (0, S 0)
  | k + 1 => if S (k + 1) < (frS S k).2 then (k + 1, S (k + 1)) else frS S k
section OC
variable {A B W T : Nat → Nat → Nat} {b c : Nat → Nat} {p q h k g n m i j t r : Nat} {scr : List Int32}
theorem zsum_one {f f' : Nat → Nat} (he : ∀ i, i ≠ g → f' i = f i) : ∀ n, g < n → zsum f' 0 n + f g = zsum f 0 n + f' g
  | 0, h => by omega
  | n + 1, h => by
    show zsum f' 0 n + f' (0 + n) + f g = zsum f 0 n + f (0 + n) + f' g
    rw [Nat.zero_add]
    by_cases e : g = n
    · subst e
      have : ∀ m, m ≤ g → zsum f' 0 m = zsum f 0 m := by
        intro m hm
        exact zsum_congr (fun i hi => he _ (by omega))
      rw [this g (Nat.le_refl _)]; omega
    · have := zsum_one he n (by omega)
      rw [he n (fun q => e q.symm)]
      omega
theorem zsum_two {f f' : Nat → Nat} (hgk : g ≠ k) (he : ∀ i, i ≠ g → i ≠ k → f' i = f i) (hg : g < n) (hk : k < n) : zsum f' 0 n + f g + f k = zsum f 0 n + f' g + f' k := by
  have h1 := zsum_one (f := f) (f' := fun i => if i = g then f' g else f i) (g := g) (fun i hi => if_neg hi) n hg
  have h2 := zsum_one (f := fun i => if i = g then f' g else f i) (f' := f') (g := k) (fun i hi => by
    by_cases e : i = g
    · rw [if_pos e, e]
    · rw [if_neg e]; exact he i e hi) n hk
  simp only [if_pos, if_neg (fun q : k = g => hgk q.symm)] at h1 h2
  omega
theorem wsh_le : ∀ n, wsh b n ≤ n
  | 0 => Nat.le_refl _
  | n + 1 => by
    show wsh b n + (if b (13 + 2 * own b (0 + n)) = cod b (0 + n) / 10 then 1 else 0) ≤ n + 1
    have := wsh_le n
    split <;> omega
theorem sw_facts (ho : bOk b) (hg : g < b 7) (hk : k < b 7) (hgk : g ≠ k) : (∀ t, own (swB b g k) t = own b t) ∧ cod (swB b g k) g = cod b k ∧ cod (swB b g k) k = cod b g ∧ (∀ t, t ≠ g → t ≠ k → cod (swB b g k) t = cod b t) ∧ (∀ i, i ≠ 4 → i < 70 → swB b g k i = b i) := by
  have bg := bO_g ho hg
  have bk := bO_g ho hk
  have u : ∀ i, ¬ i = 4 → ¬ i = 70 + k → ¬ i = 70 + g → swB b g k i = b i := fun i h1 h2 h3 => by
    unfold swB
    rw [if_neg h1, if_neg h2, if_neg h3]
  have uk : swB b g k (70 + k) = 100 * own b k + cod b g := by
    unfold swB
    rw [if_neg (by omega), if_pos rfl]
  have ug : swB b g k (70 + g) = 100 * own b g + cod b k := by
    unfold swB
    rw [if_neg (by omega), if_neg (by omega), if_pos rfl]
  refine ⟨fun t => ?_, by unfold cod at *; rw [ug]; omega, by unfold cod at *; rw [uk]; omega, fun t h1 h2 => by unfold cod; rw [u _ (by omega) (by omega) (by omega)], fun i h1 h2 => u i h1 (by omega) (by omega)⟩
  unfold own
  by_cases e1 : t = k
  · subst e1; rw [uk]; unfold own at *; omega
  · by_cases e2 : t = g
    · subst e2; rw [ug]; unfold own at *; omega
    · rw [u _ (by omega) (by omega) (by omega)]
theorem wsh_swap (ho : bOk b) (hg : g < b 7) (hk : k < b 7) (hgk : g ≠ k) : wsh (swB b g k) (b 7) + gMi b g k = wsh b (b 7) + gPl b g k := by
  obtain ⟨f1, f2, f3, f4, f5⟩ := sw_facts ho hg hk hgk
  have h0 := ho.1
  have ow : ∀ t, t < b 7 → swB b g k (13 + 2 * own b t) = b (13 + 2 * own b t) := fun t ht => by
    have := (bO_g ho ht).1
    exact f5 _ (by omega) (by omega)
  have e1 : wsh (swB b g k) (b 7) = zsum (fun t => if b (13 + 2 * own b t) = cod (swB b g k) t / 10 then 1 else 0) 0 (b 7) := by
    unfold wsh
    refine zsum_congr (fun t ht => ?_)
    show (if swB b g k (13 + 2 * own (swB b g k) (0 + t)) = cod (swB b g k) (0 + t) / 10 then 1 else 0) = _
    rw [f1, ow _ (by omega)]
  have h2 := zsum_two (n := b 7) (f := fun t => if b (13 + 2 * own b t) = cod b t / 10 then 1 else 0) (f' := fun t => if b (13 + 2 * own b t) = cod (swB b g k) t / 10 then 1 else 0) hgk (fun t a1 a2 => by show (if _ then _ else _) = _; rw [f4 t a1 a2]) hg hk
  rw [e1]
  simp only [f2, f3] at h2
  unfold wsh gMi gPl one1
  omega
/-- the same veto -/
theorem vt_eq (hr : zRR A p b) (hg : g < b 7) (hk : k < b 7) : vtr A p (own b g) (rk b (own b g) g) (own b k) (rk b (own b k) k) = vtB b g k := by
  obtain ⟨-, -, s7, -, -, -, sv, sh⟩ := hr.2.2.2.2
  have m1 := rr_m hr hg
  have m2 := rr_m hr hk
  have e1 := (bO_g hr.2.1 hg).1
  have e2 := (bO_g hr.2.1 hk).1
  have h1 := sh _ e1
  have h2 := sh _ e2
  have a1 := hr.2.1.2.2.2.2.2.2.1 _ e1
  have a2 := hr.2.1.2.2.2.2.2.2.1 _ e2
  unfold vtr vtB mval
  rw [m1, m2, h1.1, h2.1, s7, sv _ a1.1, sv _ a2.1]
theorem vtB_cases (ho : bOk b) (hg : g < b 7) (hk : k < b 7) : vtB b g k = -6 ∨ ∃ m, m < 4 ∧ 0 < b (8 + m) ∧ vtB b g k = nI m := by
  have e1 := (bO_g ho hg).1
  have e2 := (bO_g ho hk).1
  have a1 := (ho.2.2.2.2.2.2.1 _ e1).1
  have a2 := (ho.2.2.2.2.2.2.1 _ e2).1
  unfold vtB vto
  by_cases c1 : b 2 + cod b k % 10 < cod b g % 10 ∧ 0 < b (8 + b (12 + 2 * own b g))
  · rw [if_pos c1]; exact Or.inr ⟨_, a1, c1.2, rfl⟩
  · rw [if_neg c1]
    by_cases c2 : b 2 + cod b g % 10 < cod b k % 10 ∧ 0 < b (8 + b (12 + 2 * own b k))
    · rw [if_pos c2]; exact Or.inr ⟨_, a2, c2.2, rfl⟩
    · rw [if_neg c2]; exact Or.inl rfl
theorem abt_n (hr : zRR A p b) (hh : h < b 0) : abt A p h 2 = rk b h (b 7) ∧ abt A p h 3 = wrt b h ∧ abt A p h 4 = rsm b (fun x => if x / 10 = b (13 + 2 * h) then 1 else 0) h (b 7) := by
  have h0 := hr.2.1.1
  have hs := hr.2.2.2.2.2.2.2.2.2.2.2 h hh
  refine ⟨hr.2.2.2.1.1 h (by omega), rm_val hr.2.2.2.1 (by omega), ?_⟩
  show zcol A p h (A (p + 5) h) = _
  rw [rm_col hr.2.2.2.1 (by omega), hs.2.1]
theorem cp9 (hr : zRR A 1 b) : zRR (cpS A 1 9) 9 b := zRR_move (fun t i ht => by
    unfold cpS
    rw [if_pos (by omega)]
    exact zAe (by omega) rfl) (fun _ _ => rfl) hr
theorem cp9_o {c i : Nat} (hc : c ≤ 8 ∨ 17 ≤ c) : cpS A 1 9 c i = A c i := by
  unfold cpS
  rw [if_neg (by omega)]
theorem spr_eq (hr : zRR A 1 b) (k w : Nat) (he : ∀ h, h < b 0 → abt A 1 h k = msr b w h) : sprd A 1 k = sprB b (msr b w) := by
  unfold sprd sprB
  rw [rr_n hr]
  by_cases e : b 0 = 0
  · rw [if_pos e, if_pos e]
  · rw [if_neg e, if_neg e, zmax_congr (fun i hi => he i (by omega)), zmin_congr (fun i hi => he i (by omega))]
theorem zsum_add (f e : Nat → Nat) : ∀ n, zsum (fun i => f i + e i) 0 n = zsum f 0 n + zsum e 0 n
  | 0 => rfl
  | n + 1 => by
    show zsum (fun i => f i + e i) 0 n + (f (0 + n) + e (0 + n)) = zsum f 0 n + f (0 + n) + (zsum e 0 n + e (0 + n))
    rw [zsum_add f e n]
    omega
theorem zsum_pick (f : Nat → Nat) {x : Nat} : ∀ n, zsum (fun i => if x = i then f i else 0) 0 n = if x < n then f x else 0
  | 0 => by rw [if_neg (Nat.not_lt_zero _)]; rfl
  | n + 1 => by
    show zsum (fun i => if x = i then f i else 0) 0 n + (if x = 0 + n then f (0 + n) else 0) = _
    rw [zsum_pick f n, Nat.zero_add]
    by_cases e : x = n
    · rw [if_pos e, if_neg (by omega), if_pos (by omega), e]; omega
    · by_cases e2 : x < n
      · rw [if_neg e, if_pos e2, if_pos (by omega)]; omega
      · rw [if_neg e, if_neg e2, if_neg (by omega)]
theorem zsum_z : ∀ n, zsum (fun _ => 0) 0 n = 0
  | 0 => rfl
  | n + 1 => zsum_z n
theorem sum_ex (F : Nat → Nat → Nat) : ∀ G, (∀ g, g < G → own b g < n) → zsum (fun h => rsm b (F h) h G) 0 n = zsum (fun g => F (own b g) (cod b g)) 0 G
  | 0, _ => zsum_z n
  | G + 1, hG => by
    have e : (fun h => rsm b (F h) h (G + 1)) = fun h => rsm b (F h) h G + if own b G = h then F h (cod b G) else 0 := by
      funext h
      rw [rsm_succ]
    rw [e, zsum_add, sum_ex F G (fun g hg => hG g (by omega)), zsum_pick (fun h => F h (cod b G)), if_pos (hG G (by omega))]
    show _ = zsum _ 0 G + F (own b (0 + G)) (cod b (0 + G))
    rw [Nat.zero_add]
theorem zsum_1 : ∀ n, zsum (fun _ => 1) 0 n = n
  | 0 => rfl
  | n + 1 => by
    show zsum (fun _ => 1) 0 n + 1 = n + 1
    rw [zsum_1 n]
theorem rk_rsm : rk b h n = rsm b (fun _ => 1) h n := rfl
theorem WA_ex {one two : Nat} (h1 : one < A 4 7) (h2 : two < A 4 7) : WA (exA A 1 one two) = WA A := by
  have e4 : exA A 1 one two 4 7 = A 4 7 := by
    unfold exA trA
    rw [up_ne (by omega), up_ne (by omega), up_ne (by omega)]
  unfold WA
  rw [e4]
  by_cases e : one = two
  · subst e
    refine zsum_congr (fun i hi => ?_)
    show exA A 1 one one 3 (0 + i) % 10 = A 3 (0 + i) % 10
    unfold exA trA
    rw [up_ne (by omega)]
    by_cases e : 0 + i = one
    · rw [e, show (3 : Nat) = 1 + 2 from rfl, up_eq]
    · rw [up_ne (by omega), up_ne (by omega)]
  · have := zsum_two (f := fun i => A 3 i % 10) (f' := fun i => exA A 1 one two 3 i % 10) e (fun i a1 a2 => by
      show exA A 1 one two 3 i % 10 = A 3 i % 10
      unfold exA trA
      rw [up_ne (by omega), up_ne (by omega), up_ne (by omega)]) h1 h2
    have x1 : exA A 1 one two 3 one = A 3 two := by
      unfold exA trA
      rw [up_ne (by omega), up_ne (by omega), show (3 : Nat) = 1 + 2 from rfl, up_eq]
    have x2 : exA A 1 one two 3 two = A 3 one := by
      unfold exA trA
      rw [up_ne (by omega), show (3 : Nat) = 1 + 2 from rfl, up_eq]
    simp only [x1, x2] at this
    omega
theorem in_all (hm : zmo A 1) (hh : h < 7) (hi : i < zcnt A 1 h) : A 4 h + i < A 4 7 := by
  have h1 := zmo_le hm (a := h + 1) (b := 7) (by omega) (Nat.le_refl _)
  unfold zcnt at hi
  show A (1 + 3) h + i < A (1 + 3) 7
  omega
theorem find_g (hr : zRR A 1 b) (hh : h < b 0) (hi : i < zcnt A 1 h) : ∃ x, x < b 7 ∧ own b x = h ∧ rk b (own b x) x = i := by
  have h0 := hr.2.1.1
  rw [hr.2.2.2.1.1 h (by omega)] at hi
  obtain ⟨x, x1, x2, x3⟩ := rk_find (b 7) hi
  exact ⟨x, x1, x2, by rw [x2]; exact x3⟩
theorem vtr_kp (ho : pastOk A) (hh : A 5 h < 4) (hg : A 5 g < 4) : vtr (kpA A 1) 1 h i g j = vtr A 1 h i g j := by
  unfold vtr mval
  rw [kp_off ho (by omega), kp_off ho (by omega), kp_off ho (by omega), kp_off ho (by omega), kp_off ho (by omega), kp_off ho (by omega), kp_off ho (by omega), kp_off ho (by omega), kp_off ho (by omega)]
theorem c_swapE (hi : pvA A b) (hh : h < 1000) (hi2 : i < 1000) (hg : g < 1000) (hj : j < 1000) (he : ¬ swe A h i g j = 0) : zC scr 62 [.ref 0, .int (nI h), .int (nI i), .int (nI g), .int (nI j)] (wd A) = some (some (.int (swe A h i g j)), wd A) := by
  rw [zC_of zh62]
  refine (b62_0 (o_ob o_0) (c_swe hi.1 hh hi2 hg hj)).trans ?_
  rw [if_neg he]
  exact b62_16
theorem c_swap0 (hi : pvA A b) (hh : h < A 1 1) (hi2 : i < zcnt A 1 h) (hg : g < A 1 1) (hj : j < zcnt A 1 g) (hne : h ≠ g) (hv : vtr A 1 h i g j = -6) : zC scr 62 [.ref 0, .int (nI h), .int (nI i), .int (nI g), .int (nI j)] (wd A) = some (some (.int (-6)), wd (exA (kpA A 1) 1 (A 4 h + i) (A 4 g + j))) ∧ ∃ b', pvA (exA (kpA A 1) 1 (A 4 h + i) (A 4 g + j)) b' := by
  have h0 := hi.1.1.2.2.1
  have s1 := rr_n hi.1
  have c1 := zcnt_le (h := h) hi.1.1.1 (by omega)
  have c2 := zcnt_le (h := g) hi.1.1.1 (by omega)
  have hk := kp_row hi.2.1 hi.1
  have e4 : ∀ x, kpA A 1 (1 + 3) x = A 4 x := fun x => kp_off hi.2.1 (by omega)
  obtain ⟨x, x1, x2, x3⟩ := find_g hi.1 (show h < b 0 by omega) hi2
  obtain ⟨y, y1, y2, y3⟩ := find_g hi.1 (show g < b 0 by omega) hj
  have ax := at_120 hk x1
  have ay := at_120 hk y1
  have hsw := rr_swap hk x1 y1 (by rw [x2, y2]; exact hne)
  rw [x3, y3, x2, y2, e4, e4] at hsw
  rw [x3, x2, e4] at ax
  rw [y3, y2, e4] at ay
  have m1 := hi.1.1.2.2.2.1 h hh
  have m2 := hi.1.1.2.2.2.1 g hg
  refine ⟨?_, _, pv_rec hi (fun c i h1 h2 => ?_) hsw⟩
  · rw [zC_of zh62]
    refine (b62_0 (o_ob o_0) (c_swe hi.1 (by omega) (by omega) (by omega) (by omega))).trans ?_
    rw [show swe A h i g j = nI 0 from by unfold swe; rw [if_pos ⟨⟨hh, hi2⟩, hg, hj⟩, if_neg hne], if_pos (by decide)]
    have hx := s_exch0 (scr := scr) (A := kpA A 1) (i := i) (j := j) z1 hk.1 (h := h) (g := g) (by rw [rr_n hk]; omega) (by rw [rr_n hk]; omega) (by rw [e4]; omega) (by rw [e4]; omega) ((vtr_kp hi.2.1 m1.1 m2.1).trans hv)
    rw [e4, e4] at hx
    exact b62_19 (o_gf o_0 rfl) (o_gf o_0 rfl) (o_ob o_25) (keep1 hi) (o_gf o_0 rfl) (o_ob (o_st z1)) hx
  · unfold exA trA
    rw [up_ne (by omega), up_ne (by omega), up_ne (by omega)]
theorem c_swap1 (hi : pvA A b) (hh : h < A 1 1) (hi2 : i < zcnt A 1 h) (hg : g < A 1 1) (hj : j < zcnt A 1 g) (hne : h ≠ g) (hm : m < 4) (ht : 0 < A 8 m) (hv : vtr A 1 h i g j = nI m) : zC scr 62 [.ref 0, .int (nI h), .int (nI i), .int (nI g), .int (nI j)] (wd A) = some (some (.int (nI m)), wd (vtA (kpA A 1) 1 m)) ∧ ∃ b', pvA (vtA (kpA A 1) 1 m) b' := by
  have h0 := hi.1.1.2.2.1
  have s1 := rr_n hi.1
  have c1 := zcnt_le (h := h) hi.1.1.1 (by omega)
  have c2 := zcnt_le (h := g) hi.1.1.1 (by omega)
  have hk := kp_row hi.2.1 hi.1
  have e4 : ∀ x, kpA A 1 (1 + 3) x = A 4 x := fun x => kp_off hi.2.1 (by omega)
  have ax := in_row hi.1.1.1 (show h < 7 by omega) hi2
  have ay := in_row hi.1.1.1 (show g < 7 by omega) hj
  have m1 := hi.1.1.2.2.2.1 h hh
  have m2 := hi.1.1.2.2.2.1 g hg
  refine ⟨?_, _, pv_rec hi (fun c i h1 h2 => ?_) (rr_veto hk hm)⟩
  · rw [zC_of zh62]
    refine (b62_0 (o_ob o_0) (c_swe hi.1 (by omega) (by omega) (by omega) (by omega))).trans ?_
    rw [show swe A h i g j = nI 0 from by unfold swe; rw [if_pos ⟨⟨hh, hi2⟩, hg, hj⟩, if_neg hne], if_pos (by decide)]
    have hx := s_exch1 (scr := scr) (A := kpA A 1) (i := i) (j := j) z1 hk.1 (h := h) (g := g) (by rw [rr_n hk]; omega) (by rw [rr_n hk]; omega) (by rw [e4]; exact ax) (by rw [e4]; exact ay) hm (by rw [kp_off hi.2.1 (by omega)]; exact ht) ((vtr_kp hi.2.1 m1.1 m2.1).trans hv)
    exact b62_19 (o_gf o_0 rfl) (o_gf o_0 rfl) (o_ob o_25) (keep1 hi) (o_gf o_0 rfl) (o_ob (o_st z1)) hx
  · unfold vtA
    rw [up_ne (by omega), up_ne (by omega)]
theorem vtr_cases (ho : cOk A 1) (hh : h < A 1 1) (hg : g < A 1 1) : vtr A 1 h i g j = -6 ∨ ∃ m, m < 4 ∧ 0 < A 8 m ∧ vtr A 1 h i g j = nI m := by
  have m1 := ho.2.2.2.1 h hh
  have m2 := ho.2.2.2.1 g hg
  unfold vtr vto
  by_cases c1 : A 1 7 + mval A 1 g j < mval A 1 h i ∧ 0 < A (1 + 7) (A (1 + 4) h)
  · rw [if_pos c1]; exact Or.inr ⟨_, m1.1, c1.2, rfl⟩
  · rw [if_neg c1]
    by_cases c2 : A 1 7 + mval A 1 h i < mval A 1 g j ∧ 0 < A (1 + 7) (A (1 + 4) g)
    · rw [if_pos c2]; exact Or.inr ⟨_, m2.1, c2.2, rfl⟩
    · rw [if_neg c2]; exact Or.inl rfl
theorem settle_go : ∀ d (C : Nat → Nat → Nat) (b : Nat → Nat) (k : Nat), zRR C 1 b → b 7 - wsh b (b 7) ≤ d → k ≤ wsh b (b 7) → ∃ s F b', (∀ scr, zd scr 63 24 [some (.ref 0), some (.int (nI k))] [] (wd (srA C 1)) = some (some (.int (nI (k + s))), wd F)) ∧ zRR F 1 b' ∧ (∀ c i, 25 ≤ c → c < 67 → F c i = C c i) ∧ wsh b (b 7) + s ≤ wsh b' (b' 7) ∧ b' 6 = b 6 ∧ b' 7 = b 7 ∧ F 1 9 = C 1 9 + s ∧ srA F 1 69 4 = 0 ∧ WA F = WA C ∧ k + s ≤ 120 := by
  have fin : ∀ (C : Nat → Nat → Nat) (b : Nat → Nat) (k : Nat), zRR C 1 b → k ≤ wsh b (b 7) → srA C 1 69 4 = 0 → ∃ s F b', (∀ scr, zd scr 63 24 [some (.ref 0), some (.int (nI k))] [] (wd (srA C 1)) = some (some (.int (nI (k + s))), wd F)) ∧ zRR F 1 b' ∧ (∀ c i, 25 ≤ c → c < 67 → F c i = C c i) ∧ wsh b (b 7) + s ≤ wsh b' (b' 7) ∧ b' 6 = b 6 ∧ b' 7 = b 7 ∧ F 1 9 = C 1 9 + s ∧ srA F 1 69 4 = 0 ∧ WA F = WA C ∧ k + s ≤ 120 := by
    intro C b k hr hk hz
    have h7 := bO_7 hr.2.1
    have hw := wsh_le (b := b) (b 7)
    have hr2 : zRR (srA C 1) 1 b := off_move (by omega) srA_off hr
    refine ⟨0, srA C 1, b, fun scr => ?_, hr2, fun c i h1 h2 => srA_off c i (by omega), Nat.le_refl _, rfl, rfl, srA_off _ _ (by omega), ?_, ?_, by omega⟩
    · exact (b63_24 (o_gf o_0 rfl) (b_gf 4 (by omega))).trans ((i_npos hz).trans b63_92)
    · rcases rr_best (s := fun _ => 0) (by omega) hr2 with ⟨z, -⟩ | ⟨z, z2, -⟩
      · exact z
      · rcases rr_best (s := fun _ => 0) (by omega) hr with ⟨-, y⟩ | ⟨y, -⟩
        · have e1 := z2 0 (by omega)
          have e2 := y 0 (by omega)
          omega
        · omega
    · unfold WA
      rw [srA_off 4 7 (by omega)]
      exact zsum_congr (fun i hi => by rw [srA_off 3 _ (by omega)])
  intro d
  induction d with
  | zero =>
    intro C b k hr hd hk
    have hw := wsh_le (b := b) (b 7)
    rcases rr_best (s := fun _ => 0) (by omega) hr with ⟨z, -⟩ | ⟨z, -, g, k', g1, k1, -, -, e1, -, e2, -, e3, e4⟩
    · exact fin C b k hr hk z
    · exfalso
      have hne : g ≠ k' := fun q => by rw [q] at e1; omega
      have h1 := wsh_swap hr.2.1 g1 k1 hne
      have h2 := wsh_le (b := swB b g k') (b 7)
      omega
  | succ d ih =>
    intro C b k hr hd hk
    have hw := wsh_le (b := b) (b 7)
    have h0 := hr.2.1.1
    have h7 := bO_7 hr.2.1
    by_cases hz : srA C 1 69 4 = 0
    · exact fin C b k hr hk hz
    have hC2 : zRR (srA C 1) 1 b := off_move (by omega) srA_off hr
    obtain ⟨g, k', g1, k1, e1, e1b, e2, e2b, e3, e4⟩ : ∃ g k', g < b 7 ∧ k' < b 7 ∧ own b g = srA C 1 69 0 ∧ rk b (own b g) g = srA C 1 69 1 ∧ own b k' = srA C 1 69 2 ∧ rk b (own b k') k' = srA C 1 69 3 ∧ srA C 1 69 0 < srA C 1 69 2 ∧ srA C 1 69 4 + gMi b g k' = gPl b g k' := by
      rcases rr_best (s := fun _ => 0) (by omega) hr with ⟨z, -⟩ | ⟨z, -, g, k', g1, k1, -, -, e1, e1b, e2, e2b, e3, e4⟩
      · exact absurd z hz
      exact ⟨g, k', g1, k1, e1, e1b, e2, e2b, e3, e4⟩
    have hne : g ≠ k' := fun q => by rw [q] at e1; omega
    have hno : own b g ≠ own b k' := by omega
    have hsw := wsh_swap hr.2.1 g1 k1 hne
    have hwl := wsh_le (b := swB b g k') (b 7)
    have ag := at_120 hC2 g1
    have ak := at_120 hC2 k1
    have hr' := rr_swap hC2 g1 k1 hno
    have sf := (sw_facts hr.2.1 g1 k1 hne).2.2.2.2
    have e7 : swB b g k' 7 = b 7 := sf 7 (by omega) (by omega)
    have e6 : swB b g k' 6 = b 6 := sf 6 (by omega) (by omega)
    obtain ⟨s, F, b', i1, i2, i3, i4, i5, i6, i7, i8, i9, i10⟩ := ih _ (swB b g k') (k + 1) hr' (by rw [e7]; omega) (by rw [e7]; omega)
    refine ⟨s + 1, F, b', fun scr => ?_, i2, fun c i a1 a2 => ?_, by rw [e7] at i4; omega, i5.trans e6, i6.trans e7, ?_, i8, i9.trans ?_, by omega⟩
    · refine (b63_24 (o_gf o_0 rfl) (b_gf 4 (by omega))).trans ((i_pos (by omega) (by have := (srA_ok z1 hr.1).2.1; omega)).trans (b63_34.trans ((i_lt (show k < 120 by omega) (by omega)).trans ?_)))
      have hx := s_exchange (scr := scr) (A := srA C 1) (p := 1) (h := own b g) (i := rk b (own b g) g) (g := own b k') (j := rk b (own b k') k') z1 (by omega) (by omega) ag.2.2 ak.2.2
      refine (b63_40 (o_gf o_0 rfl) (o_gf o_0 rfl) (b_gf 0 (by omega)) (o_gf o_0 rfl) (b_gf 1 (by omega)) (o_gf o_0 rfl) (b_gf 2 (by omega)) (o_gf o_0 rfl) (b_gf 3 (by omega)) (o_ob (o_st z1)) (by rw [← e1, ← e1b, ← e2, ← e2b]; exact hx) (o_gf o_0 rfl) (o_gf o_0 rfl) (o_ob o_69) (b_searchIn z1 hr'.1)).trans ?_
      rw [n_add, show k + (s + 1) = k + 1 + s by omega]
      exact i1 scr
    · rw [i3 c i a1 a2]
      unfold exA trA
      rw [up_ne (by omega), up_ne (by omega), up_ne (by omega), srA_off c i (by omega)]
    · rw [i7]
      unfold exA
      rw [up_eq, srA_off 1 9 (by omega)]
      omega
    · refine (WA_ex (in_all hC2.1.1 (by omega) ag.2.1) (in_all hC2.1.1 (by omega) ak.2.1)).trans ?_
      unfold WA
      rw [srA_off 4 7 (by omega)]
      exact zsum_congr (fun i hi => by rw [srA_off 3 _ (by omega)])
theorem WA_kp (ho : pastOk A) : WA (kpA A 1) = WA A := by
  unfold WA
  rw [kp_off ho (by omega)]
  exact zsum_congr (fun i hi => by rw [kp_off ho (by omega)])
theorem c_settle (hi : pvA A b) : ∃ s F b', (∀ scr, zC scr 63 [.ref 0] (wd A) = some (some (.int (nI s)), wd F)) ∧ pvA F b' ∧ wsh b (b 7) + s ≤ wsh b' (b' 7) ∧ b' 6 = b 6 ∧ b' 7 = b 7 ∧ F 1 9 = A 1 9 + s ∧ srA F 1 69 4 = 0 ∧ WA F = WA A ∧ s ≤ 120 := by
  have hk := kp_row hi.2.1 hi.1
  obtain ⟨s, F, b', i1, i2, i3, i4, i5, i6, i7, i8, i9, i10⟩ := settle_go _ _ _ 0 hk (Nat.le_refl _) (Nat.zero_le _)
  refine ⟨s, F, b', fun scr => ?_, pv_rec hi i3 i2, i4, i5, i6, by rw [i7, kp_off hi.2.1 (by omega)], i8, by rw [i9, WA_kp hi.2.1], by omega⟩
  rw [zC_of zh63]
  have := i1 scr
  rw [Nat.zero_add] at this
  exact (b63_0 (o_gf o_0 rfl) (o_gf o_0 rfl) (o_ob o_25) (keep1 hi) (o_gf o_0 rfl) (o_gf o_0 rfl) (o_ob o_69) (b_searchIn z1 hk.1)).trans this
/-! what would be -/
theorem c_ifd (hi : pvA A b) (hh : h < A 1 1) (hk : k < 3) : ∃ T, (∀ c i, (c ≤ 8 ∨ 17 ≤ c) → T c i = A c i) ∧ ∃ x, (∀ scr, zC scr 70 [.ref 0, .int (nI h), .int (nI k)] (wd A) = some (some (.int (nI x)), wd T)) ∧ ∀ B, zRR B 1 (dvB (b 6) b).2 → x = abt B 1 h (2 + k) := by
  have hr := hi.1
  have h0 := hr.1.2.2.1
  have s1 := rr_n hr
  have hT0 := cp9 hr
  obtain ⟨dv1, dv2⟩ := rr_divide (b 6) _ _ hT0 (by omega) (Nat.le_refl _)
  have dok := dvB_ok (b 6) b hr.2.1 hr.2.2.1 (by omega)
  obtain ⟨n2, n3, n4⟩ := abt_n dv2 (h := h) (by rw [dok.2.2]; omega)
  refine ⟨(dvN 9 (b 6) (cpS A 1 9)).2, fun c i hc => by rw [dvN_off _ _ c i (by omega), cp9_o hc], abt (dvN 9 (b 6) (cpS A 1 9)).2 9 h (2 + k), fun scr => ?_, fun B hB => ?_⟩
  · have hpl := s_playAll (scr := scr) (A := cpS A 1 9) z9 hT0.1 (by rw [rr_n hT0]; omega)
    rw [rr_6 hT0, dv1] at hpl
    rw [zC_of zh70]
    refine (b70_0 (o_gf o_0 rfl) (o_ob (o_st z1)) (s_hasHeir1 z1 hh (by omega))).trans ?_
    rw [if_neg (by decide)]
    refine b70_13.trans ((i_neg (by omega)).trans (b70_17.trans ((i_nlt (by omega) (by omega)).trans ?_)))
    exact b70_25 (o_gf o_0 rfl) (o_gf o_0 rfl) (o_ob (o_st z9)) (s_copyFrom z9 z1 (by omega)) (o_gf o_0 rfl) (o_ob (o_st z9)) hpl (o_gf o_0 rfl) (o_ob (o_st z9)) (by rw [n_add]; exact s_about z9 dv2.1 (by rw [rr_n dv2, dok.2.2]; omega) (by omega))
  · obtain ⟨m2, m3, m4⟩ := abt_n hB (h := h) (by rw [dok.2.2]; omega)
    rcases (show k = 0 ∨ k = 1 ∨ k = 2 by omega) with rfl | rfl | rfl
    · rw [n2, m2]
    · rw [n3, m3]
    · rw [n4, m4]
end OC
section OK
variable {A B T W : Nat → Nat → Nat} {b c : Nat → Nat} {p q h k g n m i j t r : Nat} {scr : List Int32}
theorem spr_eq9 (hr : zRR A 9 b) : sprd A 9 3 = sprB b (msr b 1) := by
  unfold sprd sprB
  rw [rr_n hr]
  have he : ∀ h, h < b 0 → abt A 9 h 3 = msr b 1 h := fun h hh => (abt_n hr hh).2.1
  by_cases e : b 0 = 0
  · rw [if_pos e, if_pos e]
  · rw [if_neg e, if_neg e, zmax_congr (fun i hi => he i (by omega)), zmin_congr (fun i hi => he i (by omega))]
theorem spU_lt (ho : bOk (dvB (b 6) (ups b 1 r)).2) : spU b r ≤ 1080 := by
  unfold spU sprB
  have hmax : zmax (msr (dvB (b 6) (ups b 1 r)).2 1) ((dvB (b 6) (ups b 1 r)).2 0 - 1) < 1081 := zmax_lt (fun i => by have := msr_le (h := i) ho 1; omega) _
  split <;> omega
/-- the class's side: one rule tried -/
theorem c_under (hr : zRR W 1 b) (hn : 0 < b 0) (hr3 : r < 3) : ∃ V, (∀ c i, (c ≤ 8 ∨ 17 ≤ c) → V c i = W c i) ∧ bOk (dvB (b 6) (ups b 1 r)).2 ∧ zC scr 85 [.ref 0, .int (nI r)] (wd W) = some (some (.int (nI (spU b r))), wd V) := by
  have hT0 := rr_rule (x := r) (cp9 hr) hr3
  have e0 : ups b 1 r 0 = b 0 := ups_ne (by omega)
  have e6 : ups b 1 r 6 = b 6 := ups_ne (by omega)
  have dok := dvB_ok (b 6) (ups b 1 r) hT0.2.1 hT0.2.2.1 (by rw [e0]; exact hn)
  obtain ⟨dv1, dv2⟩ := rr_divide (b 6) _ _ hT0 (by rw [e0]; exact hn) (by rw [e6]; exact Nat.le_refl _)
  have hpl := s_playAll (scr := scr) (A := up (cpS W 1 9) 9 6 r) z9 hT0.1 (by rw [rr_n hT0, e0]; exact hn)
  rw [rr_6 hT0, e6] at hpl
  refine ⟨(dvN 9 (b 6) (up (cpS W 1 9) 9 6 r)).2, fun c i hc => by rw [dvN_off _ _ c i (by omega), up_ne (by omega), cp9_o hc], dok.1, ?_⟩
  have hsp := s_spread (scr := scr) z9 dv2.1 (k := 3) (by omega)
  rw [spr_eq9 dv2] at hsp
  rw [zC_of zh85]
  exact b85_0 (o_gf o_0 rfl) (o_gf o_0 rfl) (o_ob (o_st z9)) (s_copyFrom z9 z1 (by omega)) (o_gf o_0 rfl) (s_pf 6 _ z9 (by omega)) (o_gf o_0 rfl) (o_ob (o_st z9)) hpl (o_gf o_0 rfl) (o_ob (o_st z9)) hsp
/-- a rule tried gives the same for two rows that say the same -/
theorem spU_eq (h1 : zRR W 1 b) (h2 : zRR W 1 c) (hn : 0 < b 0) (hr3 : r < 3) : spU b r = spU c r ∧ spU b r ≤ 1080 := by
  have e0 : c 0 = b 0 := by rw [← rr_n h1, ← rr_n h2]
  obtain ⟨V, -, o1, v1⟩ := c_under (scr := []) h1 hn hr3
  obtain ⟨V2, -, o2, v2⟩ := c_under (scr := []) h2 (by omega) hr3
  have l1 := spU_lt o1
  have l2 := spU_lt o2
  have e := v1.symm.trans v2
  injection e with e
  injection e with e e'
  injection e with e
  injection e with e
  rw [n_inj (by omega) (by omega)] at e
  exact ⟨e, l1⟩
theorem frS_le {S : Nat → Nat} (hS : ∀ r, r < 3 → S r ≤ 1080) : ∀ k, k < 3 → (frS S k).2 ≤ 1080
  | 0, _ => hS 0 (by omega)
  | k + 1, h => by
    rw [frS]
    by_cases e : S (k + 1) < (frS S k).2
    · rw [if_pos e]; exact hS _ h
    · rw [if_neg e]; exact frS_le hS k (by omega)
theorem c_fair0 (hi : pvA A b) (hz : A 1 1 = 0) : zC scr 71 [.ref 0] (wd A) = some (some (.int (-6)), wd A) := by
  rw [zC_of zh71]
  exact (b71_0 (o_gf o_0 rfl) (s_gf 1 z1 (by omega))).trans ((i_eq0 (by omega)).trans b71_10)
theorem c_fair (hi : pvA A b) (hz : 0 < A 1 1) : ∃ V, (∀ c i, (c ≤ 8 ∨ 17 ≤ c) → V c i = A c i) ∧ zC scr 71 [.ref 0] (wd A) = some (some (.int (nI (frS (spU b) 2).1)), wd V) := by
  have hr := hi.1
  have h0 := hr.2.1.1
  have s1 := rr_n hr
  have hn : 0 < b 0 := by omega
  have hS : ∀ r, r < 3 → spU b r ≤ 1080 := fun r hr3 => (spU_eq hr hr hn hr3).2
  have hle := frS_le hS
  have ck : ∀ k, k < 3 → ∃ V v4, (∀ c i, (c ≤ 8 ∨ 17 ≤ c) → V c i = A c i) ∧ zC scr 71 [.ref 0] (wd A) = zd scr 71 23 [some (.ref 0), some (.int (nI (frS (spU b) k).1)), some (.int (nI (frS (spU b) k).2)), some (.int (nI (k + 1))), v4] [] (wd V) := by
    intro k
    induction k with
    | zero =>
      intro _
      obtain ⟨V, v1, -, v3⟩ := c_under (scr := scr) hr hn (show 0 < 3 by omega)
      refine ⟨V, none, v1, ?_⟩
      rw [zC_of zh71]
      exact (b71_0 (o_gf o_0 rfl) (s_gf 1 z1 (by omega))).trans ((i_ne0 (by omega) (by omega)).trans (b71_13 (o_ob o_0) v3))
    | succ k ih =>
      intro hk
      obtain ⟨W, v4, w1, w2⟩ := ih (by omega)
      have hW : zRR W 1 b := zRR_move (fun t i ht => w1 _ _ (by omega)) (fun _ _ => rfl) hr
      obtain ⟨V, v1, -, v3⟩ := c_under (scr := scr) hW hn (show k + 1 < 3 by omega)
      have l1 := hS (k + 1) hk
      have l2 := hle k (by omega)
      refine ⟨V, some (.int (nI (spU b (k + 1)))), fun c i hc => by rw [v1 c i hc, w1 c i hc], w2.trans (b71_23.trans ((i_le (by omega) (by omega)).trans ((b71_28 (o_ob o_0) v3).trans ?_)))⟩
      rw [frS]
      by_cases e : spU b (k + 1) < (frS (spU b) k).2
      · rw [i_lt e (by omega), if_pos e]
        exact b71_41.trans (by rw [n_add])
      · rw [i_nlt e (by omega), if_neg e]
        exact b71_46.trans (by rw [n_add])
  obtain ⟨V, v4, v1, v2⟩ := ck 2 (by omega)
  exact ⟨V, v1, v2.trans (b71_23.trans ((i_nle (by omega) (by omega)).trans b71_52))⟩
theorem c_undo (hi : pvA A b) (ht : 0 < A 25 1) : zC scr 78 [.ref 0] (wd A) = some (some (.int (nI (A 25 1 - 1))), wd (tbA A 1)) := by
  have h5 := hi.2.1.1
  rw [zC_of zh78]
  refine (b78_0 (o_gf o_0 rfl) p_gf).trans ((i_ne0 (by omega) (by omega)).trans ?_)
  exact b78_13 (f4 := nI (A 25 1 - 1)) (o_gf o_0 rfl) (o_gf o_0 rfl) (o_ob o_25) (p_takeBack z1 (by omega) hi.2.1 ht) (o_gf o_0 rfl) (by rw [p_gf, tb_25])
theorem c_undo0 (hz : A 25 1 = 0) : zC scr 78 [.ref 0] (wd A) = some (some (.int (-3)), wd A) := by
  rw [zC_of zh78]
  exact (b78_0 (o_gf o_0 rfl) p_gf).trans ((i_eq0 hz).trans b78_10)
theorem c_restore0 (hz : A 0 3 = 0) : zC scr 80 [.ref 0] (wd A) = some (some (.int (-3)), wd A) := by
  rw [zC_of zh80]
  exact (b80_0 (f1 := nI (A 0 3)) (o_gf o_0 rfl)).trans ((i_eq0 hz).trans b80_7)
end OK
