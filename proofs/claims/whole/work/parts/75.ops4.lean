/-! the calls, on both sides: bestSwap, settle -/
section OD
variable {A B : Nat → Nat → Nat} {b c : Nat → Nat} {p q h k g n m i j t : Nat} {scr : List Int32}
theorem zsum_one {f f' : Nat → Nat} (he : ∀ i, i ≠ g → f' i = f i) : ∀ n, g < n → zsum f' 0 n + f g = zsum f 0 n + f' g
  | 0, h => by omega
  | n + 1, h => by
    show zsum f' 0 n + f' (0 + n) + f g = zsum f 0 n + f (0 + n) + f' g
    rw [Nat.zero_add]
    by_cases e : g = n
    · subst e
      have : ∀ m, m ≤ g → zsum f' 0 m = zsum f 0 m := by
        intro m hm
        exact zsum_congr (fun i hi => he _ (by omega))
      rw [this g (Nat.le_refl _)]; omega
    · have := zsum_one he n (by omega)
      rw [he n (fun q => e q.symm)]
      omega
theorem zsum_two {f f' : Nat → Nat} (hgk : g ≠ k) (he : ∀ i, i ≠ g → i ≠ k → f' i = f i) (hg : g < n) (hk : k < n) : zsum f' 0 n + f g + f k = zsum f 0 n + f' g + f' k := by
  have h1 := zsum_one (f := f) (f' := fun i => if i = g then f' g else f i) (g := g) (fun i hi => if_neg hi) n hg
  have h2 := zsum_one (f := fun i => if i = g then f' g else f i) (f' := f') (g := k) (fun i hi => by
    by_cases e : i = g
    · rw [if_pos e, e]
    · rw [if_neg e]; exact he i e hi) n hk
  simp only [if_pos, if_neg (fun q : k = g => hgk q.symm)] at h1 h2
  omega
theorem wsh_le : ∀ n, wsh b n ≤ n
  | 0 => Nat.le_refl _
  | n + 1 => by
    show wsh b n + (if b (13 + 2 * own b (0 + n)) = cod b (0 + n) / 10 then 1 else 0) ≤ n + 1
    have := wsh_le n
    split <;> omega
theorem sw_facts (ho : bOk b) (hg : g < b 7) (hk : k < b 7) (hgk : g ≠ k) : (∀ t, own (swB b g k) t = own b t) ∧ cod (swB b g k) g = cod b k ∧ cod (swB b g k) k = cod b g ∧ (∀ t, t ≠ g → t ≠ k → cod (swB b g k) t = cod b t) ∧ (∀ i, i ≠ 4 → i < 70 → swB b g k i = b i) := by
  have bg := bO_g ho hg
  have bk := bO_g ho hk
  have u : ∀ i, ¬ i = 4 → ¬ i = 70 + k → ¬ i = 70 + g → swB b g k i = b i := fun i h1 h2 h3 => by
    unfold swB
    rw [if_neg h1, if_neg h2, if_neg h3]
  have uk : swB b g k (70 + k) = 100 * own b k + cod b g := by
    unfold swB
    rw [if_neg (by omega), if_pos rfl]
  have ug : swB b g k (70 + g) = 100 * own b g + cod b k := by
    unfold swB
    rw [if_neg (by omega), if_neg (by omega), if_pos rfl]
  refine ⟨fun t => ?_, by unfold cod at *; rw [ug]; omega, by unfold cod at *; rw [uk]; omega, fun t h1 h2 => by unfold cod; rw [u _ (by omega) (by omega) (by omega)], fun i h1 h2 => u i h1 (by omega) (by omega)⟩
  unfold own
  by_cases e1 : t = k
  · subst e1; rw [uk]; unfold own at *; omega
  · by_cases e2 : t = g
    · subst e2; rw [ug]; unfold own at *; omega
    · rw [u _ (by omega) (by omega) (by omega)]
theorem wsh_swap (ho : bOk b) (hg : g < b 7) (hk : k < b 7) (hgk : g ≠ k) : wsh (swB b g k) (b 7) + gMi b g k = wsh b (b 7) + gPl b g k := by
  obtain ⟨f1, f2, f3, f4, f5⟩ := sw_facts ho hg hk hgk
  have h0 := ho.1
  have ow : ∀ t, t < b 7 → swB b g k (13 + 2 * own b t) = b (13 + 2 * own b t) := fun t ht => by
    have := (bO_g ho ht).1
    exact f5 _ (by omega) (by omega)
  have e1 : wsh (swB b g k) (b 7) = zsum (fun t => if b (13 + 2 * own b t) = cod (swB b g k) t / 10 then 1 else 0) 0 (b 7) := by
    unfold wsh
    refine zsum_congr (fun t ht => ?_)
    show (if swB b g k (13 + 2 * own (swB b g k) (0 + t)) = cod (swB b g k) (0 + t) / 10 then 1 else 0) = _
    rw [f1, ow _ (by omega)]
  have h2 := zsum_two (n := b 7) (f := fun t => if b (13 + 2 * own b t) = cod b t / 10 then 1 else 0) (f' := fun t => if b (13 + 2 * own b t) = cod (swB b g k) t / 10 then 1 else 0) hgk (fun t a1 a2 => by show (if _ then _ else _) = _; rw [f4 t a1 a2]) hg hk
  rw [e1]
  simp only [f2, f3] at h2
  unfold wsh gMi gPl one1
  omega
theorem lyB_z (s : Nat → Nat) {i : Nat} (hi : i < 7) (D : Nat → Nat → Nat) : zal (wd (sq D (lyB b s))) 76 (nI i) = some (bz (lyB b s i)) := aB hi
theorem settle_sim : ∀ d (C : Nat → Nat → Nat) (b : Nat → Nat) (k : Nat), zRR C 1 b → b 7 - wsh b (b 7) ≤ d → k ≤ wsh b (b 7) → ∃ r F b', (∀ scr, zd scr 63 24 [some (.ref 0), some (.int (nI k))] [] (wd (srA C 1)) = some (some (.int (nI r)), wd F)) ∧ zRR F 1 b' ∧ (∀ c i, (c = 0 ∨ (17 ≤ c ∧ c ≠ 69)) → F c i = C c i) ∧ ∀ scr (D : Nat → Nat → Nat), D 71 = b → ∃ c', zd scr 131 10 [some (.ref 70), some (.int (nI k))] [] (wd (sq D (lyB b (D 76)))) = some (some (.int (nI r)), wd (sq (sb D b') c')) := by
  -- nothing more is better
  have fin : ∀ (C : Nat → Nat → Nat) (b : Nat → Nat) (k : Nat), zRR C 1 b → srA C 1 69 4 = 0 → (∀ s : Nat → Nat, ∀ i, i < 7 → lyB b s i = 0) → ∃ r F b', (∀ scr, zd scr 63 24 [some (.ref 0), some (.int (nI k))] [] (wd (srA C 1)) = some (some (.int (nI r)), wd F)) ∧ zRR F 1 b' ∧ (∀ c i, (c = 0 ∨ (17 ≤ c ∧ c ≠ 69)) → F c i = C c i) ∧ ∀ scr (D : Nat → Nat → Nat), D 71 = b → ∃ c', zd scr 131 10 [some (.ref 70), some (.int (nI k))] [] (wd (sq D (lyB b (D 76)))) = some (some (.int (nI r)), wd (sq (sb D b') c')) := by
    intro C b k hr hz hl
    refine ⟨k, srA C 1, b, fun scr => ?_, off_move (by omega) srA_off hr, fun c i hc => srA_off c i (by omega), fun scr D hD => ⟨lyB b (D 76), ?_⟩⟩
    · exact (b63_24 (o_gf o_0 rfl) (b_gf 4 (by omega))).trans ((i_npos hz).trans b63_92)
    · refine (b131_10 gR8 (by rw [show nI 0 = nI 0 from rfl]; exact lyB_z (D 76) (i := 0) (by omega) D)).trans ?_
      rw [hl _ 0 (by omega), if_pos (show bz 0 = -6 from rfl)]
      refine b131_48.trans ?_
      rw [← hD, sb_self]
  intro d
  induction d with
  | zero =>
    intro C b k hr hd hk
    have hw := wsh_le (b := b) (b 7)
    rcases rr_best (s := fun _ => 0) (by omega) hr with ⟨z, -⟩ | ⟨z, -, g, k', g1, k1, -, -, e1, -, e2, -, e3, e4⟩
    · refine fin C b k hr z (fun s i hi => ?_)
      rcases rr_best (s := s) (by omega) hr with ⟨-, z2⟩ | ⟨z2, -⟩
      · exact z2 i hi
      · omega
    · exfalso
      have hne : g ≠ k' := fun q => by rw [q] at e1; omega
      have h1 := wsh_swap hr.2.1 g1 k1 hne
      have h2 := wsh_le (b := swB b g k') (b 7)
      omega
  | succ d ih =>
    intro C b k hr hd hk
    have hw := wsh_le (b := b) (b 7)
    have h0 := hr.2.1.1
    have h7 := bO_7 hr.2.1
    by_cases hz : srA C 1 69 4 = 0
    · refine fin C b k hr hz (fun s i hi => ?_)
      rcases rr_best (s := s) (by omega) hr with ⟨-, z2⟩ | ⟨z2, -⟩
      · exact z2 i hi
      · omega
    have hC2 : zRR (srA C 1) 1 b := off_move (by omega) srA_off hr
    obtain ⟨g, k', g1, k1, e1, e1b, e2, e2b, e3, e4, hbest⟩ : ∃ g k', g < b 7 ∧ k' < b 7 ∧ own b g = srA C 1 69 0 ∧ rk b (own b g) g = srA C 1 69 1 ∧ own b k' = srA C 1 69 2 ∧ rk b (own b k') k' = srA C 1 69 3 ∧ srA C 1 69 0 < srA C 1 69 2 ∧ srA C 1 69 4 + gMi b g k' = gPl b g k' ∧ ∀ s : Nat → Nat, (∀ i, i < 5 → lyB b s i = srA C 1 69 i + 1) ∧ lyB b s 5 = g + 1 ∧ lyB b s 6 = k' + 1 := by
      rcases rr_best (s := fun _ => 0) (by omega) hr with ⟨z, -⟩ | ⟨z, -, g, k', g1, k1, -, -, e1, e1b, e2, e2b, e3, e4⟩
      · exact absurd z hz
      refine ⟨g, k', g1, k1, e1, e1b, e2, e2b, e3, e4, fun s => ?_⟩
      rcases rr_best (s := s) (by omega) hr with ⟨z, -⟩ | ⟨z, q, g', k'', g1', k1', q5, q6, e1', e1b', e2', e2b', e3', e4'⟩
      · exact absurd z hz
      have hgg : g' = g := rm_inj hr.2.1 hr.1.1 hr.2.2.2.1 g1' g1 (by rw [e1b', e1b, e1', e1])
      have hkk : k'' = k' := rm_inj hr.2.1 hr.1.1 hr.2.2.2.1 k1' k1 (by rw [e2b', e2b, e2', e2])
      exact ⟨q, by rw [q5, hgg], by rw [q6, hkk]⟩
    have hne : g ≠ k' := fun q => by rw [q] at e1; omega
    have hno : own b g ≠ own b k' := by omega
    have hsw := wsh_swap hr.2.1 g1 k1 hne
    have hwl := wsh_le (b := swB b g k') (b 7)
    have ag := at_120 hC2 g1
    have ak := at_120 hC2 k1
    have hr' := rr_swap hC2 g1 k1 hno
    have e7 : swB b g k' 7 = b 7 := (sw_facts hr.2.1 g1 k1 hne).2.2.2.2 7 (by omega) (by omega)
    obtain ⟨r, F, b', i1, i2, i3, i4⟩ := ih _ (swB b g k') (k + 1) hr' (by rw [e7]; omega) (by rw [e7]; omega)
    refine ⟨r, F, b', fun scr => ?_, i2, fun c i hc => ?_, fun scr D hD => ?_⟩
    · refine (b63_24 (o_gf o_0 rfl) (b_gf 4 (by omega))).trans ((i_pos (by omega) (by have := (srA_ok z1 hr.1).2.1; omega)).trans (b63_34.trans ((i_lt (show k < 120 by omega) (by omega)).trans ?_)))
      have hx := s_exchange (scr := scr) (A := srA C 1) (p := 1) (h := own b g) (i := rk b (own b g) g) (g := own b k') (j := rk b (own b k') k') z1 (by omega) (by omega) ag.2.2 ak.2.2
      refine (b63_40 (o_gf o_0 rfl) (o_gf o_0 rfl) (b_gf 0 (by omega)) (o_gf o_0 rfl) (b_gf 1 (by omega)) (o_gf o_0 rfl) (b_gf 2 (by omega)) (o_gf o_0 rfl) (b_gf 3 (by omega)) (o_ob (o_st z1)) (by rw [← e1, ← e1b, ← e2, ← e2b]; exact hx) (o_gf o_0 rfl) (o_gf o_0 rfl) (o_ob o_69) (b_searchIn z1 hr'.1)).trans ?_
      rw [n_add]
      exact i1 scr
    · rw [i3 c i hc]
      unfold exA trA
      rw [up_ne (by omega), up_ne (by omega), up_ne (by omega), srA_off c i (by omega)]
    · obtain ⟨q, q5, q6⟩ := hbest (D 76)
      have hD2 : sq D (lyB b (D 76)) 71 = b := hD
      obtain ⟨c', i5⟩ := i4 scr (sb (sq D (lyB b (D 76))) (swB b g k')) rfl
      refine ⟨c', (b131_10 gR8 (lyB_z (D 76) (i := 0) (by omega) D)).trans ?_⟩
      rw [q 0 (by omega), bz_succ, if_neg (nI_ne6 (by omega))]
      have hs := r_swaps (scr := scr) (A := sq D (lyB b (D 76))) (g := g) (k := k') (by rw [hD2]; exact hr.2.1) (by rw [hD2]; exact g1) (by rw [hD2]; exact k1) hne
      rw [hD2] at hs
      have hl := r_layBest (scr := scr) (A := sb (sq D (lyB b (D 76))) (swB b g k')) hr'.2.1
      refine (b131_21 gR8 (by rw [lyB_z (D 76) (i := 5) (by omega) D, q5, bz_succ]) gR8 (by rw [lyB_z (D 76) (i := 6) (by omega) D, q6, bz_succ]) oR hs oR hl).trans ?_
      rw [n_add]
      refine i5.trans ?_
      refine congrArg (fun w => some (some (Value.int (nI r)), wd w)) ?_
      funext cc i
      unfold sq sb
      by_cases f : cc = 76
      · rw [if_pos f, if_pos f]
      · rw [if_neg f, if_neg f]
        by_cases f2 : cc = 71
        · rw [if_pos f2, if_pos f2]
        · rw [if_neg f2, if_neg f2, if_neg f2]; exact if_neg f
end OD
