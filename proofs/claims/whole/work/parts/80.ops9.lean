/-! the calls, on both sides: total -/
section OI
variable {A B X : Nat → Nat → Nat} {b c : Nat → Nat} {p q h k g n m i j t : Nat} {scr : List Int32}
theorem zsum_add (f e : Nat → Nat) : ∀ n, zsum (fun i => f i + e i) 0 n = zsum f 0 n + zsum e 0 n
  | 0 => rfl
  | n + 1 => by
    show zsum (fun i => f i + e i) 0 n + (f (0 + n) + e (0 + n)) = zsum f 0 n + f (0 + n) + (zsum e 0 n + e (0 + n))
    rw [zsum_add f e n]
    omega
theorem zsum_pick (f : Nat → Nat) {x : Nat} : ∀ n, zsum (fun i => if x = i then f i else 0) 0 n = if x < n then f x else 0
  | 0 => by rw [if_neg (Nat.not_lt_zero _)]; rfl
  | n + 1 => by
    show zsum (fun i => if x = i then f i else 0) 0 n + (if x = 0 + n then f (0 + n) else 0) = _
    rw [zsum_pick f n, Nat.zero_add]
    by_cases e : x = n
    · rw [if_pos e, if_neg (by omega), if_pos (by omega), e]; omega
    · by_cases e2 : x < n
      · rw [if_neg e, if_pos e2, if_pos (by omega)]; omega
      · rw [if_neg e, if_neg e2, if_neg (by omega)]
theorem zsum_z : ∀ n, zsum (fun _ => 0) 0 n = 0
  | 0 => rfl
  | n + 1 => zsum_z n
theorem sum_ex (F : Nat → Nat → Nat) : ∀ G, (∀ g, g < G → own b g < n) → zsum (fun h => rsm b (F h) h G) 0 n = zsum (fun g => F (own b g) (cod b g)) 0 G
  | 0, _ => zsum_z n
  | G + 1, hG => by
    have e : (fun h => rsm b (F h) h (G + 1)) = fun h => rsm b (F h) h G + if own b G = h then F h (cod b G) else 0 := by
      funext h
      rw [rsm_succ]
    rw [e, zsum_add, sum_ex F G (fun g hg => hG g (by omega)), zsum_pick (fun h => F h (cod b G)), if_pos (hG G (by omega))]
    show _ = zsum _ 0 G + F (own b (0 + G)) (cod b (0 + G))
    rw [Nat.zero_add]
theorem zsum_1 : ∀ n, zsum (fun _ => 1) 0 n = n
  | 0 => rfl
  | n + 1 => by
    show zsum (fun _ => 1) 0 n + 1 = n + 1
    rw [zsum_1 n]
theorem rk_rsm : rk b h n = rsm b (fun _ => 1) h n := rfl
theorem r_values {a : Nat} (hb : ∀ i, i < n → A 71 (a + i) < 100000) (han : a + n ≤ 190) : zC scr 138 [.ref 70, .int (nI a), .int (nI n)] (wd A) = some (some (.int (nI (zsum (fun i => A 71 i % 10) a n))), wd A) := by
  rw [zC_of zh138]
  refine b138_0.trans ?_
  refine (zloop (W := fun _ => wd A) (scr := scr) (mi := 138) (pc := 5) (st := []) (L := fun j => [some (.ref 70), some (.int (nI a)), some (.int (nI n)), some (.int (nI (zsum (fun i => A 71 i % 10) a j))), some (.int (nI (a + j)))]) n (fun j hj => ?_)).trans ?_
  · have := hb j hj
    refine b138_5.trans ?_
    rw [n_add]
    refine (i_lt (by omega) (by omega)).trans ((b138_13 gR0 (aR (by omega))).trans ?_)
    rw [n_rem (by omega) (by omega), n_add, n_add]; rfl
  · refine b138_5.trans ?_
    rw [n_add]
    exact (i_nlt (by omega) (by omega)).trans b138_32
theorem spr_eq (hr : zRR A 1 b) (k w : Nat) (he : ∀ h, h < b 0 → abt A 1 h k = msr b w h) : sprd A 1 k = sprB b (msr b w) := by
  unfold sprd sprB
  rw [rr_n hr]
  by_cases e : b 0 = 0
  · rw [if_pos e, if_pos e]
  · rw [if_neg e, if_neg e, zmax_congr (fun i hi => he i (by omega)), zmin_congr (fun i hi => he i (by omega))]
theorem op_total (x : Int32) : zOP scr 69 139 [.int x] := by
  intro A hi
  have hr := hi.1
  have h0 := hr.2.1.1
  have h7 := bO_7 hr.2.1
  have h6 := hr.2.1.2.2.2.1
  have h67 := hr.2.1.2.2.2.2.1
  have s1 := rr_n hr
  obtain ⟨e1, e6, e7, e8, e9, e10, -⟩ := hr.2.2.2.2
  have hown : ∀ g, g < A 71 7 → own (A 71) g < A 71 0 := fun g hg => (bO_g hr.2.1 hg).1
  rcases i5_cases x 12 (by omega) with ⟨k, hk, rfl⟩ | ⟨hy, hy2⟩
  case inr =>
    refine ⟨-2, A, A, ?_, ?_, hi⟩
    · rw [zC_of zh69]
      refine b69_0.trans ?_
      by_cases c : x < 0
      · rw [if_pos c]; exact b69_10
      · rw [if_neg c]
        exact b69_4.trans ((if_pos (hy.resolve_left c)).trans b69_10)
    · rw [zC_of zh139]
      exact (b139_0_d hy2).trans b139_161
  have cl : zC scr 69 [.ref 0, .int (nI k)] (wd A) = some (some (.int (nI (fig A 1 k))), wd A) := by
    rw [zC_of zh69]
    refine b69_0.trans ((i_neg (by omega)).trans (b69_4.trans ((i_nlt (by omega) (by omega)).trans ?_)))
    exact b69_13 (o_gf o_0 rfl) (o_ob (o_st z1)) (s_figure z1 hr.1 (by omega))
  refine ⟨nI (fig A 1 k), A, A, cl, ?_, hi⟩
  rw [zC_of zh139]
  rcases (show k = 0 ∨ k = 1 ∨ k = 2 ∨ k = 3 ∨ k = 4 ∨ k = 5 ∨ k = 6 ∨ k = 7 ∨ k = 8 ∨ k = 9 ∨ k = 10 ∨ k = 11 ∨ k = 12 by omega) with rfl | rfl | rfl | rfl | rfl | rfl | rfl | rfl | rfl | rfl | rfl | rfl | rfl
  · rw [show fig A 1 0 = A 71 0 from e1]
    exact (b139_0_c0 rfl).trans (b139_68 gR0 (aR (by omega)))
  · rw [show fig A 1 1 = A 71 6 from rr_6 hr]
    exact (b139_0_c1 rfl).trans (b139_75 gR0 (aR (by omega)))
  · have : fig A 1 2 = A 71 7 := by
      show zsum (fun h => abt A 1 h 2) 0 (A 1 1) = _
      rw [s1, zsum_congr (g := fun h => rsm (A 71) (fun _ => 1) h (A 71 7)) (b := 0) (fun i hi => by show abt A 1 (0 + i) 2 = rsm (A 71) (fun _ => 1) (0 + i) (A 71 7); rw [Nat.zero_add]; exact (abt_n hr hi).1), sum_ex (fun _ _ => 1) _ hown, zsum_1]
    rw [this]
    exact (b139_0_c2 rfl).trans (b139_83 gR0 (aR (by omega)))
  · have : fig A 1 3 = zsum (fun i => A 71 i % 10) 30 (A 71 6) := by
      show zval A 1 6 = _
      unfold zval
      rw [rr_6 hr]
      refine zsum_congr (fun i hi => ?_)
      show A (1 + 2) (A (1 + 3) 6 + i) % 10 = A 71 (30 + i) % 10
      rw [hr.2.2.2.1.2.2.2.1 i hi]
    rw [this]
    exact (b139_0_c3 rfl).trans (b139_91 gR0 (aR (by omega)) oR (r_values (fun i hi => by have := hr.2.1.2.2.2.2.2.2.2.1 i hi; omega) (by omega)))
  · have : fig A 1 4 = zsum (fun i => A 71 i % 10) 70 (A 71 7) := by
      show zsum (fun h => abt A 1 h 3) 0 (A 1 1) = _
      rw [s1, zsum_congr (g := fun h => rsm (A 71) (fun c => c % 10) h (A 71 7)) (b := 0) (fun i hi => by show abt A 1 (0 + i) 3 = rsm (A 71) (fun c => c % 10) (0 + i) (A 71 7); rw [Nat.zero_add]; exact (abt_n hr hi).2.1), sum_ex (fun _ c => c % 10) _ hown]
      refine zsum_congr (fun i hi => ?_)
      show cod (A 71) (0 + i) % 10 = A 71 (70 + i) % 10
      rw [Nat.zero_add]
      unfold cod
      omega
    rw [this]
    exact (b139_0_c4 rfl).trans (b139_105 gR0 (aR (by omega)) oR (r_values (fun i hi => by have := (bO_g hr.2.1 hi).2.2.1; omega) (by omega)))
  · rw [show fig A 1 5 = A 71 3 from e8]
    exact (b139_0_c5 rfl).trans (b139_119 gR0 (by rw [n_add, n_sub (by omega)]; exact aR (by omega)))
  · rw [show fig A 1 6 = A 71 4 from e9]
    exact (b139_0_c6 rfl).trans (b139_119 gR0 (by rw [n_add, n_sub (by omega)]; exact aR (by omega)))
  · rw [show fig A 1 7 = A 71 5 from e10]
    exact (b139_0_c7 rfl).trans (b139_119 gR0 (by rw [n_add, n_sub (by omega)]; exact aR (by omega)))
  · have : fig A 1 8 = wsh (A 71) (A 71 7) := by
      show zsum (fun h => abt A 1 h 4) 0 (A 1 1) = _
      rw [s1, zsum_congr (g := fun h => rsm (A 71) (fun x => if x / 10 = A 71 (13 + 2 * h) then 1 else 0) h (A 71 7)) (b := 0) (fun i hi => by show abt A 1 (0 + i) 4 = rsm (A 71) (fun x => if x / 10 = A 71 (13 + 2 * (0 + i)) then 1 else 0) (0 + i) (A 71 7); rw [Nat.zero_add]; exact (abt_n hr hi).2.2), sum_ex (fun h x => if x / 10 = A 71 (13 + 2 * h) then 1 else 0) _ hown]
      unfold wsh
      refine zsum_congr (fun i hi => ?_)
      show (if cod (A 71) (0 + i) / 10 = A 71 (13 + 2 * own (A 71) (0 + i)) then 1 else 0) = if A 71 (13 + 2 * own (A 71) (0 + i)) = cod (A 71) (0 + i) / 10 then 1 else 0
      exact ite_iff ⟨Eq.symm, Eq.symm⟩ _ _
    rw [this]
    exact (b139_0_c8 rfl).trans (b139_130 oR (r_wishes hr.2.1))
  · rw [show fig A 1 9 = sprB (A 71) (msr (A 71) 0) from spr_eq hr 2 0 (fun h hh => (abt_n hr hh).1)]
    exact (b139_0_c9 rfl).trans (b139_135 oR (r_spread (w := 0) hr.2.1 (by omega)))
  · rw [show fig A 1 10 = sprB (A 71) (msr (A 71) 1) from spr_eq hr 3 1 (fun h hh => (abt_n hr hh).2.1)]
    exact (b139_0_c10 rfl).trans (b139_141 oR (r_spread (w := 1) hr.2.1 (by omega)))
  · rw [show fig A 1 11 = A 71 1 from e6]
    exact (b139_0_c11 rfl).trans (b139_147 gR0 (aR (by omega)))
  · rw [show fig A 1 12 = A 71 2 from e7]
    exact (b139_0_c12 rfl).trans (b139_154 gR0 (aR (by omega)))
end OI
