/-! divides -/
section AR
variable {A B C : Nat → Nat → Nat} {a i : Nat} {G : zAW} {w : zAW} {l : List Int32} {x : Int32} {c d : zAC}
theorem zal_at (h : w[a]? = some (.inl l)) (hx : l[i]? = some x) (hi : i < 2147483648) : zal w a (nI i) = some x := by
  unfold zal
  rw [h]
  dsimp only
  rw [if_neg (by rw [n_neg hi]; exact id), n_cl hi, hx]
theorem zas_at (h : w[a]? = some (.inl l)) (hl : i < l.length) (hi : i < 2147483648) : zas w a (nI i) x = some (w.set a (.inl (l.set i x))) := by
  unfold zas
  rw [h]
  dsimp only
  rw [if_neg (by rw [n_neg hi, n_cl hi]; exact fun q => q.elim id (fun q => by omega)), n_cl hi]
theorem hw_get1 : (hw A (G ++ [c]))[70 + G.length]? = some c := by
  unfold hw
  rw [List.getElem?_append_right (by rw [wd_len]; omega), wd_len, List.getElem?_append_right (by omega), show 70 + G.length - 70 - G.length = 0 by omega]
  rfl
theorem hw_set1 : (hw A (G ++ [c])).set (70 + G.length) d = hw A (G ++ [d]) := by
  unfold hw
  rw [List.set_append_right _ _ (by rw [wd_len]; omega), wd_len, List.set_append_right _ _ (by omega), show 70 + G.length - 70 - G.length = 0 by omega]
  rfl
theorem hw_pu {n : Nat} : zpu (hw A G) n = hw A (G ++ [.inl (List.replicate n 0)]) := by
  unfold zpu hw
  rw [List.append_assoc]
/-- a row of 18 ints, as far as it is laid -/
def due (F : Nat → Nat) (k : Nat) : List Int32 := (List.range 18).map (fun j => if j < k then nI (F j) else 0)
theorem due_len (F : Nat → Nat) (k : Nat) : (due F k).length = 18 := by simp [due]
theorem due_0 (F : Nat → Nat) : List.replicate 18 0 = due F 0 := by
  apply List.ext_getElem?
  intro j
  unfold due
  rw [List.getElem?_map, List.getElem?_replicate]
  by_cases hj : j < 18
  · rw [if_pos hj, List.getElem?_range hj]
    show _ = some (if j < 0 then nI (F j) else 0)
    rw [if_neg (by omega)]
  · rw [if_neg hj, List.getElem?_eq_none (by simpa using hj)]; rfl
theorem due_s (F : Nat → Nat) {k : Nat} (hk : k < 18) : (due F k).set k (nI (F k)) = due F (k + 1) := by
  apply List.ext_getElem?
  intro j
  unfold due
  rw [List.getElem?_set, List.getElem?_map, List.getElem?_map, List.length_map, List.length_range]
  by_cases hj : j < 18
  · rw [List.getElem?_range hj]
    by_cases e : k = j
    · subst e
      rw [if_pos rfl, if_pos hk]
      show _ = some (if k < k + 1 then nI (F k) else 0)
      rw [if_pos (by omega)]
    · rw [if_neg e]
      show some (if j < k then nI (F j) else 0) = some (if j < k + 1 then nI (F j) else 0)
      by_cases e2 : j < k
      · rw [if_pos e2, if_pos (by omega)]
      · rw [if_neg e2, if_neg (by omega)]
  · rw [if_neg (by omega), List.getElem?_eq_none (by simpa using hj)]
    rfl
theorem due_get (F : Nat → Nat) {j k : Nat} (hk : k < 18) (hj : k < j) : (due F j)[k]? = some (nI (F k)) := by
  unfold due
  rw [List.getElem?_map, List.getElem?_range hk]
  show some (if k < j then nI (F k) else 0) = _
  rw [if_pos hj]
end AR
section DI
variable {A B C T : Nat → Nat → Nat} {b c : Nat → Nat} {p q h k g n m i j t r mj : Nat} {scr : List Int32} {G : zAW}
theorem abt_same (h1 : zRR A 1 b) (h2 : zRR B 1 b) (hh : h < b 0) (hk : k < 3) : abt A 1 h (2 + k) = abt B 1 h (2 + k) := by
  obtain ⟨n2, n3, n4⟩ := abt_n h1 hh
  obtain ⟨m2, m3, m4⟩ := abt_n h2 hh
  rcases (show k = 0 ∨ k = 1 ∨ k = 2 by omega) with rfl | rfl | rfl
  · rw [n2, m2]
  · rw [n3, m3]
  · rw [n4, m4]
theorem d3 (hk : k < 3 * n) : k / 3 < n ∧ k % 3 < 3 := by omega
theorem dv_loop1 (hi : pvA A b) (hz : 0 < A 1 1) {F : Nat → Nat} (hF : ∀ j, F j = abt (dvN 1 (b 6) (kpA A 1)).2 1 (j / 3) (2 + j % 3)) : ∀ k, k ≤ 3 * A 1 1 → ∃ T, (∀ c i, (c ≤ 8 ∨ 17 ≤ c) → T c i = A c i) ∧ zd scr 89 35 [some (.ref 0), some (.int (nI (A 1 1))), some (.ref (70 + G.length)), some (.int (nI 0)), none, none, none, none, none] [] (hw A (G ++ [.inl (due F 0)])) = zd scr 89 35 [some (.ref 0), some (.int (nI (A 1 1))), some (.ref (70 + G.length)), some (.int (nI k)), none, none, none, none, none] [] (hw T (G ++ [.inl (due F k)]))
  | 0, _ => ⟨A, fun _ _ _ => rfl, rfl⟩
  | k + 1, hk => by
    obtain ⟨T, t1, t2⟩ := dv_loop1 hi hz hF k (by omega)
    have h5 := hi.1.1.2.2.1
    have hT : pvA T b := pv_same hi (fun c i hc => t1 c i (by omega))
    have eT : T 1 1 = A 1 1 := t1 _ _ (by omega)
    have e3 := d3 (show k < 3 * A 1 1 by omega)
    obtain ⟨T', s1, x, s2, s3⟩ := c_ifd hT (h := k / 3) (k := k % 3) (by omega) e3.2
    have hx : x = F k := by
      rw [hF]
      exact s3 _ (c_divide (scr := []) hi hz).2.1
    refine ⟨T', fun c i hc => by rw [s1 c i hc, t1 c i hc], t2.trans (b89_35.trans ?_)⟩
    rw [n_mul, i_lt (by omega) (by omega)]
    have ci := lf (G := G ++ [.inl (due F k)]) (s2 scr)
    rw [hx] at ci
    refine (b89_42 ob0 (by rw [n_div (by omega) (by omega), n_rem (by omega) (by omega)]; exact ci) (zas_at hw_get1 (by rw [due_len]; omega) (by omega))).trans ?_
    rw [hw_set1, due_s F (by omega), n_add]
theorem dv_loop2 (hi : zRR A 1 b) {F : Nat → Nat} (hF : ∀ j, j < 3 * A 1 1 → F j = abt A 1 (j / 3) (2 + j % 3)) {x3 x4 x5 x6 : Int32} : ∀ d k, k + d = 3 * A 1 1 → zd scr 89 161 [some (.ref 0), some (.int (nI (A 1 1))), some (.ref (70 + G.length)), some (.int x3), some (.int x4), some (.int x5), some (.int x6), some (.int (nI 1)), some (.int (nI k))] [] (hw A (G ++ [.inl (due F (3 * A 1 1))])) = some (some (.int (nI 1)), hw A (G ++ [.inl (due F (3 * A 1 1))]))
  | 0, k, hk => by
    have h5 := hi.1.2.2.1
    refine b89_161.trans ?_
    rw [n_mul, i_nlt (by omega) (by omega)]
    exact b89_208 rfl
  | d + 1, k, hk => by
    have h5 := hi.1.2.2.1
    have e3 := d3 (show k < 3 * A 1 1 by omega)
    refine b89_161.trans ?_
    rw [n_mul, i_lt (by omega) (by omega)]
    refine b89_169.trans ?_
    rw [if_neg (by decide)]
    have hh := h_heir1 (scr := scr) (G := G ++ [.inl (due F (3 * A 1 1))]) (2 + k % 3) hi e3.1 (by omega)
    refine (b89_174 (zal_at hw_get1 (due_get F (by omega) (by omega)) (by omega)) ob0 (by rw [n_div (by omega) (by omega), n_rem (by omega) (by omega), n_add]; exact hh)).trans ?_
    rw [hF k (by omega), if_pos rfl]
    refine b89_195.trans ?_
    rw [n_add]
    exact dv_loop2 hi hF d (k + 1) (by omega)
theorem divides_ok (hi : pvA A b) : ∃ A' b' G', pvA A' b' ∧ WA A' = WA A ∧ A' 4 7 = A 4 7 ∧ G'.length ≤ G.length + 1 ∧ zsz G' ≤ zsz G + 18 ∧ zC scr 89 [.ref 0, .int (nI (A 1 1))] (hw A G) = some (some (.int (nI 1)), hw A' G') := by
  have hl := f_lt hi.1
  by_cases hz : A 1 1 = 0
  · refine ⟨A, b, G, hi, rfl, rfl, by omega, by omega, ?_⟩
    rw [zC_of zh89]
    refine b89_0.trans ((i_eq0 hz).trans ?_)
    refine (b89_4 ob0 (lf (c_divide0 hi hz))).trans ?_
    rw [if_pos rfl]
    refine (b89_13 ob0 (lf (c_fair0 hi hz))).trans ?_
    rw [if_pos rfl]
    exact b89_22
  have hz : 0 < A 1 1 := by omega
  obtain ⟨F, hF⟩ : ∃ F : Nat → Nat, ∀ j, F j = abt (dvN 1 (b 6) (kpA A 1)).2 1 (j / 3) (2 + j % 3) := ⟨_, fun _ => rfl⟩
  obtain ⟨T, t1, t2⟩ := dv_loop1 (scr := scr) (G := G) hi hz hF (3 * A 1 1) (Nat.le_refl _)
  have hT : pvA T b := pv_same hi (fun c i hc => t1 c i (by omega))
  have eT : T 1 1 = A 1 1 := t1 _ _ (by omega)
  have zT : 0 < T 1 1 := by omega
  obtain ⟨hd, hD⟩ := c_divide (scr := scr) hT zT
  have hD0 := (c_divide (scr := []) hi hz).2
  have s1 := rr_n hi.1
  have dok := dvB_ok (b 6) b hi.1.2.1 hi.1.2.2.1 (by omega)
  obtain ⟨q1, q2, q3, q4⟩ := dvB_is (b 6) b hi.1.2.1 hi.1.2.2.1 (by omega) (Nat.le_refl _)
  have wd1 := WA_dv (b 6) (kpA T 1) (kp_row hT.2.1 hT.1).1 (by rw [kp_off hT.2.1 (by omega)]; exact zT)
  obtain ⟨D, hDd⟩ : ∃ D, D = (dvN 1 (b 6) (kpA T 1)).2 := ⟨_, rfl⟩
  rw [← hDd] at hd hD wd1
  have sD := rr_n hD.1
  have D11 : D 1 1 = A 1 1 := by rw [sD, dok.2.2, ← s1]
  have zD : 0 < D 1 1 := by omega
  obtain ⟨he, hE, -⟩ := c_round (scr := scr) hD zD
  obtain ⟨f1, f2, f3, -⟩ := rd_facts hD zD
  have eE : rdB (dvB (b 6) b).2 = (dvB (b 6) b).2 := by
    unfold rdB
    rw [if_pos q4]
  rw [eE] at hE
  rw [q4] at he
  have wT : WA T = WA A ∧ T 4 7 = A 4 7 := ⟨WA_of (fun i => t1 _ _ (by omega)) (t1 _ _ (by omega)), t1 _ _ (by omega)⟩
  have wK : WA (kpA T 1) = WA T ∧ kpA T 1 4 7 = T 4 7 := ⟨WA_kp hT.2.1, kp_off hT.2.1 (by omega)⟩
  refine ⟨_, _, G ++ [.inl (due F (3 * A 1 1))], hE, f1.trans (wd1.1.trans (wK.1.trans wT.1)), f2.trans (wd1.2.trans (wK.2.trans wT.2)), by rw [List.length_append]; exact Nat.le_refl _, by rw [zsz_app]; show zsz G + (due F (3 * A 1 1)).length ≤ _; rw [due_len]; exact Nat.le_refl _, ?_⟩
  rw [zC_of zh89]
  refine b89_0.trans ((i_ne0 (by omega) (by omega)).trans ((b89_28 hw_len).trans ?_))
  rw [hw_pu, due_0 F]
  refine t2.trans (b89_35.trans ?_)
  rw [n_mul, i_nlt (by omega) (by omega)]
  refine (b89_61 ob0 (h_total 1 hT.1 (by omega)) ob0 (h_total 5 hT.1 (by omega)) ob0 (h_total 11 hT.1 (by omega)) ob0 (lf hd)).trans ?_
  have e6 : zcnt T 1 6 = b 6 := rr_6 hT.1
  have e16 : T 1 6 = b 1 := hT.1.2.2.2.2.2.1
  have e18 : T 1 8 = b 3 := hT.1.2.2.2.2.2.2.2.1
  have eD8 : fig D 1 5 = b 3 + (dvB (b 6) b).1 := by
    have : D 1 8 = (dvB (b 6) b).2 3 := hD.1.2.2.2.2.2.2.2.1
    show D 1 8 = _
    rw [this, q3]
  have eD6 : fig D 1 1 = if b 1 = 2 then b 6 % b 0 else 0 := by
    show zcnt D 1 6 = _
    rw [rr_6 hD.1, q2]
  have r3 := hi.1.2.1.2.1
  have hb6 := hi.1.2.1.2.2.2.1
  have tail : zd scr 89 144 [some (.ref 0), some (.int (nI (A 1 1))), some (.ref (70 + G.length)), some (.int (nI (b 6))), some (.int (nI (b 3))), some (.int (nI (b 1))), some (.int (nI (dvB (b 6) b).1)), none, none] [] (hw D (G ++ [.inl (due F (3 * A 1 1))])) = some (some (.int (nI 1)), hw (rdA (kpA D 1) 1) (G ++ [.inl (due F (3 * A 1 1))])) := by
    refine (b89_144 ob0 (lf he)).trans ?_
    rw [if_pos (by decide)]
    refine b89_151.trans ?_
    have eE1 : rdA (kpA D 1) 1 1 1 = A 1 1 := f3.trans D11
    have := dv_loop2 (scr := scr) (G := G) hE.1 (F := F) (fun j hj => by
      rw [eE1] at hj
      have e3 := d3 hj
      rw [hF]
      exact abt_same hD0.1 hE.1 (by rw [dok.2.2]; omega) e3.2) (x3 := nI (b 6)) (x4 := nI (b 3)) (x5 := nI (b 1)) (x6 := nI (dvB (b 6) b).1) (3 * A 1 1) 0 (by rw [eE1]; omega)
    rw [eE1] at this
    exact this
  have mid : zd scr 89 110 [some (.ref 0), some (.int (nI (A 1 1))), some (.ref (70 + G.length)), some (.int (nI (b 6))), some (.int (nI (b 3))), some (.int (nI (b 1))), some (.int (nI (dvB (b 6) b).1)), none, none] [] (hw D (G ++ [.inl (due F (3 * A 1 1))])) = some (some (.int (nI 1)), hw (rdA (kpA D 1) 1) (G ++ [.inl (due F (3 * A 1 1))])) := by
    refine (b89_110 ob0 (h_total 5 hD.1 (by omega))).trans ?_
    rw [eD8, n_add, if_pos rfl]
    refine (b89_123 ob0 (h_total 1 hD.1 (by omega))).trans ?_
    rw [eD6]
    by_cases c : b 1 = 2
    · rw [i_eq c, if_pos c]
      refine (b89_134 (by rw [n_eq0 (by omega)]; omega)).trans ?_
      rw [n_rem (by omega) (by omega), s1, if_pos rfl, ← s1]
      exact tail
    · rw [i_ne c (by omega) (by omega), if_neg c]
      refine b89_140.trans ?_
      rw [if_pos rfl]
      exact tail
  rw [show fig T 1 11 = b 1 from e16, show fig T 1 1 = b 6 from e6, show fig T 1 5 = b 3 from e18]
  by_cases c : b 1 = 2
  · rw [if_pos c] at q1
    rw [i_eq c]
    refine (b89_97 (by rw [n_eq0 (by omega)]; omega)).trans ?_
    rw [n_add, n_div (by omega) (by omega), if_pos (by rw [q1, s1])]
    exact mid
  · rw [if_neg c] at q1
    rw [i_ne c (by omega) (by omega)]
    refine (b89_101 (by rw [n_eq0 (by omega)]; omega)).trans ?_
    rw [n_sub (by omega), n_add, n_div (by omega) (by omega), if_pos (by rw [q1, s1])]
    exact mid
end DI
