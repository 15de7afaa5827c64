/-! holds -/
def al2 (G : zAW) (l m : List Int32) : zAW := G ++ [.inl l, .inl m]
/-- the least and the greatest of the first ones, 0 of none -/
def pmn (f : Nat → Nat) : Nat → Nat
  | 0 => 0
  | t + 1 => zmin f t
def pmx (f : Nat → Nat) : Nat → Nat
  | 0 => 0
  | t + 1 => zmax f t
section HO
variable {A B C : Nat → Nat → Nat} {b c : Nat → Nat} {p q h k g n m i j t r mj : Nat} {scr : List Int32} {G : zAW} {u v u2 v2 : List Int32} {x2 x3 x4 x5 x6 x9 x10 x11 x12 x13 x14 x15 : Int32} {f : Nat → Nat}
theorem pmn_s (x : Nat) (hx : x = f h) : (if h = 0 ∨ x < pmn f h then x else pmn f h) = pmn f (h + 1) := by
  subst hx
  cases h with
  | zero => rw [if_pos (Or.inl rfl)]; rfl
  | succ t =>
    show (if t + 1 = 0 ∨ f (t + 1) < zmin f t then f (t + 1) else zmin f t) = zmin f (t + 1)
    rw [zmin_succ]
    by_cases c : f (t + 1) < zmin f t
    · rw [if_pos (Or.inr c), if_pos c]
    · rw [if_neg (by omega), if_neg c]
theorem pmx_s (x : Nat) (hx : x = f h) : (if h = 0 ∨ pmx f h < x then x else pmx f h) = pmx f (h + 1) := by
  subst hx
  cases h with
  | zero => rw [if_pos (Or.inl rfl)]; rfl
  | succ t =>
    show (if t + 1 = 0 ∨ zmax f t < f (t + 1) then f (t + 1) else zmax f t) = zmax f (t + 1)
    rw [zmax_succ]
    by_cases c : zmax f t < f (t + 1)
    · rw [if_pos (Or.inr c), if_pos c]
    · rw [if_neg (by omega), if_neg c]
theorem pm_b {M : Nat} : ∀ h, (∀ i, i < h → f i ≤ M) → pmn f h ≤ M ∧ pmx f h ≤ M
  | 0, _ => ⟨Nat.zero_le _, Nat.zero_le _⟩
  | h + 1, hf => by
    have ih := pm_b h (fun i hi => hf i (by omega))
    have e := hf h (by omega)
    rw [← pmn_s (f := f) (h := h) (f h) rfl, ← pmx_s (f := f) (h := h) (f h) rfl]
    constructor
    · split
      · exact e
      · exact ih.1
    · split
      · exact e
      · exact ih.2
theorem al_7 : (hw A (al2 G u v))[70 + G.length]? = some (.inl u) := by
  unfold hw al2
  rw [List.getElem?_append_right (by rw [wd_len]; omega), wd_len, List.getElem?_append_right (by omega), show 70 + G.length - 70 - G.length = 0 by omega]
  rfl
theorem al_8 : (hw A (al2 G u v))[71 + G.length]? = some (.inl v) := by
  unfold hw al2
  rw [List.getElem?_append_right (by rw [wd_len]; omega), wd_len, List.getElem?_append_right (by omega), show 71 + G.length - 70 - G.length = 1 by omega]
  rfl
theorem al_7s : (hw A (al2 G u v)).set (70 + G.length) (.inl u2) = hw A (al2 G u2 v) := by
  unfold hw al2
  rw [List.set_append_right _ _ (by rw [wd_len]; omega), wd_len, List.set_append_right _ _ (by omega), show 70 + G.length - 70 - G.length = 0 by omega]
  rfl
theorem al_8s : (hw A (al2 G u v)).set (71 + G.length) (.inl v2) = hw A (al2 G u v2) := by
  unfold hw al2
  rw [List.set_append_right _ _ (by rw [wd_len]; omega), wd_len, List.set_append_right _ _ (by omega), show 71 + G.length - 70 - G.length = 1 by omega]
  rfl
theorem pu_2 : zpu (zpu (hw A G) 2) 2 = hw A (al2 G [nI 0, nI 0] [nI 0, nI 0]) := by
  unfold zpu hw al2
  rw [List.append_assoc, List.append_assoc]
  rfl
theorem pu_len : (zpu (hw A G) 2).length = 71 + G.length := by
  unfold zpu
  rw [List.length_append, hw_len]
  show 70 + G.length + 1 = _
  omega
/-- the marbles of one bag -/
theorem k_sum (hr : zRR A 1 b) (hh : h < A 1 1) (v15 : Option Value) : ∀ k, k ≤ zcnt A 1 h → zd scr 93 87 [some (.ref 0), some (.int (nI (A 1 1))), some (.int x2), some (.int x3), some (.int x4), some (.int x5), some (.int x6), some (.ref (70 + G.length)), some (.ref (71 + G.length)), some (.int x9), some (.int (nI h)), some (.int (nI 0)), some (.int (nI 0)), some (.int (nI (zcnt A 1 h))), some (.int (nI 0)), v15] [] (hw A (al2 G u v)) = zd scr 93 87 [some (.ref 0), some (.int (nI (A 1 1))), some (.int x2), some (.int x3), some (.int x4), some (.int x5), some (.int x6), some (.ref (70 + G.length)), some (.ref (71 + G.length)), some (.int x9), some (.int (nI h)), some (.int (nI (zsum (fun i => A 3 i % 10) (A 4 h) (k)))), some (.int (nI (zsum (fun i => if A 3 i / 10 = A 6 h then 1 else 0) (A 4 h) (k)))), some (.int (nI (zcnt A 1 h))), some (.int (nI k)), v15] [] (hw A (al2 G u v))
  | 0, _ => rfl
  | k + 1, hk => by
    have h0 := hr.1.2.2.1
    have c1 := zcnt_le (h := h) hr.1.1 (by omega)
    have r1 := (row_sm hr (by omega) (show k < zcnt A 1 h by omega)).2
    have w1 : A 6 h < 6 := (hr.1.2.2.2.1 h hh).2.1
    have b1 := h_bagv (scr := scr) (G := al2 G u v) hr (h := h) (i := k) (by omega) (by omega)
    have b2 := h_bagc (scr := scr) (G := al2 G u v) hr (h := h) (i := k) (by omega) (by omega)
    rw [show bgv A h k = nI (A 3 (A 4 h + k) % 10) by unfold bgv; rw [if_pos ⟨hh, by omega⟩]; rfl] at b1
    rw [show bgc A h k = nI (A 3 (A 4 h + k) / 10) by unfold bgc; rw [if_pos ⟨hh, by omega⟩]; rfl] at b2
    refine (k_sum hr hh v15 k (by omega)).trans ?_
    refine b93_87.trans ((i_lt (by omega) (by omega)).trans ?_)
    refine (b93_94 ob0 b1 ob0 b2 ob0 (h_heir1 1 hr hh (by omega))).trans ?_
    have es : nI (zsum (fun i => A 3 i % 10) (A 4 h) k) + nI (A 3 (A 4 h + k) % 10) = nI (zsum (fun i => A 3 i % 10) (A 4 h) (k + 1)) := n_add _ _
    rw [es]
    show (if nI (A 3 (A 4 h + k) / 10) = nI (A 6 h) then _ else _) = _
    have m1 : A 3 (A 4 h + k) / 10 < 1000 := by
      have : A 3 (A 4 h + k) < 1000 := r1
      omega
    by_cases e : A 3 (A 4 h + k) / 10 = A 6 h
    · rw [i_eq e]
      refine b93_129.trans ?_
      have ec : nI (zsum (fun i => if A 3 i / 10 = A 6 h then 1 else 0) (A 4 h) k) + nI 1 = nI (zsum (fun i => if A 3 i / 10 = A 6 h then 1 else 0) (A 4 h) (k + 1)) := by
        rw [n_add]
        show _ = nI (zsum _ _ k + (if A 3 (A 4 h + k) / 10 = A 6 h then 1 else 0))
        rw [if_pos e]
      rw [ec, n_add]
    · rw [i_ne e (by omega) (by omega)]
      refine b93_133.trans ?_
      have ec : nI (zsum (fun i => if A 3 i / 10 = A 6 h then 1 else 0) (A 4 h) k) + nI 0 = nI (zsum (fun i => if A 3 i / 10 = A 6 h then 1 else 0) (A 4 h) (k + 1)) := by
        rw [n_add]
        show _ = nI (zsum _ _ k + (if A 3 (A 4 h + k) / 10 = A 6 h then 1 else 0))
        rw [if_neg e]
      rw [ec, n_add]
/-- one of both measures -/
theorem mm_step (hk : k < 2) {x a d : Nat} (hx : x < 5000) (ha : a < 5000) (hd : d < 5000) (hu : u[k]? = some (nI a)) (hv : v[k]? = some (nI d)) (hh : h < 1000) : zd scr 93 (if h = 0 then 185 else 175) [some (.ref 0), some (.int (nI (A 1 1))), some (.int x2), some (.int x3), some (.int x4), some (.int x5), some (.int x6), some (.ref (70 + G.length)), some (.ref (71 + G.length)), some (.int x9), some (.int (nI h)), some (.int x11), some (.int x12), some (.int x13), some (.int (nI k)), some (.int (nI x))] [.int (nI k), .ref (70 + G.length)] (hw A (al2 G u v)) = zd scr 93 146 [some (.ref 0), some (.int (nI (A 1 1))), some (.int x2), some (.int x3), some (.int x4), some (.int x5), some (.int x6), some (.ref (70 + G.length)), some (.ref (71 + G.length)), some (.int x9), some (.int (nI h)), some (.int x11), some (.int x12), some (.int x13), some (.int (nI (k + 1))), some (.int (nI x))] [] (hw A (al2 G (u.set k (nI (if h = 0 ∨ x < a then x else a))) (v.set k (nI (if h = 0 ∨ d < x then x else d))))) := by
  have lu := (List.getElem?_eq_some_iff.mp hu).1
  have lv := (List.getElem?_eq_some_iff.mp hv).1
  have ku := zal_at (al_7 (A := A) (G := G) (u := u) (v := v)) hu (show k < 2147483648 by omega)
  have su := fun y => zas_at (x := y) (al_7 (A := A) (G := G) (u := u) (v := v)) lu (show k < 2147483648 by omega)
  have kv := fun (w : List Int32) => zal_at (al_8 (A := A) (G := G) (u := w) (v := v)) hv (show k < 2147483648 by omega)
  have sv := fun (w : List Int32) y => zas_at (x := y) (al_8 (A := A) (G := G) (u := w) (v := v)) lv (show k < 2147483648 by omega)
  -- behind the least one
  have sec : ∀ (w : List Int32), zd scr 93 (if h = 0 then 215 else 205) [some (.ref 0), some (.int (nI (A 1 1))), some (.int x2), some (.int x3), some (.int x4), some (.int x5), some (.int x6), some (.ref (70 + G.length)), some (.ref (71 + G.length)), some (.int x9), some (.int (nI h)), some (.int x11), some (.int x12), some (.int x13), some (.int (nI k)), some (.int (nI x))] [.int (nI k), .ref (71 + G.length)] (hw A (al2 G w v)) = zd scr 93 146 [some (.ref 0), some (.int (nI (A 1 1))), some (.int x2), some (.int x3), some (.int x4), some (.int x5), some (.int x6), some (.ref (70 + G.length)), some (.ref (71 + G.length)), some (.int x9), some (.int (nI h)), some (.int x11), some (.int x12), some (.int x13), some (.int (nI (k + 1))), some (.int (nI x))] [] (hw A (al2 G w (v.set k (nI (if h = 0 ∨ d < x then x else d))))) := by
    intro w
    by_cases e : h = 0
    · rw [if_pos e, if_pos (Or.inl e)]
      refine (b93_215 (sv w _)).trans ?_
      rw [al_8s, n_add]
    · rw [if_neg e]
      refine (b93_205 (kv w)).trans ?_
      by_cases c : d < x
      · rw [i_lt c (by omega), if_pos (Or.inr c)]
        refine (b93_215 (sv w _)).trans ?_
        rw [al_8s, n_add]
      · rw [i_nlt c (by omega), if_neg (by omega)]
        refine (b93_220 (kv w) (sv w _)).trans ?_
        rw [al_8s, n_add]
  by_cases e : h = 0
  · have s0 := sec (u.set k (nI x))
    rw [if_pos e] at s0
    rw [if_pos e, if_pos (Or.inl e)]
    refine (b93_185 (su _)).trans ?_
    rw [al_7s, i_eq0 e]
    exact s0
  · rw [if_neg e]
    refine (b93_175 ku).trans ?_
    by_cases c : x < a
    · have s0 := sec (u.set k (nI x))
      rw [if_neg e] at s0
      rw [i_lt c (by omega), if_pos (Or.inr c)]
      refine (b93_185 (su _)).trans ?_
      rw [al_7s, i_ne0 e (by omega)]
      exact s0
    · have s0 := sec (u.set k (nI a))
      rw [if_neg e] at s0
      rw [i_nlt c (by omega), if_neg (by omega)]
      refine (b93_190 ku (su _)).trans ?_
      rw [al_7s, i_ne0 e (by omega)]
      exact s0
/-- one heir -/
theorem h_step (hr : zRR A 1 b) (hh : h < A 1 1) (v11 v12 v13 v14 v15 : Option Value) : ∃ w11 w12 w13 w14 w15, zd scr 93 58 [some (.ref 0), some (.int (nI (A 1 1))), some (.int (nI (orS A (h)))), some (.int (nI (zsum (fun h => abt A 1 h 2) 0 (h)))), some (.int (nI (zsum (fun h => abt A 1 h 3) 0 (h)))), some (.int (nI (zsum (fun h => abt A 1 h 4) 0 (h)))), some (.int (nI 0)), some (.ref (70 + G.length)), some (.ref (71 + G.length)), some (.int (nI 1)), some (.int (nI (h))), v11, v12, v13, v14, v15] [] (hw A (al2 G [nI (pmn (fun h => abt A 1 h 2) (h)), nI (pmn (fun h => abt A 1 h 3) (h))] [nI (pmx (fun h => abt A 1 h 2) (h)), nI (pmx (fun h => abt A 1 h 3) (h))])) = zd scr 93 58 [some (.ref 0), some (.int (nI (A 1 1))), some (.int (nI (orS A (h + 1)))), some (.int (nI (zsum (fun h => abt A 1 h 2) 0 (h + 1)))), some (.int (nI (zsum (fun h => abt A 1 h 3) 0 (h + 1)))), some (.int (nI (zsum (fun h => abt A 1 h 4) 0 (h + 1)))), some (.int (nI 0)), some (.ref (70 + G.length)), some (.ref (71 + G.length)), some (.int (nI 1)), some (.int (nI (h + 1))), w11, w12, w13, w14, w15] [] (hw A (al2 G [nI (pmn (fun h => abt A 1 h 2) (h + 1)), nI (pmn (fun h => abt A 1 h 3) (h + 1))] [nI (pmx (fun h => abt A 1 h 2) (h + 1)), nI (pmx (fun h => abt A 1 h 3) (h + 1))])) := by
  have h0 := hr.1.2.2.1
  have c1 := zcnt_le (h := h) hr.1.1 (by omega)
  have vl := zval_le (h := h) hr.1.1 (by omega)
  have ev : zsum (fun i => A 3 i % 10) (A 4 h) (zcnt A 1 h) = zval A 1 h := rfl
  have ew : zsum (fun i => if A 3 i / 10 = A 6 h then 1 else 0) (A 4 h) (zcnt A 1 h) = abt A 1 h 4 := rfl
  have b2 := pm_b (f := (fun h => abt A 1 h 2)) (M := 4000) h (fun i hi => by show zcnt A 1 i ≤ 4000; have := zcnt_le (h := i) hr.1.1 (by omega); omega)
  have b3 := pm_b (f := (fun h => abt A 1 h 3)) (M := 4000) h (fun i hi => by show zval A 1 i ≤ 4000; have := zval_le (h := i) hr.1.1 (by omega); omega)
  obtain ⟨p1, p2⟩ := plc_at hr hh
  have oa := ord_at hr hh
  have ol := orS_lt hr h (by omega)
  -- the bag
  have e1 : zd scr 93 58 [some (.ref 0), some (.int (nI (A 1 1))), some (.int (nI (orS A (h)))), some (.int (nI (zsum (fun h => abt A 1 h 2) 0 (h)))), some (.int (nI (zsum (fun h => abt A 1 h 3) 0 (h)))), some (.int (nI (zsum (fun h => abt A 1 h 4) 0 (h)))), some (.int (nI 0)), some (.ref (70 + G.length)), some (.ref (71 + G.length)), some (.int (nI 1)), some (.int (nI (h))), v11, v12, v13, v14, v15] [] (hw A (al2 G [nI (pmn (fun h => abt A 1 h 2) (h)), nI (pmn (fun h => abt A 1 h 3) (h))] [nI (pmx (fun h => abt A 1 h 2) (h)), nI (pmx (fun h => abt A 1 h 3) (h))])) = zd scr 93 146 [some (.ref 0), some (.int (nI (A 1 1))), some (.int (nI (orS A h))), some (.int (nI (zsum (fun h => abt A 1 h 2) 0 h))), some (.int (nI (zsum (fun h => abt A 1 h 3) 0 h))), some (.int (nI (zsum (fun h => abt A 1 h 4) 0 h))), some (.int (nI 0)), some (.ref (70 + G.length)), some (.ref (71 + G.length)), some (.int (nI 1)), some (.int (nI h)), some (.int (nI (zval A 1 h))), some (.int (nI (abt A 1 h 4))), some (.int (nI (zcnt A 1 h))), some (.int (nI 0)), v15] [] (hw A (al2 G [nI (pmn (fun h => abt A 1 h 2) (h)), nI (pmn (fun h => abt A 1 h 3) (h))] [nI (pmx (fun h => abt A 1 h 2) (h)), nI (pmx (fun h => abt A 1 h 3) (h))])) := by
    refine b93_58.trans ((i_lt hh (by omega)).trans (b93_64.trans ((if_neg (by decide)).trans ((b93_69 ob0 (h_heir1 2 hr hh (by omega))).trans ?_))))
    refine (k_sum hr hh v15 (zcnt A 1 h) (Nat.le_refl _)).trans ?_
    rw [ev, ew]
    exact b93_87.trans ((i_nlt (by omega) (by omega)).trans b93_143)
  -- how many
  have e2 := mm_step (scr := scr) (A := A) (G := G) (k := 0) (h := h) (x := zcnt A 1 h) (a := pmn (fun h => abt A 1 h 2) h) (d := pmx (fun h => abt A 1 h 2) h) (u := [nI (pmn (fun h => abt A 1 h 2) h), nI (pmn (fun h => abt A 1 h 3) h)]) (v := [nI (pmx (fun h => abt A 1 h 2) h), nI (pmx (fun h => abt A 1 h 3) h)]) (x2 := nI (orS A h)) (x3 := nI (zsum (fun h => abt A 1 h 2) 0 h)) (x4 := nI (zsum (fun h => abt A 1 h 3) 0 h)) (x5 := nI (zsum (fun h => abt A 1 h 4) 0 h)) (x6 := nI 0) (x9 := nI 1) (x11 := nI (zval A 1 h)) (x12 := nI (abt A 1 h 4)) (x13 := (nI (zcnt A 1 h))) (by omega) (by omega) (by omega) (by omega) rfl rfl (by omega)
  rw [pmn_s (f := (fun h => abt A 1 h 2)) (h := h) (zcnt A 1 h) rfl, pmx_s (f := (fun h => abt A 1 h 2)) (h := h) (zcnt A 1 h) rfl] at e2
  -- what they are worth
  have e3 := mm_step (scr := scr) (A := A) (G := G) (k := 1) (h := h) (x := zval A 1 h) (a := pmn (fun h => abt A 1 h 3) h) (d := pmx (fun h => abt A 1 h 3) h) (u := [nI (pmn (fun h => abt A 1 h 2) (h + 1)), nI (pmn (fun h => abt A 1 h 3) h)]) (v := [nI (pmx (fun h => abt A 1 h 2) (h + 1)), nI (pmx (fun h => abt A 1 h 3) h)]) (x2 := nI (orS A h)) (x3 := nI (zsum (fun h => abt A 1 h 2) 0 h)) (x4 := nI (zsum (fun h => abt A 1 h 3) 0 h)) (x5 := nI (zsum (fun h => abt A 1 h 4) 0 h)) (x6 := nI 0) (x9 := nI 1) (x11 := nI (zval A 1 h)) (x12 := nI (abt A 1 h 4)) (x13 := (nI (zcnt A 1 h))) (by omega) (by omega) (by omega) (by omega) rfl rfl (by omega)
  rw [pmn_s (f := (fun h => abt A 1 h 3)) (h := h) (zval A 1 h) rfl, pmx_s (f := (fun h => abt A 1 h 3)) (h := h) (zval A 1 h) rfl] at e3
  have f2 : zd scr 93 146 [some (.ref 0), some (.int (nI (A 1 1))), some (.int (nI (orS A h))), some (.int (nI (zsum (fun h => abt A 1 h 2) 0 h))), some (.int (nI (zsum (fun h => abt A 1 h 3) 0 h))), some (.int (nI (zsum (fun h => abt A 1 h 4) 0 h))), some (.int (nI 0)), some (.ref (70 + G.length)), some (.ref (71 + G.length)), some (.int (nI 1)), some (.int (nI h)), some (.int (nI (zval A 1 h))), some (.int (nI (abt A 1 h 4))), some (.int (nI (zcnt A 1 h))), some (.int (nI 0)), v15] [] (hw A (al2 G [nI (pmn (fun h => abt A 1 h 2) (h)), nI (pmn (fun h => abt A 1 h 3) (h))] [nI (pmx (fun h => abt A 1 h 2) (h)), nI (pmx (fun h => abt A 1 h 3) (h))])) = zd scr 93 (if h = 0 then 185 else 175) [some (.ref 0), some (.int (nI (A 1 1))), some (.int (nI (orS A h))), some (.int (nI (zsum (fun h => abt A 1 h 2) 0 h))), some (.int (nI (zsum (fun h => abt A 1 h 3) 0 h))), some (.int (nI (zsum (fun h => abt A 1 h 4) 0 h))), some (.int (nI 0)), some (.ref (70 + G.length)), some (.ref (71 + G.length)), some (.int (nI 1)), some (.int (nI h)), some (.int (nI (zval A 1 h))), some (.int (nI (abt A 1 h 4))), some (.int (nI (zcnt A 1 h))), some (.int (nI 0)), some (.int (nI (zcnt A 1 h)))] [.int (nI 0), .ref (70 + G.length)] (hw A (al2 G [nI (pmn (fun h => abt A 1 h 2) (h)), nI (pmn (fun h => abt A 1 h 3) (h))] [nI (pmx (fun h => abt A 1 h 2) (h)), nI (pmx (fun h => abt A 1 h 3) (h))])) := by
    refine b93_146.trans ((if_pos (by decide)).trans (b93_152.trans ((if_pos (by decide)).trans (b93_157.trans ?_))))
    by_cases e : h = 0
    · rw [i_eq0 e, if_pos e]
    · rw [i_ne0 e (by omega), if_neg e]
  have f3 : ∀ (hp : zAW), zd scr 93 146 [some (.ref 0), some (.int (nI (A 1 1))), some (.int (nI (orS A h))), some (.int (nI (zsum (fun h => abt A 1 h 2) 0 h))), some (.int (nI (zsum (fun h => abt A 1 h 3) 0 h))), some (.int (nI (zsum (fun h => abt A 1 h 4) 0 h))), some (.int (nI 0)), some (.ref (70 + G.length)), some (.ref (71 + G.length)), some (.int (nI 1)), some (.int (nI h)), some (.int (nI (zval A 1 h))), some (.int (nI (abt A 1 h 4))), some (.int (nI (zcnt A 1 h))), some (.int (nI (0 + 1))), some (.int (nI (zcnt A 1 h)))] [] hp = zd scr 93 (if h = 0 then 185 else 175) [some (.ref 0), some (.int (nI (A 1 1))), some (.int (nI (orS A h))), some (.int (nI (zsum (fun h => abt A 1 h 2) 0 h))), some (.int (nI (zsum (fun h => abt A 1 h 3) 0 h))), some (.int (nI (zsum (fun h => abt A 1 h 4) 0 h))), some (.int (nI 0)), some (.ref (70 + G.length)), some (.ref (71 + G.length)), some (.int (nI 1)), some (.int (nI h)), some (.int (nI (zval A 1 h))), some (.int (nI (abt A 1 h 4))), some (.int (nI (zcnt A 1 h))), some (.int (nI 1)), some (.int (nI (zval A 1 h)))] [.int (nI 1), .ref (70 + G.length)] hp := by
    intro hp
    refine b93_146.trans ((if_pos (by decide)).trans (b93_152.trans ((if_neg (by decide)).trans (b93_162.trans ?_))))
    by_cases e : h = 0
    · rw [i_eq0 e, if_pos e]
    · rw [i_ne0 e (by omega), if_neg e]
  refine ⟨some (.int (nI (zval A 1 h))), some (.int (nI (abt A 1 h 4))), some (.int (nI (zcnt A 1 h))), some (.int (nI (1 + 1))), some (.int (nI (zval A 1 h))), e1.trans (f2.trans (e2.trans ((f3 _).trans (e3.trans ?_))))⟩
  have hb := h_bagc (scr := scr) (G := al2 G [nI (pmn (fun h => abt A 1 h 2) (h + 1)), nI (pmn (fun h => abt A 1 h 3) (h + 1))] [nI (pmx (fun h => abt A 1 h 2) (h + 1)), nI (pmx (fun h => abt A 1 h 3) (h + 1))]) hr (h := h) (i := zcnt A 1 h) (by omega) (by omega)
  rw [show bgc A h (zcnt A 1 h) = -1 by unfold bgc; rw [if_neg (by omega)]] at hb
  have ha := h_at1 (scr := scr) (G := al2 G [nI (pmn (fun h => abt A 1 h 2) (h + 1)), nI (pmn (fun h => abt A 1 h 3) (h + 1))] [nI (pmx (fun h => abt A 1 h 2) (h + 1)), nI (pmx (fun h => abt A 1 h 3) (h + 1))]) hr p1
  rw [p2] at ha
  refine b93_146.trans ((if_neg (by decide)).trans ?_)
  refine (b93_232 ob0 (h_at1 hr hh) ob0 (h_heir1 5 hr hh (by omega)) ob0 ha).trans ((if_pos rfl).trans ?_)
  refine (b93_278 ob0 (h_heir1 3 hr hh (by omega))).trans ((if_pos rfl).trans ?_)
  refine (b93_290 ob0 (h_heir1 4 hr hh (by omega))).trans ((if_pos rfl).trans ?_)
  refine (b93_302 ob0 hb).trans ((if_pos rfl).trans (b93_315.trans ?_))
  have g1 : nI (orS A h) ||| (nI 1 <<< (nI (A 7 h) &&& 31)) = nI (orS A (h + 1)) := (bit_set _ ol _ (by omega)).1
  have g2 : nI (zsum (fun h => abt A 1 h 2) 0 h) + (nI (zcnt A 1 h)) = nI (zsum (fun h => abt A 1 h 2) 0 (h + 1)) := by
    rw [n_add]
    show _ = nI (zsum (fun h => abt A 1 h 2) 0 h + abt A 1 (0 + h) 2)
    rw [Nat.zero_add]; rfl
  have g3 : nI (zsum (fun h => abt A 1 h 3) 0 h) + nI (zval A 1 h) = nI (zsum (fun h => abt A 1 h 3) 0 (h + 1)) := by
    rw [n_add]
    show _ = nI (zsum (fun h => abt A 1 h 3) 0 h + abt A 1 (0 + h) 3)
    rw [Nat.zero_add]; rfl
  have g4 : nI (zsum (fun h => abt A 1 h 4) 0 h) + nI (abt A 1 h 4) = nI (zsum (fun h => abt A 1 h 4) 0 (h + 1)) := by
    rw [n_add]
    show _ = nI (zsum (fun h => abt A 1 h 4) 0 h + abt A 1 (0 + h) 4)
    rw [Nat.zero_add]
  rw [g1, g2, g3, g4, n_add]
theorem h_loop3 (hr : zRR A 1 b) (v11 v12 v13 v14 v15 : Option Value) : ∀ h, h ≤ A 1 1 → ∃ w11 w12 w13 w14 w15, zd scr 93 58 [some (.ref 0), some (.int (nI (A 1 1))), some (.int (nI (orS A (0)))), some (.int (nI (zsum (fun h => abt A 1 h 2) 0 (0)))), some (.int (nI (zsum (fun h => abt A 1 h 3) 0 (0)))), some (.int (nI (zsum (fun h => abt A 1 h 4) 0 (0)))), some (.int (nI 0)), some (.ref (70 + G.length)), some (.ref (71 + G.length)), some (.int (nI 1)), some (.int (nI (0))), v11, v12, v13, v14, v15] [] (hw A (al2 G [nI (pmn (fun h => abt A 1 h 2) (0)), nI (pmn (fun h => abt A 1 h 3) (0))] [nI (pmx (fun h => abt A 1 h 2) (0)), nI (pmx (fun h => abt A 1 h 3) (0))])) = zd scr 93 58 [some (.ref 0), some (.int (nI (A 1 1))), some (.int (nI (orS A (h)))), some (.int (nI (zsum (fun h => abt A 1 h 2) 0 (h)))), some (.int (nI (zsum (fun h => abt A 1 h 3) 0 (h)))), some (.int (nI (zsum (fun h => abt A 1 h 4) 0 (h)))), some (.int (nI 0)), some (.ref (70 + G.length)), some (.ref (71 + G.length)), some (.int (nI 1)), some (.int (nI (h))), w11, w12, w13, w14, w15] [] (hw A (al2 G [nI (pmn (fun h => abt A 1 h 2) (h)), nI (pmn (fun h => abt A 1 h 3) (h))] [nI (pmx (fun h => abt A 1 h 2) (h)), nI (pmx (fun h => abt A 1 h 3) (h))]))
  | 0, _ => ⟨v11, v12, v13, v14, v15, rfl⟩
  | h + 1, hh => by
    obtain ⟨w11, w12, w13, w14, w15, e1⟩ := h_loop3 hr v11 v12 v13 v14 v15 h (by omega)
    obtain ⟨u11, u12, u13, u14, u15, e2⟩ := h_step (scr := scr) (G := G) hr (h := h) (by omega) w11 w12 w13 w14 w15
    exact ⟨u11, u12, u13, u14, u15, e1.trans e2⟩
/-- the hopper -/
theorem hop_loop (hr : zRR A 1 b) (v11 v12 v13 v14 v15 : Option Value) : ∀ k, k ≤ zcnt A 1 6 → zd scr 93 331 [some (.ref 0), some (.int (nI (A 1 1))), some (.int x2), some (.int x3), some (.int x4), some (.int x5), some (.int (nI 0)), some (.ref (70 + G.length)), some (.ref (71 + G.length)), some (.int x9), some (.int (nI 0)), v11, v12, v13, v14, v15] [] (hw A (al2 G u v)) = zd scr 93 331 [some (.ref 0), some (.int (nI (A 1 1))), some (.int x2), some (.int x3), some (.int x4), some (.int x5), some (.int (nI (zsum (fun i => A 3 i % 10) (A 4 6) k))), some (.ref (70 + G.length)), some (.ref (71 + G.length)), some (.int x9), some (.int (nI k)), v11, v12, v13, v14, v15] [] (hw A (al2 G u v))
  | 0, _ => rfl
  | k + 1, hk => by
    have hl := f_lt hr
    have b1 := h_hopv (scr := scr) (G := al2 G u v) hr (i := k) (by omega)
    rw [show hpv A k = nI (A 3 (A 4 6 + k) % 10) by unfold hpv; rw [if_pos (by omega)]; rfl] at b1
    refine (hop_loop hr v11 v12 v13 v14 v15 k (by omega)).trans ?_
    refine (b93_331 ob0 (h_total 1 hr (by omega))).trans ?_
    rw [f_all, i_lt (by omega) (by omega)]
    refine (b93_341 ob0 b1).trans ?_
    have es : nI (zsum (fun i => A 3 i % 10) (A 4 6) k) + nI (A 3 (A 4 6 + k) % 10) = nI (zsum (fun i => A 3 i % 10) (A 4 6) (k + 1)) := n_add _ _
    rw [es, n_add]
theorem sprd_pm {k : Nat} : sprd A 1 k = pmx (fun h => abt A 1 h k) (A 1 1) - pmn (fun h => abt A 1 h k) (A 1 1) := by
  unfold sprd
  cases e : A 1 1 with
  | zero => rw [if_pos rfl]; rfl
  | succ t => rw [if_neg (by omega)]; rfl
theorem pm_le : ∀ h, pmn f h ≤ pmx f h
  | 0 => Nat.le_refl _
  | h + 1 => zmin_le_max h
theorem holds_ok (hi : pvA A b) : ∃ A' u v, pvA A' b ∧ (∀ c i, c ≠ 69 → A' c i = A c i) ∧ u.length = 2 ∧ v.length = 2 ∧ zC scr 93 [.ref 0] (hw A G) = some (some (.int (nI 1)), hw A' (al2 G u v)) := by
  have hr := hi.1
  have h0 := hr.1.2.2.1
  have hl := f_lt hr
  have n0 := h_heir (scr := scr) (G := al2 G [nI 0, nI 0] [nI 0, nI 0]) 0 hr (h := A 1 1) (by omega) (by omega)
  rw [if_neg (by omega)] at n0
  have n1 := h_at (scr := scr) (G := al2 G [nI 0, nI 0] [nI 0, nI 0]) hr (t := A 1 1) (by omega)
  rw [if_neg (by omega)] at n1
  have e1 : zC scr 93 [.ref 0] (hw A G) = zd scr 93 58 [some (.ref 0), some (.int (nI (A 1 1))), some (.int (nI (orS A (0)))), some (.int (nI (zsum (fun h => abt A 1 h 2) 0 (0)))), some (.int (nI (zsum (fun h => abt A 1 h 3) 0 (0)))), some (.int (nI (zsum (fun h => abt A 1 h 4) 0 (0)))), some (.int (nI 0)), some (.ref (70 + G.length)), some (.ref (71 + G.length)), some (.int (nI 1)), some (.int (nI (0))), none, none, none, none, none] [] (hw A (al2 G [nI (pmn (fun h => abt A 1 h 2) (0)), nI (pmn (fun h => abt A 1 h 3) (0))] [nI (pmx (fun h => abt A 1 h 2) (0)), nI (pmx (fun h => abt A 1 h 3) (0))])) := by
    rw [zC_of zh93]
    refine (b93_0 ob0 (h_total 0 hr (by omega)) hw_len pu_len (by rw [pu_2]; exact ob0) (by rw [pu_2]; exact n0)).trans ((if_pos rfl).trans ?_)
    exact (b93_39 ob0 n1).trans ((if_pos rfl).trans b93_48)
  obtain ⟨w11, w12, w13, w14, w15, e2⟩ := h_loop3 (scr := scr) (G := G) hr none none none none none (A 1 1) (Nat.le_refl _)
  obtain ⟨u, hu⟩ : ∃ u : List Int32, u = [nI (pmn (fun h => abt A 1 h 2) (A 1 1)), nI (pmn (fun h => abt A 1 h 3) (A 1 1))] := ⟨_, rfl⟩
  obtain ⟨v, hv⟩ : ∃ v : List Int32, v = [nI (pmx (fun h => abt A 1 h 2) (A 1 1)), nI (pmx (fun h => abt A 1 h 3) (A 1 1))] := ⟨_, rfl⟩
  rw [← hu, ← hv] at e2
  obtain ⟨A', p1, po, p2⟩ := isBest_ok (scr := scr) (G := al2 G u v) hi
  refine ⟨A', u, v, p1, po, by rw [hu]; rfl, by rw [hv]; rfl, e1.trans (e2.trans ?_)⟩
  have e3 := hop_loop (scr := scr) (G := G) (u := u) (v := v) (x2 := nI (orS A (A 1 1))) (x3 := nI (zsum (fun h => abt A 1 h 2) 0 (A 1 1))) (x4 := nI (zsum (fun h => abt A 1 h 3) 0 (A 1 1))) (x5 := nI (zsum (fun h => abt A 1 h 4) 0 (A 1 1))) (x9 := nI 1) hr w11 w12 w13 w14 w15 (zcnt A 1 6) (Nat.le_refl _)
  refine b93_58.trans ((i_nlt (by omega) (by omega)).trans (b93_328.trans (e3.trans ((b93_331 ob0 (h_total 1 hr (by omega))).trans ?_))))
  rw [f_all, i_nlt (by omega) (by omega)]
  refine b93_359.trans ((if_neg (by decide)).trans (b93_364.trans ?_))
  rw [shl_n _ (by omega), orS_all hr, if_pos rfl]
  refine (b93_373 ob0 (h_total 2 hr (by omega))).trans ((if_pos rfl).trans ?_)
  refine (b93_382 ob0 (h_total 4 hr (by omega))).trans ((if_pos rfl).trans ?_)
  refine (b93_392 ob0 (h_total 8 hr (by omega))).trans ((if_pos rfl).trans ?_)
  refine (b93_403 ob0 (h_total 3 hr (by omega))).trans ((if_pos rfl).trans ?_)
  have hb := h_hopc (scr := scr) (G := al2 G u v) hr (i := zcnt A 1 6) (by omega)
  rw [show hpc A (zcnt A 1 6) = -1 by unfold hpc; rw [if_neg (by omega)]] at hb
  refine (b93_413 ob0 (h_total 1 hr (by omega)) ob0 hb).trans ((if_pos rfl).trans (b93_427.trans ((if_neg (by decide)).trans ?_)))
  have z70 : zal (hw A (al2 G u v)) (70 + G.length) (nI 0) = some (nI (pmn (fun h => abt A 1 h 2) (A 1 1))) := zal_at al_7 (by rw [hu]; rfl) (by omega)
  have z71 : zal (hw A (al2 G u v)) (70 + G.length) (nI 1) = some (nI (pmn (fun h => abt A 1 h 3) (A 1 1))) := zal_at al_7 (by rw [hu]; rfl) (by omega)
  have z80 : zal (hw A (al2 G u v)) (71 + G.length) (nI 0) = some (nI (pmx (fun h => abt A 1 h 2) (A 1 1))) := zal_at al_8 (by rw [hv]; rfl) (by omega)
  have z81 : zal (hw A (al2 G u v)) (71 + G.length) (nI 1) = some (nI (pmx (fun h => abt A 1 h 3) (A 1 1))) := zal_at al_8 (by rw [hv]; rfl) (by omega)
  refine (b93_439 ob0 (h_total 9 hr (by omega)) z80 z70).trans ((if_pos ?_).trans ?_)
  · rw [n_sub (pm_le _)]
    exact congrArg nI (sprd_pm (A := A) (k := 2))
  refine (b93_457 ob0 (h_total 10 hr (by omega)) z81 z71).trans ((if_pos ?_).trans ?_)
  · rw [n_sub (pm_le _)]
    exact congrArg nI (sprd_pm (A := A) (k := 3))
  exact (b93_475 p2).trans ((if_neg (by decide)).trans b93_482)
end HO
