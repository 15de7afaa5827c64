/-! Past: the recorded States -/
def pastOk (A : Nat → Nat → Nat) : Prop := A 25 1 ≤ 5 ∧ (∀ i, i < 5 → zsb (A 26 i) ∧ 27 ≤ A 26 i) ∧ ∀ i j, i < 5 → j < 5 → A 26 i = A 26 j → i = j
def dsA (A : Nat → Nat → Nat) : Nat → Nat → Nat := fun c i => if c = 26 ∧ i < 4 then A 26 (i + 1) else if c = 26 ∧ i = 4 then A 26 0 else if c = 25 ∧ i = 1 then 4 else A c i
def kp0 (A : Nat → Nat → Nat) : Nat → Nat → Nat := if A 25 1 < 5 then A else dsA A
def kpA (A : Nat → Nat → Nat) (p : Nat) : Nat → Nat → Nat := up (cpS (kp0 A) p (kp0 A 26 (kp0 A 25 1))) 25 1 (kp0 A 25 1 + 1)
def tbA (A : Nat → Nat → Nat) (p : Nat) : Nat → Nat → Nat := cpS (up A 25 1 (A 25 1 - 1)) (A 26 (A 25 1 - 1)) p
section PS
variable {A B : Nat → Nat → Nat} {p q h : Nat} {scr : List Int32}
theorem p_pf (x : Nat) : zpf (wd A) 25 2 1 (.int (nI x)) = some (wd (up A 25 1 x)) := o_pf o_25 (by show 1 < 2; omega) o_25 (by simp [up])
theorem p_gf : zgf (wd A) 25 2 1 = some (.int (nI (A 25 1))) := o_gf o_25 rfl
theorem w_qs {i r : Nat} (hi : i < 5) (hr : zsb r) : zqs (wd A) 26 (nI i) r = some (wd (up A 26 i r)) := by
  unfold zqs
  rw [wd_get (by omega), show zcell A 26 = Sum.inr (Sum.inl ((List.range 5).map (fun i => some (A 26 i)))) from rfl]
  dsimp only
  rw [if_neg (by rw [n_neg (by omega), n_cl (by omega), List.length_map, List.length_range]; exact fun q => q.elim id (fun q => by omega)), wd_get (o_st hr (A := A)).1, (o_st hr).2, n_cl (by omega)]
  refine congrArg some (wd_set (by omega) ?_ (fun j _ hj k => ?_))
  · show Sum.inr (Sum.inl ((List.range 5).map (fun j => some (up A 26 i r 26 j)))) = _
    congr 2
    apply List.ext_getElem?
    intro j
    rw [List.getElem?_set, List.getElem?_map, List.getElem?_map, List.length_map, List.length_range]
    by_cases hj : j < 5
    · rw [List.getElem?_range hj]
      by_cases e : i = j
      · subst e; simp [up, hi]
      · simp [up, e, Ne.symm e]
    · rw [List.getElem?_eq_none (by simpa using hj), if_neg (by omega)]
      rfl
  · unfold up
    rw [if_neg (fun q => hj q.1)]
theorem p_discard (ho : pastOk A) : zC scr 22 [.ref 25] (wd A) = some (none, wd (dsA A)) := by
  rw [zC_of zh22]
  refine (b22_0 (o_gf o_25 rfl) (w_ql (i := 0) (by omega))).trans ?_
  refine (zloopA (scr := scr) (mi := 22) (pc := 9) (st := []) (L := fun j => [some (.ref 25), some (.ref (A 26 0)), some (.int (nI (1 + j)))]) (W := fun j c i => if c = 26 ∧ i < j then A 26 (i + 1) else A c i) 4 (by funext c i; exact if_neg (by omega)) (fun j hj => ?_)).trans ?_
  · refine b22_9.trans ?_
    rw [i_lt (by omega) (by omega)]
    refine (b22_14 (g3 := A 26 (1 + j)) (o_gf o_25 rfl) (o_gf o_25 rfl) (by rw [w_ql (by omega)]; rw [if_neg (by omega)]) (by rw [n_sub (by omega)]; exact w_qs (by omega) (ho.2.1 _ (by omega)).1)).trans ?_
    rw [n_add]
    refine congrArg (fun w => zd scr 22 9 _ [] w) (congrArg wd ?_)
    funext c i
    simp only [up]
    (repeat' split) <;> first | rfl | (exfalso; omega) | (exact zAe (by omega) (by omega))
  · refine b22_9.trans ?_
    rw [i_nlt (by omega) (by omega)]
    refine (b22_34 (o_gf o_25 rfl) (w_qs (i := 4) (by omega) (ho.2.1 0 (by omega)).1) (p_pf 4)).trans ?_
    refine congrArg (fun w => some (none, w)) (congrArg wd ?_)
    funext c i
    simp only [up, dsA]
    (repeat' split) <;> first | rfl | (exfalso; omega) | (exact zAe (by omega) (by omega))
theorem dsA_ok (ho : pastOk A) : pastOk (dsA A) ∧ dsA A 25 1 = 4 := by
  have e : ∀ i, i < 5 → dsA A 26 i = A 26 (if i < 4 then i + 1 else 0) := fun i hi => by
    simp only [dsA, true_and]
    by_cases c : i < 4
    · rw [if_pos c, if_pos c]
    · rw [if_neg c, if_pos (by omega), if_neg c]
  have e25 : dsA A 25 1 = 4 := by simp [dsA]
  refine ⟨⟨by omega, fun i hi => ?_, fun i j hi hj h => ?_⟩, e25⟩
  · rw [e i hi]
    exact ho.2.1 _ (by split <;> omega)
  · rw [e i hi, e j hj] at h
    have := ho.2.2 _ _ (by split <;> omega) (by split <;> omega) h
    split at this <;> split at this <;> omega
theorem kp0_ok (ho : pastOk A) : pastOk (kp0 A) ∧ kp0 A 25 1 < 5 := by
  unfold kp0
  split
  · exact ⟨ho, by assumption⟩
  · exact ⟨(dsA_ok ho).1, by rw [(dsA_ok ho).2]; omega⟩
theorem p_keep (hp : zsb p) (h27 : p < 27) (ho : pastOk A) : zC scr 21 [.ref 25, .ref p] (wd A) = some (none, wd (kpA A p)) := by
  rw [zC_of zh21]
  refine (b21_0 p_gf).trans ?_
  have hk := kp0_ok ho
  have hz := hk.1.2.1 _ hk.2
  have e25 : ∀ i, cpS (kp0 A) p (kp0 A 26 (kp0 A 25 1)) 25 i = kp0 A 25 i := fun i => by
    simp only [cpS]
    rw [if_neg (by omega)]
  by_cases c : A 25 1 < 5
  · rw [i_lt c (by omega)]
    have e : kp0 A = A := if_pos c
    unfold kpA
    rw [e] at hz e25 ⊢
    exact b21_12 (f4 := nI (A 25 1)) (o_gf o_25 rfl) p_gf (w_ql c) (o_ob (o_st hz.1)) (s_copyFrom hz.1 hp (by omega)) (by rw [p_gf, e25]) (by rw [n_add]; exact p_pf _)
  · rw [i_nlt c (by have := ho.1; omega)]
    have e : kp0 A = dsA A := if_neg c
    unfold kpA
    rw [e] at hz e25 hk ⊢
    exact b21_8 (f4 := nI (dsA A 25 1)) (o_ob o_25) (p_discard ho) (o_gf o_25 rfl) p_gf (w_ql hk.2) (o_ob (o_st hz.1)) (s_copyFrom hz.1 hp (by omega)) (by rw [p_gf, e25]) (by rw [n_add]; exact p_pf _)
theorem p_takeBack (hp : zsb p) (h27 : p < 27) (ho : pastOk A) (hpos : 0 < A 25 1) : zC scr 23 [.ref 25, .ref p] (wd A) = some (none, wd (tbA A p)) := by
  have h5 := ho.1
  have hz := ho.2.1 (A 25 1 - 1) (by omega)
  rw [zC_of zh23]
  refine (b23_0 p_gf).trans ?_
  rw [i_pos hpos (by omega)]
  have e1 : up A 25 1 (A 25 1 - 1) 25 1 = A 25 1 - 1 := by simp [up]
  refine b23_7 (f3 := nI (A 25 1 - 1)) (g4 := A 26 (A 25 1 - 1)) p_gf (by rw [n_sub (by omega)]; exact p_pf _) (o_gf o_25 rfl) (by rw [p_gf, e1]) (by rw [w_ql (by omega)]; simp [up]) (o_ob (o_st hp)) (s_copyFrom hp hz.1 (by omega))
end PS
