/-! how a heap of ours (zAW) stands in the machine's -/
def zcv (b0 b : Nat) : Value → Value
  | .int x => .int x
  | .ref a => .ref (b0 + a)
  | .retAddr _ => .ref b
  | _ => .null
theorem zcv_cat (b0 b : Nat) (v : Value) : (zcv b0 b v).category = 1 := by cases v <;> rfl
def zE (b0 b cI cS : Nat) : zAC → va_E
  | .inl l => .inl (cI, l.length, .inl (fun i => l.getD i 0))
  | .inr (.inl l) => .inl (cS, l.length, .inr (.inr (.inr (.inr (fun i => (l.getD i none).map (fun a => b0 + a))))))
  | .inr (.inr o) => .inr (o.1, o.2.map (zcv b0 b))
def zW (b0 b cI cS : Nat) (w : zAW) : va_W := w.mapIdx (fun k c => (b0 + k, zE b0 b cI cS c))
theorem zW_get {b0 b cI cS : Nat} {w : zAW} {k : Nat} {c : zAC} (h : w[k]? = some c) : (zW b0 b cI cS w)[k]? = some (b0 + k, zE b0 b cI cS c) := by
  simp [zW, List.getElem?_mapIdx, h]
theorem zW_inv {b0 b cI cS : Nat} {w : zAW} {k : Nat} {q : Nat × va_E} (h : (zW b0 b cI cS w)[k]? = some q) : ∃ c, w[k]? = some c ∧ q = (b0 + k, zE b0 b cI cS c) := by
  simp only [zW, List.getElem?_mapIdx, Option.map_eq_some_iff] at h
  obtain ⟨c, h1, h2⟩ := h
  exact ⟨c, h1, h2.symm⟩
theorem zW_set (b0 b cI cS : Nat) (w : zAW) (k : Nat) (c : zAC) : (zW b0 b cI cS w).set k (b0 + k, zE b0 b cI cS c) = zW b0 b cI cS (w.set k c) := by
  apply List.ext_getElem?
  intro j
  simp only [zW, List.getElem?_mapIdx, List.getElem?_set, List.length_mapIdx]
  by_cases h : k = j
  · subst h
    by_cases h2 : k < w.length <;> simp [h2]
  · simp [h]
theorem zW_app (b0 b cI cS : Nat) (w : zAW) (c : zAC) : zW b0 b cI cS (w ++ [c]) = zW b0 b cI cS w ++ [(b0 + w.length, zE b0 b cI cS c)] := by
  simp [zW, List.mapIdx_append]
theorem zW_D (b0 b cI cS : Nat) (w : zAW) : va_D (fun q => b0 ≤ q) (zW b0 b cI cS w) := by
  refine ⟨fun i j p q hi hj h => ?_, fun k q hk => ?_⟩
  · obtain ⟨c, -, rfl⟩ := zW_inv hi
    obtain ⟨c', -, rfl⟩ := zW_inv hj
    have h' : b0 + i = b0 + j := h
    omega
  · obtain ⟨c, -, rfl⟩ := zW_inv hk
    exact Nat.le_add_right _ _
def zc1s : zAC → Nat
  | .inl l => l.length
  | .inr (.inl l) => l.length
  | .inr (.inr o) => o.2.length
def zsz (w : zAW) : Nat := (w.map zc1s).sum
theorem zsz_app (w : zAW) (c : zAC) : zsz (w ++ [c]) = zsz w + zc1s c := by simp [zsz]
theorem zsz_set {w : zAW} {k : Nat} {c c' : zAC} (h : w[k]? = some c) (hc : zc1s c' = zc1s c) : zsz (w.set k c') = zsz w := by
  induction w generalizing k with
  | nil => simp at h
  | cons x w ih =>
    cases k with
    | zero =>
      rw [List.getElem?_cons_zero] at h
      cases h
      simp [zsz, hc]
    | succ k =>
      rw [List.getElem?_cons_succ] at h
      have := ih h
      simp only [zsz, List.set_cons_succ, List.map_cons, List.sum_cons] at this ⊢
      omega
/-- the locals -/
def zlv (b0 b : Nat) (ls : zLs) : List (Nat × Value) := ls.zipIdx.filterMap (fun q => q.1.map (fun v => (q.2, zcv b0 b v)))
theorem zlv_mem {b0 b : Nat} {ls : zLs} {q : Nat × Value} : q ∈ zlv b0 b ls ↔ ∃ v, ls[q.1]? = some (some v) ∧ q.2 = zcv b0 b v := by
  simp only [zlv, List.mem_filterMap, Option.map_eq_some_iff]
  constructor
  · rintro ⟨⟨o, i⟩, h1, v, h2, rfl⟩
    have h3 := List.mem_zipIdx_iff_getElem?.mp h1
    exact ⟨v, by rw [h3]; exact congrArg some h2, rfl⟩
  · rintro ⟨v, h1, h2⟩
    exact ⟨(some v, q.1), List.mem_zipIdx_iff_getElem?.mpr h1, v, rfl, by rw [← h2]⟩
theorem zld_some {ls : zLs} {i : Nat} {v : Value} (h : zld ls i = some v) : ls[i]? = some (some v) := by
  unfold zld at h
  split at h
  · rename_i u hu
    cases h
    exact hu
  · cases h
theorem zld_at {b0 b nL : Nat} {ls : zLs} {lsA : Array Slot} {i : Nat} {v : Value} (hL : lv_has lsA nL (zlv b0 b ls)) (h : zld ls i = some v) : lsA[i]? = some (.val (zcv b0 b v)) :=
  hL.2.2 (i, zcv b0 b v) (zlv_mem.mpr ⟨v, zld_some h, rfl⟩)
theorem zld_lt {ls : zLs} {i : Nat} {v : Value} (h : zld ls i = some v) : i < ls.length := (List.getElem?_eq_some_iff.mp (zld_some h)).1
theorem zlv_set {b0 b nL : Nat} {ls : zLs} {lsA : Array Slot} {i : Nat} {v : Value} {u : Value} (hu : u = zcv b0 b v) (h : lv_has lsA nL ((i, u) :: (zlv b0 b ls).filter (fun q => !(q.1 == i) && !(q.1 + 1 == i && q.2.category == 2)))) : lv_has lsA nL (zlv b0 b (ls.set i (some v))) := by
  subst hu
  refine ⟨h.1, h.2.1, fun q hq => h.2.2 q ?_⟩
  obtain ⟨u, h1, h2⟩ := zlv_mem.mp hq
  obtain ⟨j, x⟩ := q
  dsimp only at h1 h2
  subst h2
  by_cases hj : j = i
  · subst hj
    have hlt := (List.getElem?_eq_some_iff.mp h1).1
    rw [List.length_set] at hlt
    rw [List.getElem?_set_self hlt] at h1
    cases h1
    exact List.mem_cons_self
  · rw [List.getElem?_set_ne (Ne.symm hj)] at h1
    refine List.mem_cons_of_mem _ (List.mem_filter.mpr ⟨zlv_mem.mpr ⟨u, h1, rfl⟩, ?_⟩)
    simp [hj, zcv_cat]
theorem zlv_idx {b0 b : Nat} {ls : zLs} {i : Nat} {v : Value} (h : zld ls i = some v) : ∃ k : Nat, (zlv b0 b ls)[k]? = some (i, zcv b0 b v) :=
  List.getElem?_of_mem (zlv_mem.mpr ⟨v, zld_some h, rfl⟩)
theorem zargs_eq (b0 b : Nat) : ∀ (as : List Value) (i : Nat), lv_args i (as.map (zcv b0 b)) = ((as.map (zcv b0 b)).zipIdx i).map (fun q => (q.2, q.1))
  | [], i => rfl
  | a :: as, i => by
    rw [List.map_cons, List.zipIdx_cons, List.map_cons, lv_args, zcv_cat, if_neg (by decide), zargs_eq b0 b as (i + 1)]
theorem zent_has {b0 b nL : Nat} {lsA : Array Slot} {as : List Value} {r : zRec} (h : lv_has lsA nL (lv_args 0 (as.map (zcv b0 b)))) : lv_has lsA nL (zlv b0 b (zent r as)) := by
  refine ⟨h.1, h.2.1, fun q hq => h.2.2 q ?_⟩
  obtain ⟨u, h1, h2⟩ := zlv_mem.mp hq
  obtain ⟨j, x⟩ := q
  dsimp only at h1 h2
  subst h2
  rw [zargs_eq, List.mem_map]
  refine ⟨(zcv b0 b u, j), List.mem_zipIdx_iff_getElem?.mpr ?_, rfl⟩
  unfold zent at h1
  by_cases hj : j < as.length
  · rw [List.getElem?_append_left (by simpa using hj), List.getElem?_map] at h1
    rw [List.getElem?_map]
    cases ha : as[j]? with
    | none => rw [ha] at h1; cases h1
    | some a => rw [ha] at h1; cases h1; rfl
  · rw [List.getElem?_append_right (by simpa using hj), List.getElem?_replicate] at h1
    split at h1
    · cases h1
    · cases h1
theorem zvfit_ok {ty : FieldType} {v : Value} (b0 b : Nat) (h : zvfit ty v = true) : narrow ty (zcv b0 b v) = zcv b0 b v ∧ fits ty (zcv b0 b v) = true := by
  unfold zvfit at h
  split at h
  · exact ⟨rfl, rfl⟩
  · rename_i x
    simp only [Bool.or_eq_true, beq_iff_eq] at h
    rcases h with rfl | rfl <;> exact ⟨rfl, rfl⟩
  · exact ⟨rfl, rfl⟩
  · exact ⟨rfl, rfl⟩
  · cases h
theorem zgetD_set {l : List Int32} {i : Nat} {x : Int32} (h : i < l.length) : upd (fun j => l.getD j 0) i x = fun j => (l.set i x).getD j 0 := by
  funext j
  simp only [upd, List.getD_eq_getElem?_getD, List.getElem?_set]
  by_cases hj : j = i
  · subst hj; simp [h]
  · simp [hj, Ne.symm hj]
theorem zcpl_getD {l0 l1 : List Int32} {sp dp n : Nat} (h0 : sp + n ≤ l0.length) (h1 : dp + n ≤ l1.length) : va_cpy (fun j => l0.getD j 0) (fun j => l1.getD j 0) sp dp n = fun j => (zcpl l0 l1 sp dp n).getD j 0 := by
  funext j
  simp only [va_cpy, zcpl, List.getD_eq_getElem?_getD]
  by_cases hj : j < dp
  · rw [if_neg (by omega), List.getElem?_append_left (by simp; omega), List.getElem?_take, if_pos hj]
  · rw [List.getElem?_append_right (by simp; omega)]
    have e1 : (List.take dp l1).length = dp := by simp; omega
    rw [e1]
    by_cases hj2 : j < dp + n
    · rw [if_pos (by omega), List.getElem?_append_left (by simp; omega), List.getElem?_take, if_pos (by omega), List.getElem?_drop]
    · rw [if_neg (by omega), List.getElem?_append_right (by simp; omega)]
      have e2 : (List.take n (List.drop sp l0)).length = n := by simp; omega
      rw [e2, List.getElem?_drop]
      congr 2
      omega
theorem zcpl_len {l0 l1 : List Int32} {sp dp n : Nat} (h0 : sp + n ≤ l0.length) (h1 : dp + n ≤ l1.length) : (zcpl l0 l1 sp dp n).length = l1.length := by
  simp [zcpl]; omega
theorem zvp_in {i : Int32} {n : Nat} (h0 : ¬ i < 0) (h : i.toNatClampNeg < n) : vp_in i n := fun q => q.elim h0 (fun q => absurd h (Nat.not_lt.mpr q))
