/-! the heap behind the constructors, by what may change: A, by cell and place or field; every row's length stays; 'best' of the reference holds its numbers one too great, for its -6 -/
theorem n_toInt {n : Nat} (h : n < 2147483648) : (nI n).toInt = (n : Int) := nI_toInt (by omega)
theorem n_add (a b : Nat) : nI a + nI b = nI (a + b) := (Int32.ofNat_add a b).symm
theorem n_sub {a b : Nat} (h : b ≤ a) : nI a - nI b = nI (a - b) := by
  have : nI a = nI (a - b) + nI b := by rw [n_add, Nat.sub_add_cancel h]
  rw [this, Int32.add_sub_cancel]
theorem n_mul (a b : Nat) : nI a * nI b = nI (a * b) := (Int32.ofNat_mul a b).symm
theorem n_lt {a b : Nat} (ha : a < 2147483648) (hb : b < 2147483648) : (nI a < nI b) = (a < b) := by
  rw [Int32.lt_iff_toInt_lt, n_toInt ha, n_toInt hb]; exact propext Int.ofNat_lt
theorem n_le {a b : Nat} (ha : a < 2147483648) (hb : b < 2147483648) : (nI a ≤ nI b) = (a ≤ b) := by
  rw [Int32.le_iff_toInt_le, n_toInt ha, n_toInt hb]; exact propext Int.ofNat_le
theorem n_inj {a b : Nat} (ha : a < 2147483648) (hb : b < 2147483648) : (nI a = nI b) = (a = b) := by
  apply propext
  constructor
  · intro h
    have h1 := congrArg Int32.toInt h
    rw [n_toInt ha, n_toInt hb] at h1
    omega
  · intro h; rw [h]
theorem n_neg {a : Nat} (ha : a < 2147483648) : (nI a < 0) = False := by
  rw [show (0 : Int32) = nI 0 from rfl, n_lt ha (by omega)]; simp
theorem n_pos {a : Nat} (ha : a < 2147483648) : (0 < nI a) = (0 < a) := by
  rw [show (0 : Int32) = nI 0 from rfl, n_lt (by omega) ha]
theorem n_le0 {a : Nat} (ha : a < 2147483648) : (nI a ≤ 0) = (a = 0) := by
  rw [show (0 : Int32) = nI 0 from rfl, n_le ha (by omega)]; simp
theorem n_eq0 {a : Nat} (ha : a < 2147483648) : (nI a = 0) = (a = 0) := by
  rw [show (0 : Int32) = nI 0 from rfl, n_inj ha (by omega)]
theorem n_cl {a : Nat} (ha : a < 2147483648) : (nI a).toNatClampNeg = a := by
  show (nI a).toInt.toNat = a
  rw [n_toInt ha]; rfl
theorem n_div {a b : Nat} (ha : a < 2147483648) (hb : b < 2147483648) : nI a / nI b = nI (a / b) := by
  have h1 : a / b ≤ a := Nat.div_le_self a b
  apply Int32.toInt_inj.mp
  rw [n_toInt (by omega)]
  have h2 := Int32.toInt_div (nI a) (nI b)
  rw [n_toInt ha, n_toInt hb] at h2
  have h3 : ((a : Int).tdiv (b : Int)) = ((a / b : Nat) : Int) := by
    rw [Int.tdiv_eq_ediv_of_nonneg (by omega)]; exact (Int.natCast_ediv a b).symm
  rw [h3] at h2
  rw [h2]
  generalize a / b = q at h1
  exact Int.bmod_eq_of_le (by omega) (by omega)
theorem n_rem {a b : Nat} (ha : a < 2147483648) (hb : b < 2147483648) : zrem (nI a) (nI b) = nI (a % b) := by
  unfold zrem
  rw [n_div ha hb, n_mul, n_sub (Nat.div_mul_le_self a b)]
  congr 1
  have := Nat.div_add_mod a b
  rw [Nat.mul_comm] at this
  omega
/-- a number of the script is a small one, or below 0, or far off -/
theorem n_of {x : Int32} (h : ¬ x < 0) : ∃ n : Nat, n < 2147483648 ∧ x = nI n := by
  have h0 : 0 ≤ x.toInt := by
    rw [Int32.lt_iff_toInt_lt, Int32.toInt_zero] at h
    omega
  have h1 : x.toInt < 2147483648 := Int32.toInt_lt x
  refine ⟨x.toInt.toNat, by omega, ?_⟩
  apply Int32.toInt_inj.mp
  rw [n_toInt (by omega)]
  omega

theorem i_lt {α : Type} {a b : Nat} {x y : α} (h : a < b) (hb : b < 2147483648) : (if nI a < nI b then x else y) = x := if_pos (by rw [n_lt (by omega) hb]; exact h)
theorem i_nlt {α : Type} {a b : Nat} {x y : α} (h : ¬ a < b) (ha : a < 2147483648) : (if nI a < nI b then x else y) = y := if_neg (by rw [n_lt ha (by omega)]; exact h)
theorem i_le {α : Type} {a b : Nat} {x y : α} (h : a ≤ b) (hb : b < 2147483648) : (if nI a ≤ nI b then x else y) = x := if_pos (by rw [n_le (by omega) hb]; exact h)
theorem i_nle {α : Type} {a b : Nat} {x y : α} (h : ¬ a ≤ b) (ha : a < 2147483648) : (if nI a ≤ nI b then x else y) = y := if_neg (by rw [n_le ha (by omega)]; exact h)
theorem i_eq {α : Type} {a b : Nat} {x y : α} (h : a = b) : (if nI a = nI b then x else y) = x := if_pos (by rw [h])
theorem i_ne {α : Type} {a b : Nat} {x y : α} (h : ¬ a = b) (ha : a < 2147483648) (hb : b < 2147483648) : (if nI a = nI b then x else y) = y := if_neg (by rw [n_inj ha hb]; exact h)
theorem i_eq0 {α : Type} {a : Nat} {x y : α} (h : a = 0) : (if nI a = 0 then x else y) = x := if_pos (by rw [h]; rfl)
theorem i_ne0 {α : Type} {a : Nat} {x y : α} (h : ¬ a = 0) (ha : a < 2147483648) : (if nI a = 0 then x else y) = y := if_neg (by rw [n_eq0 ha]; exact h)
theorem i_pos {α : Type} {a : Nat} {x y : α} (h : 0 < a) (ha : a < 2147483648) : (if 0 < nI a then x else y) = x := if_pos (by rw [n_pos ha]; exact h)
theorem i_npos {α : Type} {a : Nat} {x y : α} (h : a = 0) : (if 0 < nI a then x else y) = y := if_neg (by rw [h]; decide)
theorem i_neg {α : Type} {a : Nat} {x y : α} (ha : a < 2147483648) : (if nI a < 0 then x else y) = y := if_neg (by rw [n_neg ha]; exact id)
def up (A : Nat → Nat → Nat) (k i x : Nat) : Nat → Nat → Nat := fun c j => if c = k ∧ j = i then x else A c j
def bz (x : Nat) : Int32 := if x = 0 then -6 else nI (x - 1)
/-- where a State begins -/
def zsb (p : Nat) : Prop := p = 1 ∨ p = 9 ∨ p = 17 ∨ p = 27 ∨ p = 35 ∨ p = 43 ∨ p = 51 ∨ p = 59
def zst (a : Nat → Nat) (p : Nat) : zAC := .inr (.inr (3, [.ref (p + 1), .int (nI (a 1)), .ref (p + 4), .ref (p + 5), .ref (p + 6), .ref (p + 7), .int (nI (a 6)), .int (nI (a 7)), .int (nI (a 8)), .int (nI (a 9)), .int (nI (a 10))]))
def zmb (p : Nat) : zAC := .inr (.inr (1, [.ref (p + 2), .ref (p + 3)]))
def zrow (a : Nat → Nat) (n : Nat) : zAC := .inl ((List.range n).map (fun i => nI (a i)))
def zsl : Nat → Nat
  | 2 => 120
  | 3 => 8
  | 7 => 4
  | _ => 6
def zscell (a : Nat → Nat) (k t : Nat) : zAC := if t = 0 then zst a k else if t = 1 then zmb (k - 1) else zrow a (zsl t)
def zcellf (k : Nat) (a : Nat → Nat) : zAC :=
  if k = 0 then .inr (.inr (5, [.ref 1, .ref 9, .ref 17, .int (nI (a 3)), .ref 25, .ref 67, .ref 69]))
  else if k < 25 then zscell a k ((k - 1) % 8)
  else if k = 25 then .inr (.inr (2, [.ref 26, .int (nI (a 1))]))
  else if k = 26 then .inr (.inl ((List.range 5).map (fun i => some (a i))))
  else if k < 67 then zscell a k ((k - 27) % 8)
  else if k = 67 then .inr (.inr (4, [.ref 68, .int (nI (a 1))]))
  else if k = 68 then zrow a 50
  else if k = 69 then .inr (.inr (0, [.int (nI (a 0)), .int (nI (a 1)), .int (nI (a 2)), .int (nI (a 3)), .int (nI (a 4)), .int (nI (a 5))]))
  else if k = 70 then .inr (.inr (6, [.ref 71, .ref 72, .ref 73, .int (nI (a 3)), .ref 74, .int (nI (a 5)), .ref 75, .int (nI (a 7)), .ref 76, .int (nI (a 9))]))
  else if k = 73 then zrow a 950
  else if k = 75 then zrow a 50
  else if k = 76 then .inl ((List.range 7).map (fun i => bz (a i)))
  else zrow a 190
def zcell (A : Nat → Nat → Nat) (k : Nat) : zAC := zcellf k (A k)
theorem zcpl_get {l0 l1 : List Int32} {sp dp n i : Nat} (h0 : sp + n ≤ l0.length) (h1 : dp + n ≤ l1.length) : (zcpl l0 l1 sp dp n)[i]? = if dp ≤ i ∧ i < dp + n then l0[sp + (i - dp)]? else l1[i]? := by
  unfold zcpl
  have e1 : (List.take dp l1).length = dp := by simp; omega
  have e2 : (List.take n (List.drop sp l0)).length = n := by simp; omega
  by_cases hi : i < dp
  · rw [List.getElem?_append_left (by omega), List.getElem?_take, if_pos hi, if_neg (by omega)]
  · rw [List.getElem?_append_right (by omega), e1]
    by_cases hi2 : i < dp + n
    · rw [List.getElem?_append_left (by omega), List.getElem?_take, if_pos (by omega), List.getElem?_drop, if_pos (by omega)]
    · rw [List.getElem?_append_right (by omega), List.getElem?_drop, e2, if_neg (by omega)]
      congr 1
      omega
def wd (A : Nat → Nat → Nat) : zAW := (List.range 70).map (zcell A)
section WD
variable {A B : Nat → Nat → Nat}
theorem wd_get {k : Nat} (h : k < 70) : (wd A)[k]? = some (zcell A k) := by
  unfold wd
  rw [List.getElem?_map, List.getElem?_range h]; rfl
theorem wd_len : (wd A).length = 70 := by simp [wd]
theorem zcell_congr {k : Nat} (h : ∀ i, A k i = B k i) : zcell A k = zcell B k := by
  have e : A k = B k := funext h
  unfold zcell
  rw [e]
theorem wd_ext (h : ∀ k, k < 70 → ∀ i, A k i = B k i) : wd A = wd B := by
  unfold wd
  exact List.map_congr_left (fun k hk => zcell_congr (h k (List.mem_range.mp hk)))
theorem wd_set {k : Nat} {c : zAC} (hk : k < 70) (h1 : zcell B k = c) (h2 : ∀ j, j < 70 → j ≠ k → ∀ i, B j i = A j i) : (wd A).set k c = wd B := by
  apply List.ext_getElem?
  intro j
  rw [List.getElem?_set]
  by_cases hj : j < 70
  · by_cases e : k = j
    · subst e
      rw [if_pos rfl, if_pos (by rw [wd_len]; exact hk), wd_get hk, h1]
    · rw [if_neg e, wd_get hj, wd_get hj, zcell_congr (h2 j hj (Ne.symm e))]
  · have e1 : (wd B)[j]? = none := List.getElem?_eq_none (by rw [wd_len]; omega)
    have e2 : (wd A)[j]? = none := List.getElem?_eq_none (by rw [wd_len]; omega)
    rw [if_neg (by omega), e1, e2]
/-- the cell k is a row of n numbers -/
def zra (k n : Nat) : Prop := k < 70 ∧ ∀ A : Nat → Nat → Nat, zcell A k = zrow (A k) n
theorem zra_st {p t : Nat} (h : zsb p) (h2 : 2 ≤ t) (h7 : t ≤ 7) : zra (p + t) (zsl t) := by
  have ht : t = 2 ∨ t = 3 ∨ t = 4 ∨ t = 5 ∨ t = 6 ∨ t = 7 := by omega
  refine ⟨by unfold zsb at h; omega, fun A => ?_⟩
  rcases h with rfl | rfl | rfl | rfl | rfl | rfl | rfl | rfl <;> rcases ht with rfl | rfl | rfl | rfl | rfl | rfl <;> rfl
theorem zra68 : zra 68 50 := ⟨by omega, fun _ => rfl⟩
theorem up_row (k i x n : Nat) (hi : i < n) : ((List.range n).map (fun j => nI (A k j))).set i (nI x) = (List.range n).map (fun j => nI (up A k i x k j)) := by
  apply List.ext_getElem?
  intro j
  rw [List.getElem?_set, List.getElem?_map, List.getElem?_map, List.length_map, List.length_range]
  by_cases hj : j < n
  · rw [List.getElem?_range hj]
    by_cases e : i = j
    · subst e; simp [up, hi]
    · simp [up, e, Ne.symm e]
  · rw [List.getElem?_eq_none (by simpa using hj)]
    rw [if_neg (by omega)]
    rfl
theorem w_al {k n i : Nat} (h : zra k n) (hi : i < n) (hn : n < 2147483648) : zal (wd A) k (nI i) = some (nI (A k i)) := by
  unfold zal
  rw [wd_get h.1, h.2]
  unfold zrow
  dsimp only
  rw [if_neg (by rw [n_neg (by omega)]; exact id), n_cl (by omega), List.getElem?_map, List.getElem?_range hi]; rfl
theorem w_as {k n i : Nat} (x : Nat) (h : zra k n) (hi : i < n) (hn : n < 2147483648) : zas (wd A) k (nI i) (nI x) = some (wd (up A k i x)) := by
  unfold zas
  rw [wd_get h.1, h.2]
  unfold zrow
  dsimp only
  rw [if_neg (by rw [n_neg (by omega), n_cl (by omega), List.length_map, List.length_range]; exact fun q => q.elim id (fun q => by omega)), n_cl (by omega), up_row k i x n hi]
  refine congrArg some (wd_set h.1 (h.2 _) (fun j _ hj i => ?_))
  unfold up
  rw [if_neg (fun q => hj q.1)]
def cpA (A : Nat → Nat → Nat) (k sp j dp n : Nat) : Nat → Nat → Nat := fun c i => if c = j ∧ dp ≤ i ∧ i < dp + n then A k (sp + (i - dp)) else A c i
theorem w_cp {k j sp dp n m1 m2 : Nat} (h : zra k m1) (h' : zra j m2) (h1 : sp + n ≤ m1) (h2 : dp + n ≤ m2) (hm : m1 < 2147483648 ∧ m2 < 2147483648) : zcp (wd A) k (nI sp) j (nI dp) (nI n) = some (wd (cpA A k sp j dp n)) := by
  unfold zcp
  rw [wd_get h.1, h.2, wd_get h'.1, h'.2]
  unfold zrow
  dsimp only
  rw [if_neg (by rw [n_neg (by omega), n_neg (by omega), n_neg (by omega), n_cl (by omega), n_cl (by omega), n_cl (by omega), List.length_map, List.length_map, List.length_range, List.length_range]; exact fun q => q.elim id (fun q => q.elim id (fun q => q.elim id (fun q => by omega)))), n_cl (by omega), n_cl (by omega), n_cl (by omega)]
  refine congrArg some (wd_set h'.1 ?_ (fun c _ hc i => ?_))
  · rw [h'.2]
    unfold zrow
    congr 1
    apply List.ext_getElem?
    intro i
    rw [zcpl_get (by simp; omega) (by simp; omega), List.getElem?_map, List.getElem?_map, List.getElem?_map]
    by_cases hi : dp ≤ i ∧ i < dp + n
    · rw [if_pos hi, List.getElem?_range (by omega), List.getElem?_range (by omega)]
      simp only [Option.map_some, cpA]
      rw [if_pos ⟨trivial, hi⟩]
    · rw [if_neg hi]
      by_cases hi3 : i < m2
      · rw [List.getElem?_range hi3]
        simp only [Option.map_some, cpA]
        rw [if_neg (fun q => hi q.2)]
      · rw [List.getElem?_eq_none (by simpa using hi3)]; rfl
  · unfold cpA
    rw [if_neg (fun q => hc q.1)]
/-- an object's cell: its class, its fields -/
def zoA (A : Nat → Nat → Nat) (k c : Nat) (fs : List Value) : Prop := k < 70 ∧ zcell A k = .inr (.inr (c, fs))
theorem o_gf {k c f : Nat} {fs : List Value} {v : Value} (h : zoA A k c fs) (hv : fs[f]? = some v) : zgf (wd A) k c f = some v := by
  unfold zgf
  rw [wd_get h.1, h.2]
  dsimp only
  rw [if_pos rfl, hv]
theorem o_ob {k c : Nat} {fs : List Value} (h : zoA A k c fs) : zob (wd A) k c = true := by
  unfold zob
  rw [wd_get h.1, h.2]
  simp
theorem o_pf {k c f x : Nat} {fs fs' : List Value} (h : zoA A k c fs) (hf : f < fs.length) (h' : zoA (up A k f x) k c fs') (hs : fs.set f (.int (nI x)) = fs') : zpf (wd A) k c f (.int (nI x)) = some (wd (up A k f x)) := by
  unfold zpf
  rw [wd_get h.1, h.2]
  dsimp only
  rw [if_pos ⟨rfl, hf⟩]
  refine congrArg some (wd_set h.1 ?_ (fun j _ hj i => ?_))
  · rw [h'.2, hs]
  · unfold up
    rw [if_neg (fun q => hj q.1)]
theorem o_st {p : Nat} (h : zsb p) : zoA A p 3 [.ref (p + 1), .int (nI (A p 1)), .ref (p + 4), .ref (p + 5), .ref (p + 6), .ref (p + 7), .int (nI (A p 6)), .int (nI (A p 7)), .int (nI (A p 8)), .int (nI (A p 9)), .int (nI (A p 10))] := by
  refine ⟨by unfold zsb at h; omega, ?_⟩
  rcases h with rfl | rfl | rfl | rfl | rfl | rfl | rfl | rfl <;> rfl
theorem o_mb {p : Nat} (h : zsb p) : zoA A (p + 1) 1 [.ref (p + 2), .ref (p + 3)] := by
  refine ⟨by unfold zsb at h; omega, ?_⟩
  rcases h with rfl | rfl | rfl | rfl | rfl | rfl | rfl | rfl <;> rfl
theorem o_0 : zoA A 0 5 [.ref 1, .ref 9, .ref 17, .int (nI (A 0 3)), .ref 25, .ref 67, .ref 69] := ⟨by omega, rfl⟩
theorem o_25 : zoA A 25 2 [.ref 26, .int (nI (A 25 1))] := ⟨by omega, rfl⟩
theorem o_67 : zoA A 67 4 [.ref 68, .int (nI (A 67 1))] := ⟨by omega, rfl⟩
theorem o_69 : zoA A 69 0 [.int (nI (A 69 0)), .int (nI (A 69 1)), .int (nI (A 69 2)), .int (nI (A 69 3)), .int (nI (A 69 4)), .int (nI (A 69 5))] := ⟨by omega, rfl⟩
theorem w_ql {i : Nat} (hi : i < 5) : zql (wd A) 26 (nI i) = some (A 26 i) := by
  unfold zql
  rw [wd_get (by omega)]
  rw [show zcell A 26 = Sum.inr (Sum.inl ((List.range 5).map (fun i => some (A 26 i)))) from rfl]
  dsimp only
  rw [if_neg (by rw [n_neg (by omega)]; exact id), n_cl (by omega), List.getElem?_map, List.getElem?_range hi]; rfl
end WD
/-- a loop that counts -/
theorem zloop {scr : List Int32} {mi pc : Nat} {st : List Value} {L : Nat → zLs} {W : Nat → zAW} (N : Nat) (h : ∀ k, k < N → zd scr mi pc (L k) st (W k) = zd scr mi pc (L (k + 1)) st (W (k + 1))) : zd scr mi pc (L 0) st (W 0) = zd scr mi pc (L N) st (W N) := by
  induction N with
  | zero => rfl
  | succ N ih => rw [ih (fun k hk => h k (by omega)), h N (by omega)]
theorem zloopA {scr : List Int32} {mi pc : Nat} {st : List Value} {L : Nat → zLs} {W : Nat → Nat → Nat → Nat} {A : Nat → Nat → Nat} (N : Nat) (h0 : W 0 = A) (h : ∀ k, k < N → zd scr mi pc (L k) st (wd (W k)) = zd scr mi pc (L (k + 1)) st (wd (W (k + 1)))) : zd scr mi pc (L 0) st (wd A) = zd scr mi pc (L N) st (wd (W N)) := by
  rw [← h0]
  exact zloop (W := fun k => wd (W k)) N h
