/-! the heap behind the constructors, by what may change: the rows (A, by cell), the numbers in fields (I, by cell and field), the order of Past.states (Q) -/
theorem n_toInt {n : Nat} (h : n < 2147483648) : (nI n).toInt = (n : Int) := nI_toInt (by omega)
theorem n_add (a b : Nat) : nI a + nI b = nI (a + b) := (Int32.ofNat_add a b).symm
theorem n_sub {a b : Nat} (h : b ≤ a) : nI a - nI b = nI (a - b) := by
  have : nI a = nI (a - b) + nI b := by rw [n_add, Nat.sub_add_cancel h]
  rw [this, Int32.add_sub_cancel]
theorem n_mul (a b : Nat) : nI a * nI b = nI (a * b) := (Int32.ofNat_mul a b).symm
theorem n_lt {a b : Nat} (ha : a < 2147483648) (hb : b < 2147483648) : (nI a < nI b) = (a < b) := by
  rw [Int32.lt_iff_toInt_lt, n_toInt ha, n_toInt hb]; exact propext Int.ofNat_lt
theorem n_le {a b : Nat} (ha : a < 2147483648) (hb : b < 2147483648) : (nI a ≤ nI b) = (a ≤ b) := by
  rw [Int32.le_iff_toInt_le, n_toInt ha, n_toInt hb]; exact propext Int.ofNat_le
theorem n_inj {a b : Nat} (ha : a < 2147483648) (hb : b < 2147483648) : (nI a = nI b) = (a = b) := by
  apply propext
  constructor
  · intro h
    have h1 := congrArg Int32.toInt h
    rw [n_toInt ha, n_toInt hb] at h1
    omega
  · intro h; rw [h]
theorem n_neg {a : Nat} (ha : a < 2147483648) : (nI a < 0) = False := by
  rw [show (0 : Int32) = nI 0 from rfl, n_lt ha (by omega)]; simp
theorem n_pos {a : Nat} (ha : a < 2147483648) : (0 < nI a) = (0 < a) := by
  rw [show (0 : Int32) = nI 0 from rfl, n_lt (by omega) ha]
theorem n_le0 {a : Nat} (ha : a < 2147483648) : (nI a ≤ 0) = (a = 0) := by
  rw [show (0 : Int32) = nI 0 from rfl, n_le ha (by omega)]; simp
theorem n_eq0 {a : Nat} (ha : a < 2147483648) : (nI a = 0) = (a = 0) := by
  rw [show (0 : Int32) = nI 0 from rfl, n_inj ha (by omega)]
theorem n_cl {a : Nat} (ha : a < 2147483648) : (nI a).toNatClampNeg = a := by
  show (nI a).toInt.toNat = a
  rw [n_toInt ha]; rfl
theorem n_div {a b : Nat} (ha : a < 2147483648) (hb : b < 2147483648) : nI a / nI b = nI (a / b) := by
  have h1 : a / b ≤ a := Nat.div_le_self a b
  apply Int32.toInt_inj.mp
  rw [n_toInt (by omega)]
  have h2 := Int32.toInt_div (nI a) (nI b)
  rw [n_toInt ha, n_toInt hb] at h2
  rw [h2]
  have h3 : ((a : Int).tdiv (b : Int)) = ((a / b : Nat) : Int) := by
    rw [Int.tdiv_eq_ediv_of_nonneg (by omega)]; exact (Int.natCast_ediv a b).symm
  rw [h3]
  exact Int.bmod_eq_of_le (by omega) (by omega)
theorem n_rem {a b : Nat} (ha : a < 2147483648) (hb : b < 2147483648) : zrem (nI a) (nI b) = nI (a % b) := by
  unfold zrem
  rw [n_div ha hb, n_mul, n_sub (Nat.div_mul_le_self a b)]
  congr 1
  have := Nat.div_add_mod a b
  rw [Nat.mul_comm] at this
  omega
/-- a number of the script is a small one, or below 0, or far off -/
theorem n_of {x : Int32} (h : ¬ x < 0) : ∃ n : Nat, n < 2147483648 ∧ x = nI n := by
  have h0 : 0 ≤ x.toInt := by
    rw [Int32.lt_iff_toInt_lt, Int32.toInt_zero] at h
    omega
  have h1 : x.toInt < 2147483648 := Int32.toInt_lt x
  refine ⟨x.toInt.toNat, by omega, ?_⟩
  apply Int32.toInt_inj.mp
  rw [n_toInt (by omega)]
  omega
def upA (A : Nat → List Nat) (k : Nat) (l : List Nat) : Nat → List Nat := fun j => if j = k then l else A j
def upI (I : Nat → Nat → Int32) (p f : Nat) (x : Int32) : Nat → Nat → Int32 := fun j g => if j = p ∧ g = f then x else I j g
/-- where a State begins -/
def zsb (p : Nat) : Prop := p = 1 ∨ p = 9 ∨ p = 17 ∨ p = 27 ∨ p = 35 ∨ p = 43 ∨ p = 51 ∨ p = 59
def zst (I : Nat → Nat → Int32) (p : Nat) : zAC := .inr (.inr (3, [.ref (p + 1), .int (I p 1), .ref (p + 4), .ref (p + 5), .ref (p + 6), .ref (p + 7), .int (I p 6), .int (I p 7), .int (I p 8), .int (I p 9), .int (I p 10)]))
def zmb (p : Nat) : zAC := .inr (.inr (1, [.ref (p + 2), .ref (p + 3)]))
def zcell (A : Nat → List Nat) (I : Nat → Nat → Int32) (Q : List (Option Nat)) : Nat → zAC
  | 0 => .inr (.inr (5, [.ref 1, .ref 9, .ref 17, .int (I 0 3), .ref 25, .ref 67, .ref 69]))
  | 1 => zst I 1
  | 2 => zmb 1
  | 9 => zst I 9
  | 10 => zmb 9
  | 17 => zst I 17
  | 18 => zmb 17
  | 25 => .inr (.inr (2, [.ref 26, .int (I 25 1)]))
  | 26 => .inr (.inl Q)
  | 27 => zst I 27
  | 28 => zmb 27
  | 35 => zst I 35
  | 36 => zmb 35
  | 43 => zst I 43
  | 44 => zmb 43
  | 51 => zst I 51
  | 52 => zmb 51
  | 59 => zst I 59
  | 60 => zmb 59
  | 67 => .inr (.inr (4, [.ref 68, .int (I 67 1)]))
  | 69 => .inr (.inr (0, [.int (I 69 0), .int (I 69 1), .int (I 69 2), .int (I 69 3), .int (I 69 4), .int (I 69 5)]))
  | 70 => .inr (.inr (6, [.ref 71, .ref 72, .ref 73, .int (I 70 3), .ref 74, .int (I 70 5), .ref 75, .int (I 70 7), .ref 76, .int (I 70 9)]))
  | 76 => .inl [I 76 0, I 76 1, I 76 2, I 76 3, I 76 4, I 76 5, I 76 6]
  | k => .inl ((A k).map nI)
def wd (A : Nat → List Nat) (I : Nat → Nat → Int32) (Q : List (Option Nat)) : zAW := (List.range 77).map (zcell A I Q)
section WD
variable {A : Nat → List Nat} {I : Nat → Nat → Int32} {Q : List (Option Nat)}
theorem wd_get {k : Nat} (h : k < 77) : (wd A I Q)[k]? = some (zcell A I Q k) := by
  unfold wd
  rw [List.getElem?_map, List.getElem?_range h]; rfl
theorem wd_len : (wd A I Q).length = 77 := by simp [wd]
theorem wd_set {A' : Nat → List Nat} {I' : Nat → Nat → Int32} {Q' : List (Option Nat)} {k : Nat} {c : zAC} (hk : k < 77) (h1 : zcell A' I' Q' k = c) (h2 : ∀ j, j < 77 → j ≠ k → zcell A' I' Q' j = zcell A I Q j) : (wd A I Q).set k c = wd A' I' Q' := by
  apply List.ext_getElem?
  intro j
  rw [List.getElem?_set]
  by_cases hj : j < 77
  · rw [wd_get hj]
    by_cases e : k = j
    · subst e
      rw [if_pos rfl, if_pos (by rw [wd_len]; exact hk), h1]
    · rw [if_neg e, wd_get hj, h2 j hj (Ne.symm e)]
  · have e1 : (wd A' I' Q')[j]? = none := List.getElem?_eq_none (by rw [wd_len]; omega)
    have e2 : (wd A I Q)[j]? = none := List.getElem?_eq_none (by rw [wd_len]; omega)
    rw [if_neg (by omega), e1, e2]
/-- the cells that are rows -/
def zra (k : Nat) : Prop := k < 76 ∧ k ≠ 0 ∧ k ≠ 25 ∧ k ≠ 26 ∧ k ≠ 67 ∧ k ≠ 69 ∧ k ≠ 70 ∧ k ≠ 1 ∧ k ≠ 2 ∧ k ≠ 9 ∧ k ≠ 10 ∧ k ≠ 17 ∧ k ≠ 18 ∧ k ≠ 27 ∧ k ≠ 28 ∧ k ≠ 35 ∧ k ≠ 36 ∧ k ≠ 43 ∧ k ≠ 44 ∧ k ≠ 51 ∧ k ≠ 52 ∧ k ≠ 59 ∧ k ≠ 60
theorem zcell_row {k : Nat} (h : zra k) : zcell A I Q k = .inl ((A k).map nI) := by
  unfold zra at h
  unfold zcell
  split <;> first | (exfalso; omega) | rfl
theorem zcell_upA {k j : Nat} {l : List Nat} (h : j ≠ k) : zcell (upA A k l) I Q j = zcell A I Q j := by
  have e : upA A k l j = A j := if_neg h
  unfold zcell
  split <;> first | rfl | rw [e]
theorem wd_row {k : Nat} (h : zra k) : (wd A I Q)[k]? = some (.inl ((A k).map nI)) := by
  rw [wd_get (by unfold zra at h; omega), zcell_row h]
theorem wd_upA {k : Nat} (h : zra k) (l : List Nat) : (wd A I Q).set k (.inl (l.map nI)) = wd (upA A k l) I Q := by
  refine wd_set (by unfold zra at h; omega) ?_ (fun j _ hj => zcell_upA hj)
  rw [zcell_row h]
  simp [upA]
theorem w_al {k i x : Nat} (h : zra k) (hx : (A k)[i]? = some x) (hi : i < 2147483648) : zal (wd A I Q) k (nI i) = some (nI x) := by
  unfold zal
  rw [wd_row h]
  dsimp only
  rw [if_neg (by rw [n_neg hi]; exact id), n_cl hi, List.getElem?_map, hx]; rfl
theorem w_as {k i : Nat} (x : Nat) (h : zra k) (hx : i < (A k).length) (hi : i < 2147483648) : zas (wd A I Q) k (nI i) (nI x) = some (wd (upA A k ((A k).set i x)) I Q) := by
  unfold zas
  rw [wd_row h]
  dsimp only
  rw [if_neg (by rw [n_neg hi, n_cl hi, List.length_map]; omega), n_cl hi, ← List.map_set, wd_upA h]
theorem w_cp {k j sp dp n : Nat} (h : zra k) (h' : zra j) (h1 : sp + n ≤ (A k).length) (h2 : dp + n ≤ (A j).length) (hi : sp < 2147483648 ∧ dp < 2147483648 ∧ n < 2147483648) : zcp (wd A I Q) k (nI sp) j (nI dp) (nI n) = some (wd (upA A j ((A j).take dp ++ (((A k).drop sp).take n ++ (A j).drop (dp + n)))) I Q) := by
  unfold zcp
  rw [wd_row h, wd_row h']
  dsimp only
  rw [if_neg (by rw [n_neg hi.1, n_neg hi.2.1, n_neg hi.2.2, n_cl hi.1, n_cl hi.2.1, n_cl hi.2.2, List.length_map, List.length_map]; omega), n_cl hi.1, n_cl hi.2.1, n_cl hi.2.2, ← wd_upA h']
  simp only [zcpl, List.map_append, List.map_take, List.map_drop]
end WD
/-- a loop that counts -/
theorem zloop {scr : List Int32} {mi pc : Nat} {st : List Value} {L : Nat → zLs} {W : Nat → zAW} (N : Nat) (h : ∀ k, k < N → zd scr mi pc (L k) st (W k) = zd scr mi pc (L (k + 1)) st (W (k + 1))) : zd scr mi pc (L 0) st (W 0) = zd scr mi pc (L N) st (W N) := by
  induction N with
  | zero => rfl
  | succ N ih => rw [ih (fun k hk => h k (by omega)), h N (by omega)]
