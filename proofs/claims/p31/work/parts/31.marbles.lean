/-! MarbleHeirs$Marbles: what its methods answer and change -/
def zsum (f : Nat → Nat) (a : Nat) : Nat → Nat
  | 0 => 0
  | n + 1 => zsum f a n + f (a + n)
section MB
variable {A : Nat → Nat → Nat} {p h : Nat} {scr : List Int32}
theorem zw2 (hp : zsb p) : zra (p + 2) 120 := zra_st (t := 2) hp (by omega) (by omega)
theorem zw3 (hp : zsb p) : zra (p + 3) 8 := zra_st (t := 3) hp (by omega) (by omega)
theorem zw4 (hp : zsb p) : zra (p + 4) 6 := zra_st (t := 4) hp (by omega) (by omega)
theorem zw5 (hp : zsb p) : zra (p + 5) 6 := zra_st (t := 5) hp (by omega) (by omega)
theorem zw6 (hp : zsb p) : zra (p + 6) 6 := zra_st (t := 6) hp (by omega) (by omega)
theorem zw7 (hp : zsb p) : zra (p + 7) 4 := zra_st (t := 7) hp (by omega) (by omega)
/-- the rows' borders are in order -/
def zmo (A : Nat → Nat → Nat) (p : Nat) : Prop := (∀ h, h < 7 → A (p + 3) h ≤ A (p + 3) (h + 1)) ∧ A (p + 3) 7 ≤ 120
theorem zmo_le (hm : zmo A p) {a b : Nat} (hab : a ≤ b) (hb : b ≤ 7) : A (p + 3) a ≤ A (p + 3) b := by
  induction b with
  | zero => have : a = 0 := by omega
            subst this; exact Nat.le_refl _
  | succ b ih =>
    by_cases e : a = b + 1
    · subst e; exact Nat.le_refl _
    · exact Nat.le_trans (ih (by omega) (by omega)) (hm.1 b (by omega))
theorem zmo_120 (hm : zmo A p) {b : Nat} (hb : b ≤ 7) : A (p + 3) b ≤ 120 := Nat.le_trans (zmo_le hm hb (Nat.le_refl 7)) hm.2
/-- how many marbles a holder has -/
def zcnt (A : Nat → Nat → Nat) (p h : Nat) : Nat := A (p + 3) (h + 1) - A (p + 3) h
theorem m_count (hp : zsb p) (hm : zmo A p) (hh : h < 7) : zC scr 8 [.ref (p + 1), .int (nI h)] (wd A) = some (some (.int (nI (zcnt A p h))), wd A) := by
  rw [zC_of zh8]
  refine (b8_0 (o_gf (o_mb hp) rfl) (by rw [n_add]; exact w_al (zw3 hp) (by omega) (by omega)) (o_gf (o_mb hp) rfl) (w_al (zw3 hp) (by omega) (by omega))).trans ?_
  rw [n_sub (hm.1 h hh)]
  rfl
theorem m_has (hp : zsb p) (hm : zmo A p) (hh : h < 7) (x : Int32) : zC scr 9 [.ref (p + 1), .int (nI h), .int x] (wd A) = some (some (.int (if ¬ x < 0 ∧ x < nI (zcnt A p h) then nI 1 else nI 0)), wd A) := by
  rw [zC_of zh9]
  refine b9_0.trans ?_
  by_cases h0 : x < 0
  · rw [if_pos h0, if_neg (fun q => q.1 h0)]
    exact b9_17
  · rw [if_neg h0]
    refine (b9_4 (o_ob (o_mb hp)) (m_count hp hm hh)).trans ?_
    by_cases h1 : x < nI (zcnt A p h)
    · rw [if_pos h1, if_pos ⟨h0, h1⟩]
      exact b9_13
    · rw [if_neg h1, if_neg (fun q => h1 q.2)]
      exact b9_17
theorem m_colour {i : Nat} (hp : zsb p) (hh : h < 7) (hi : A (p + 3) h + i < 120) (hr : A (p + 2) (A (p + 3) h + i) < 2147483648) : zC scr 10 [.ref (p + 1), .int (nI h), .int (nI i)] (wd A) = some (some (.int (nI (A (p + 2) (A (p + 3) h + i) / 10))), wd A) := by
  rw [zC_of zh10]
  refine (b10_0 (o_gf (o_mb hp) rfl) (o_gf (o_mb hp) rfl) (w_al (zw3 hp) (by omega) (by omega)) (by rw [n_add]; exact w_al (zw2 hp) hi (by omega))).trans ?_
  rw [n_div hr (by omega)]
theorem m_value {i : Nat} (hp : zsb p) (hh : h < 7) (hi : A (p + 3) h + i < 120) (hr : A (p + 2) (A (p + 3) h + i) < 2147483648) : zC scr 11 [.ref (p + 1), .int (nI h), .int (nI i)] (wd A) = some (some (.int (nI (A (p + 2) (A (p + 3) h + i) % 10))), wd A) := by
  rw [zC_of zh11]
  refine (b11_0 (o_gf (o_mb hp) rfl) (o_gf (o_mb hp) rfl) (w_al (zw3 hp) (by omega) (by omega)) (by rw [n_add]; exact w_al (zw2 hp) hi (by omega))).trans ?_
  rw [n_rem hr (by omega)]
theorem m_describe {i : Nat} (hp : zsb p) (hh : h < 7) (hi : A (p + 3) h + i < 120) (hr : A (p + 2) (A (p + 3) h + i) < 2147483648) (x : Int32) : zC scr 12 [.ref (p + 1), .int (nI h), .int (nI i), .int x] (wd A) = some (some (.int (if x = nI 0 then nI (A (p + 2) (A (p + 3) h + i) / 10) else if x = nI 1 then nI (A (p + 2) (A (p + 3) h + i) % 10) else -2)), wd A) := by
  rw [zC_of zh12]
  by_cases h0 : x = nI 0
  · rw [if_pos h0]
    exact (b12_0_c0 h0).trans (b12_28 (o_ob (o_mb hp)) (m_colour hp hh hi hr))
  · rw [if_neg h0]
    by_cases h1 : x = nI 1
    · rw [if_pos h1]
      exact (b12_0_c1 h1).trans (b12_35 (o_ob (o_mb hp)) (m_value hp hh hi hr))
    · rw [if_neg h1]
      exact (b12_0_d h0 h1).trans b12_42
/-- all marbles' numbers are small -/
def zsm (A : Nat → Nat → Nat) (p : Nat) : Prop := ∀ i, i < 120 → A (p + 2) i < 1000
theorem m_sum (hp : zsb p) (hm : zmo A p) (hs : zsm A p) (hh : h < 7) : zC scr 13 [.ref (p + 1), .int (nI h)] (wd A) = some (some (.int (nI (zsum (fun i => A (p + 2) i % 10) (A (p + 3) h) (zcnt A p h)))), wd A) := by
  have h1 := hm.1 h hh
  have h2 := zmo_120 hm (b := h + 1) (by omega)
  rw [zC_of zh13]
  refine (b13_0 (o_gf (o_mb hp) rfl) (w_al (zw3 hp) (by omega) (by omega))).trans ?_
  have h9 := fun (x2 x3 : Int32) => b13_9 (scr := scr) (w := wd A) (a0 := p + 1) (x1 := nI h) (x2 := x2) (x3 := x3) (o_gf (o_mb hp) rfl) (by rw [n_add]; exact w_al (zw3 hp) (by omega) (by omega))
  refine (zloop (scr := scr) (mi := 13) (pc := 9) (st := []) (L := fun k => [some (.ref (p + 1)), some (.int (nI h)), some (.int (nI (zsum (fun i => A (p + 2) i % 10) (A (p + 3) h) k))), some (.int (nI (A (p + 3) h + k)))]) (W := fun _ => wd A) (zcnt A p h) (fun k hk => ?_)).trans ?_
  · unfold zcnt at hk
    have h3 := hs (A (p + 3) h + k) (by omega)
    rw [h9, i_lt (by omega) (by omega)]
    refine (b13_21 (o_gf (o_mb hp) rfl) (w_al (zw2 hp) (by omega) (by omega))).trans ?_
    rw [n_rem (by omega) (by omega), n_add, n_add]
    rfl
  · rw [h9, i_nlt (by unfold zcnt; omega) (by unfold zcnt; omega)]
    exact b13_39
theorem m_countOf {c : Nat} (hp : zsb p) (hm : zmo A p) (hs : zsm A p) (hh : h < 7) (hc : c < 2147483648) : zC scr 14 [.ref (p + 1), .int (nI h), .int (nI c)] (wd A) = some (some (.int (nI (zsum (fun i => if A (p + 2) i / 10 = c then 1 else 0) (A (p + 3) h) (zcnt A p h)))), wd A) := by
  have h1 := hm.1 h hh
  have h2 := zmo_120 hm (b := h + 1) (by omega)
  rw [zC_of zh14]
  refine (b14_0 (o_gf (o_mb hp) rfl) (w_al (zw3 hp) (by omega) (by omega))).trans ?_
  have h9 := fun (x3 x4 : Int32) => b14_10 (scr := scr) (w := wd A) (a0 := p + 1) (x1 := nI h) (x2 := nI c) (x3 := x3) (x4 := x4) (o_gf (o_mb hp) rfl) (by rw [n_add]; exact w_al (zw3 hp) (by omega) (by omega))
  refine (zloop (scr := scr) (mi := 14) (pc := 10) (st := []) (L := fun k => [some (.ref (p + 1)), some (.int (nI h)), some (.int (nI c)), some (.int (nI (zsum (fun i => if A (p + 2) i / 10 = c then 1 else 0) (A (p + 3) h) k))), some (.int (nI (A (p + 3) h + k)))]) (W := fun _ => wd A) (zcnt A p h) (fun k hk => ?_)).trans ?_
  · unfold zcnt at hk
    have h3 := hs (A (p + 3) h + k) (by omega)
    rw [h9, i_lt (by omega) (by omega)]
    refine (b14_23 (o_gf (o_mb hp) rfl) (w_al (zw2 hp) (by omega) (by omega))).trans ?_
    have h4 : A (p + 2) (A (p + 3) h + k) / 10 < 2147483648 := Nat.lt_of_le_of_lt (Nat.div_le_self _ _) (by omega)
    rw [n_div (by omega) (by omega), zsum]
    by_cases h5 : A (p + 2) (A (p + 3) h + k) / 10 = c
    · rw [i_eq h5, if_pos h5]
      refine b14_37.trans ?_
      rw [n_add, n_add]
      rfl
    · rw [i_ne h5 h4 hc, if_neg h5]
      refine b14_40.trans ?_
      rw [n_add]
      rfl
  · rw [h9, i_nlt (by unfold zcnt; omega) (by unfold zcnt; omega)]
    exact b14_46
theorem m_hasRoom (hp : zsb p) (hm : zmo A p) : zC scr 15 [.ref (p + 1)] (wd A) = some (some (.int (if zcnt A p 6 < 40 ∧ A (p + 3) 7 < 120 then nI 1 else nI 0)), wd A) := by
  have h1 := zmo_120 hm (b := 7) (by omega)
  have h2 : zcnt A p 6 ≤ 120 := by
    show A (p + 3) 7 - A (p + 3) 6 ≤ 120
    omega
  rw [zC_of zh15]
  refine (b15_0 (o_ob (o_mb hp)) (m_count hp hm (by omega))).trans ?_
  by_cases h3 : zcnt A p 6 < 40
  · rw [i_lt h3 (by omega)]
    refine (b15_11 (o_gf (o_mb hp) rfl) (w_al (zw3 hp) (by omega) (by omega))).trans ?_
    by_cases h4 : A (p + 3) 7 < 120
    · rw [i_lt h4 (by omega), if_pos ⟨h3, h4⟩]; exact b15_23
    · rw [i_nlt h4 (by omega), if_neg (fun q => h4 q.2)]; exact b15_27
  · rw [i_nlt h3 (by omega), if_neg (fun q => h3 q.1)]; exact b15_27
/-- a marble is put to the end of the hopper -/
def zadd1 (A : Nat → Nat → Nat) (p x : Nat) : Nat → Nat → Nat := up (up A (p + 2) (A (p + 3) 7) x) (p + 3) 7 (A (p + 3) 7 + 1)
theorem m_add {c v : Nat} (hp : zsb p) (hm : zmo A p) : zC scr 16 [.ref (p + 1), .int (nI c), .int (nI v)] (wd A) = if zcnt A p 6 < 40 ∧ A (p + 3) 7 < 120 then some (some (.int (nI 1)), wd (zadd1 A p (c * 10 + v))) else some (some (.int (nI 0)), wd A) := by
  rw [zC_of zh16]
  refine (b16_0 (o_ob (o_mb hp)) (m_hasRoom hp hm)).trans ?_
  by_cases h0 : zcnt A p 6 < 40 ∧ A (p + 3) 7 < 120
  · rw [if_pos h0, if_pos h0, if_neg (by decide)]
    have e : up A (p + 2) (A (p + 3) 7) (c * 10 + v) (p + 3) 7 = A (p + 3) 7 := if_neg (by omega)
    refine (b16_9 (o_gf (o_mb hp) rfl) (o_gf (o_mb hp) rfl) (w_al (zw3 hp) (by omega) (by omega)) (by rw [n_mul, n_add]; exact w_as (c * 10 + v) (zw2 hp) h0.2 (by omega)) (o_gf (o_mb hp) rfl) (w_al (zw3 hp) (by omega) (by omega)) (by rw [n_add, e]; exact w_as _ (zw3 hp) (by omega) (by omega))).trans ?_
    rfl
  · rw [if_neg h0, if_neg h0, if_pos (by decide)]
    exact b16_7
end MB
