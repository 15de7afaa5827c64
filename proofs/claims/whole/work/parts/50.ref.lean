/-! MarbleHeirsModel: what its methods read -/
/-- the reference's row, as far as it is in use -/
def bOk (b : Nat → Nat) : Prop := b 0 ≤ 6 ∧ b 1 < 3 ∧ b 2 < 9 ∧ b 6 ≤ 40 ∧ b 6 + b 7 ≤ 120 ∧ (∀ m, m < 4 → b (8 + m) < 10) ∧ (∀ h, h < b 0 → b (12 + 2 * h) < 4 ∧ b (13 + 2 * h) < 6 ∧ b (24 + h) < b 0) ∧ (∀ k, k < b 6 → b (30 + k) < 60) ∧ ∀ g, g < b 7 → b (70 + g) / 100 < b 0 ∧ b (70 + g) % 100 < 60
def own (b : Nat → Nat) (g : Nat) : Nat := b (70 + g) / 100
def cod (b : Nat → Nat) (g : Nat) : Nat := b (70 + g) % 100
def rk (b : Nat → Nat) (h n : Nat) : Nat := zsum (fun g => if own b g = h then 1 else 0) 0 n
def rsm (b : Nat → Nat) (f : Nat → Nat) (h n : Nat) : Nat := zsum (fun g => if own b g = h then f (cod b g) else 0) 0 n
section RF
variable {A B : Nat → Nat → Nat} {h k g n : Nat} {scr : List Int32}
theorem gR0 : zgf (wd A) 70 6 0 = some (.ref 71) := o_gf o_70 rfl
theorem gR1 : zgf (wd A) 70 6 1 = some (.ref 72) := o_gf o_70 rfl
theorem gR2 : zgf (wd A) 70 6 2 = some (.ref 73) := o_gf o_70 rfl
theorem gR3 : zgf (wd A) 70 6 3 = some (.int (nI (A 70 3))) := o_gf o_70 rfl
theorem gR4 : zgf (wd A) 70 6 4 = some (.ref 74) := o_gf o_70 rfl
theorem gR5 : zgf (wd A) 70 6 5 = some (.int (nI (A 70 5))) := o_gf o_70 rfl
theorem gR6 : zgf (wd A) 70 6 6 = some (.ref 75) := o_gf o_70 rfl
theorem gR7 : zgf (wd A) 70 6 7 = some (.int (nI (A 70 7))) := o_gf o_70 rfl
theorem gR8 : zgf (wd A) 70 6 8 = some (.ref 76) := o_gf o_70 rfl
theorem gR9 : zgf (wd A) 70 6 9 = some (.int (nI (A 70 9))) := o_gf o_70 rfl
theorem pR (f x : Nat) (hf : f = 3 ∨ f = 5 ∨ f = 7 ∨ f = 9) : zpf (wd A) 70 6 f (.int (nI x)) = some (wd (up A 70 f x)) := by
  refine o_pf o_70 ?_ o_70 ?_
  · rcases hf with rfl | rfl | rfl | rfl <;> (show _ < 10; omega)
  · rcases hf with rfl | rfl | rfl | rfl <;> simp [up]
theorem oR : zob (wd A) 70 6 = true := o_ob o_70
theorem aR {i : Nat} (hi : i < 190) : zal (wd A) 71 (nI i) = some (nI (A 71 i)) := w_al zra71 hi (by omega)
theorem sR {i : Nat} (x : Nat) (hi : i < 190) : zas (wd A) 71 (nI i) (nI x) = some (wd (up A 71 i x)) := w_as x zra71 hi (by omega)
/-- between two bounds -/
theorem r_in (x y z : Int32) : zC scr 87 [.int x, .int y, .int z] (wd A) = some (some (.int (if ¬ x < y ∧ x ≤ z then nI 1 else nI 0)), wd A) := by
  rw [zC_of zh87]
  refine b87_0.trans ?_
  by_cases h0 : x < y
  · rw [if_pos h0, if_neg (fun q => q.1 h0)]; exact b87_14
  · rw [if_neg h0]
    refine b87_5.trans ?_
    by_cases h1 : x ≤ z
    · rw [if_pos h1, if_pos ⟨h0, h1⟩]; exact b87_10
    · rw [if_neg h1, if_neg (fun q => h1 q.2)]; exact b87_14
theorem rok2 (c : Prop) [Decidable c] : zrok (some .boolean) (if c then nI 1 else nI 0) = true := by
  by_cases h : c
  · rw [if_pos h]; decide
  · rw [if_neg h]; decide
theorem r_lt1 {x : Int32} (hn : n < 10000) : (¬ x < 0 ∧ x ≤ nI n - nI 1) ↔ (¬ x < 0 ∧ x < nI n) := by
  constructor
  · rintro ⟨h0, h1⟩
    refine ⟨h0, ?_⟩
    obtain ⟨k, hk, rfl⟩ := n_of h0
    rw [n_lt hk (by omega)]
    rw [Int32.le_iff_toInt_le, n_subI hn (by omega), n_toInt hk] at h1
    omega
  · rintro ⟨h0, h1⟩
    refine ⟨h0, ?_⟩
    obtain ⟨k, hk, rfl⟩ := n_of h0
    rw [n_lt hk (by omega)] at h1
    rw [Int32.le_iff_toInt_le, n_subI hn (by omega), n_toInt hk]
    omega
theorem ite_iff {α : Type} {p q : Prop} [Decidable p] [Decidable q] (h : p ↔ q) (x y : α) : (if p then x else y) = (if q then x else y) := by
  by_cases hp : p
  · rw [if_pos hp, if_pos (h.mp hp)]
  · rw [if_neg hp, if_neg (fun hq => hp (h.mpr hq))]
theorem r_isHeir (hn : A 71 0 < 10000) (x : Int32) : zC scr 88 [.ref 70, .int x] (wd A) = some (some (.int (if ¬ x < 0 ∧ x < nI (A 71 0) then nI 1 else nI 0)), wd A) := by
  rw [zC_of zh88]
  refine (b88_0 gR0 (aR (by omega)) (r_in x (nI 0) _) (rok2 _)).trans ?_
  exact congrArg (fun y => some (some (Value.int y), wd A)) (ite_iff (r_lt1 hn) _ _)
theorem r_isMother (x : Int32) : zC scr 89 [.int x] (wd A) = some (some (.int (if ¬ x < 0 ∧ x < nI 4 then nI 1 else nI 0)), wd A) := by
  rw [zC_of zh89]
  refine (b89_0 (r_in x (nI 0) _) (rok2 _)).trans ?_
  exact congrArg (fun y => some (some (Value.int y), wd A)) (ite_iff (r_lt1 (n := 4) (by omega)) _ _)
theorem r_isColour (x : Int32) : zC scr 90 [.int x] (wd A) = some (some (.int (if ¬ x < 0 ∧ x < nI 6 then nI 1 else nI 0)), wd A) := by
  rw [zC_of zh90]
  refine (b90_0 (r_in x (nI 0) _) (rok2 _)).trans ?_
  exact congrArg (fun y => some (some (Value.int y), wd A)) (ite_iff (r_lt1 (n := 6) (by omega)) _ _)
theorem r_of {w : Nat} (hh : h < 6) (hw : w < 2) : zC scr 91 [.ref 70, .int (nI h), .int (nI w)] (wd A) = some (some (.int (nI (A 71 (12 + 2 * h + w)))), wd A) := by
  rw [zC_of zh91]
  exact b91_0 gR0 (by rw [n_mul, n_add, n_add]; exact aR (by omega))
theorem r_owner (hg : g < 120) (hb : A 71 (70 + g) < 100000) : zC scr 95 [.ref 70, .int (nI g)] (wd A) = some (some (.int (nI (own (A 71) g))), wd A) := by
  rw [zC_of zh95]
  refine (b95_0 gR0 (by rw [n_add]; exact aR (by omega))).trans ?_
  rw [n_div (by omega) (by omega)]; rfl
theorem r_colour (hg : g < 120) (hb : A 71 (70 + g) < 100000) : zC scr 96 [.ref 70, .int (nI g)] (wd A) = some (some (.int (nI (cod (A 71) g / 10))), wd A) := by
  rw [zC_of zh96]
  refine (b96_0 gR0 (by rw [n_add]; exact aR (by omega))).trans ?_
  rw [n_rem (by omega) (by omega), n_div (by omega) (by omega)]; rfl
theorem r_value (hg : g < 120) (hb : A 71 (70 + g) < 100000) : zC scr 97 [.ref 70, .int (nI g)] (wd A) = some (some (.int (nI (cod (A 71) g % 10))), wd A) := by
  rw [zC_of zh97]
  refine (b97_0 gR0 (by rw [n_add]; exact aR (by omega))).trans ?_
  rw [n_rem (by omega) (by omega), show A 71 (70 + g) % 10 = cod (A 71) g % 10 by unfold cod; omega]
theorem bO_g {b : Nat → Nat} (ho : bOk b) (hg : g < b 7) : own b g < b 0 ∧ cod b g < 60 ∧ b (70 + g) < 1000 ∧ b (70 + g) = 100 * own b g + cod b g := by
  obtain ⟨h0, -, -, -, -, -, -, -, h9⟩ := ho
  have := h9 g hg
  unfold own cod
  omega
theorem bO_7 {b : Nat → Nat} (ho : bOk b) : b 7 ≤ 120 := by
  obtain ⟨-, -, -, -, h, -⟩ := ho
  omega
theorem rk_le {b : Nat → Nat} : ∀ n, rk b h n ≤ n
  | 0 => Nat.le_refl _
  | n + 1 => by
    show rk b h n + (if own b (0 + n) = h then 1 else 0) ≤ n + 1
    have := rk_le (b := b) n
    split <;> omega
theorem rk_succ {b : Nat → Nat} (n : Nat) : rk b h (n + 1) = rk b h n + if own b n = h then 1 else 0 := by
  show rk b h n + (if own b (0 + n) = h then 1 else 0) = _
  rw [Nat.zero_add]
theorem rsm_succ {b : Nat → Nat} (f : Nat → Nat) (n : Nat) : rsm b f h (n + 1) = rsm b f h n + if own b n = h then f (cod b n) else 0 := by
  show rsm b f h n + (if own b (0 + n) = h then f (cod b (0 + n)) else 0) = _
  rw [Nat.zero_add]
theorem r_inBag (ho : bOk (A 71)) (hh : h < 1000) : zC scr 98 [.ref 70, .int (nI h)] (wd A) = some (some (.int (nI (rk (A 71) h (A 71 7)))), wd A) := by
  have h7 := bO_7 ho
  rw [zC_of zh98]
  refine b98_0.trans ?_
  refine (zloop (W := fun _ => wd A) (scr := scr) (mi := 98) (pc := 4) (st := []) (L := fun j => [some (.ref 70), some (.int (nI h)), some (.int (nI (rk (A 71) h j))), some (.int (nI j))]) (A 71 7) (fun j hj => ?_)).trans ?_
  · have hg := bO_g ho hj
    refine (b98_4 gR0 (aR (by omega))).trans ((i_lt hj (by omega)).trans ((b98_15 oR (r_owner (by omega) (by omega))).trans ?_))
    show _ = zd scr 98 4 [_, _, some (.int (nI (rk (A 71) h (j + 1)))), _] [] _
    rw [rk_succ]
    by_cases e : own (A 71) j = h
    · rw [i_eq e, if_pos e]
      refine b98_25.trans ?_
      rw [n_add, n_add]
    · rw [i_ne e (by omega) (by omega), if_neg e]
      refine b98_29.trans ?_
      rw [n_add, n_add]
  · exact (b98_4 gR0 (aR (by omega))).trans ((i_nlt (by omega) (by omega)).trans b98_38)
theorem r_worth (ho : bOk (A 71)) (hh : h < 1000) : zC scr 99 [.ref 70, .int (nI h)] (wd A) = some (some (.int (nI (rsm (A 71) (fun c => c % 10) h (A 71 7)))), wd A) := by
  have h7 := bO_7 ho
  rw [zC_of zh99]
  refine b99_0.trans ?_
  refine (zloop (W := fun _ => wd A) (scr := scr) (mi := 99) (pc := 4) (st := []) (L := fun j => [some (.ref 70), some (.int (nI h)), some (.int (nI (rsm (A 71) (fun c => c % 10) h j))), some (.int (nI j))]) (A 71 7) (fun j hj => ?_)).trans ?_
  · have hg := bO_g ho hj
    refine (b99_4 gR0 (aR (by omega))).trans ((i_lt hj (by omega)).trans ((b99_15 oR (r_owner (by omega) (by omega))).trans ?_))
    show _ = zd scr 99 4 [_, _, some (.int (nI (rsm (A 71) (fun c => c % 10) h (j + 1)))), _] [] _
    rw [rsm_succ]
    by_cases e : own (A 71) j = h
    · rw [i_eq e, if_pos e]
      refine (b99_25 oR (r_value (by omega) (by omega))).trans ?_
      rw [n_add, n_add]
    · rw [i_ne e (by omega) (by omega), if_neg e]
      refine b99_33.trans ?_
      rw [n_add, n_add]
  · exact (b99_4 gR0 (aR (by omega))).trans ((i_nlt (by omega) (by omega)).trans b99_42)
theorem r_ofColour {c : Nat} (ho : bOk (A 71)) (hh : h < 1000) (hc : c < 1000) : zC scr 100 [.ref 70, .int (nI h), .int (nI c)] (wd A) = some (some (.int (nI (rsm (A 71) (fun x => if x / 10 = c then 1 else 0) h (A 71 7)))), wd A) := by
  have h7 := bO_7 ho
  rw [zC_of zh100]
  refine b100_0.trans ?_
  refine (zloop (W := fun _ => wd A) (scr := scr) (mi := 100) (pc := 5) (st := []) (L := fun j => [some (.ref 70), some (.int (nI h)), some (.int (nI c)), some (.int (nI (rsm (A 71) (fun x => if x / 10 = c then 1 else 0) h j))), some (.int (nI j))]) (A 71 7) (fun j hj => ?_)).trans ?_
  · have hg := bO_g ho hj
    refine (b100_5 gR0 (aR (by omega))).trans ((i_lt hj (by omega)).trans ((b100_17 oR (r_owner (by omega) (by omega))).trans ?_))
    show _ = zd scr 100 5 [_, _, _, some (.int (nI (rsm (A 71) (fun x => if x / 10 = c then 1 else 0) h (j + 1)))), _] [] _
    rw [rsm_succ]
    by_cases e : own (A 71) j = h
    · rw [i_eq e, if_pos e]
      refine (b100_28 oR (r_colour (by omega) (by omega))).trans ?_
      by_cases e2 : cod (A 71) j / 10 = c
      · rw [i_eq e2, if_pos e2]
        refine b100_38.trans ?_
        rw [n_add, n_add]
      · rw [i_ne e2 (by omega) (by omega), if_neg e2]
        refine b100_42.trans ?_
        rw [n_add, n_add]
    · rw [i_ne e (by omega) (by omega), if_neg e]
      refine b100_42.trans ?_
      rw [n_add, n_add]
  · exact (b100_5 gR0 (aR (by omega))).trans ((i_nlt (by omega) (by omega)).trans b100_51)
/-- a marble of a bag, found in the row -/
theorem r_find1 {m : Nat} (ho : bOk (A 71)) (hh : h < A 71 0) (hg : g < A 71 7) (hw : own (A 71) g = h) (hm : rk (A 71) h g = m) : zC scr 101 [.ref 70, .int (nI h), .int (nI m)] (wd A) = some (some (.int (nI g)), wd A) := by
  have h7 := bO_7 ho
  have h0 := ho.1
  have rmo : ∀ d j, rk (A 71) h j ≤ rk (A 71) h (j + d) := by
    intro d j
    induction d with
    | zero => exact Nat.le_refl _
    | succ d ih =>
      rw [← Nat.add_assoc, rk_succ]
      omega
  have hih : (¬ nI h < 0 ∧ nI h < nI (A 71 0)) := by
    rw [n_neg (by omega), n_lt (by omega) (by omega)]
    exact ⟨id, hh⟩
  have hm120 : m < 1000 := by
    have := rk_le (b := A 71) (h := h) g
    omega
  rw [zC_of zh101]
  refine b101_0.trans ?_
  have one : ∀ j, j < A 71 7 → zd scr 101 5 [some (.ref 70), some (.int (nI h)), some (.int (nI m)), some (.int (nI (rk (A 71) h j))), some (.int (nI j))] [] (wd A) = if own (A 71) j = h then zd scr 101 35 [some (.ref 70), some (.int (nI h)), some (.int (nI m)), some (.int (nI (rk (A 71) h j))), some (.int (nI j))] [] (wd A) else zd scr 101 46 [some (.ref 70), some (.int (nI h)), some (.int (nI m)), some (.int (nI (rk (A 71) h j))), some (.int (nI j))] [] (wd A) := by
    intro j hj
    have hgj := bO_g ho hj
    refine (b101_5 gR0 (aR (by omega))).trans ((i_lt hj (by omega)).trans ((b101_17 oR (r_isHeir (by omega) _)).trans ?_))
    rw [if_pos hih, if_neg (by decide)]
    refine (b101_25 oR (r_owner (by omega) (by omega))).trans ?_
    by_cases e : own (A 71) j = h
    · rw [i_eq e, if_pos e]
    · rw [i_ne e (by omega) (by omega), if_neg e]
  refine (zloop (W := fun _ => wd A) (scr := scr) (mi := 101) (pc := 5) (st := []) (L := fun j => [some (.ref 70), some (.int (nI h)), some (.int (nI m)), some (.int (nI (rk (A 71) h j))), some (.int (nI j))]) g (fun j hj => ?_)).trans ?_
  · refine (one j (by omega)).trans ?_
    show _ = zd scr 101 5 [_, _, _, some (.int (nI (rk (A 71) h (j + 1)))), _] [] _
    have hr := rmo (g - (j + 1)) (j + 1)
    rw [show j + 1 + (g - (j + 1)) = g by omega, rk_succ] at hr
    have hle := rk_le (b := A 71) (h := h) j
    rw [rk_succ]
    by_cases e : own (A 71) j = h
    · rw [if_pos e] at hr ⊢
      rw [if_pos e]
      refine b101_35.trans ((i_ne (by omega) (by omega) (by omega)).trans (b101_43.trans ?_))
      rw [n_add, n_add]
    · rw [if_neg e, if_neg e]
      refine b101_46.trans ?_
      rw [n_add]; rfl
  · refine (one g hg).trans ?_
    rw [if_pos hw]
    exact b101_35.trans ((i_eq hm).trans b101_40)
/-- no such marble -/
theorem r_find0 {x y : Int32} (ho : bOk (A 71)) (hx : ∀ h, h < A 71 0 → x = nI h → ¬ (¬ y < 0 ∧ y < nI (rk (A 71) h (A 71 7)))) : zC scr 101 [.ref 70, .int x, .int y] (wd A) = some (some (.int (-6)), wd A) := by
  have h7 := bO_7 ho
  have h0 := ho.1
  rw [zC_of zh101]
  refine b101_0.trans ?_
  rcases s_heir_cases x (n := A 71 0) (by omega) with ⟨h, hh, rfl⟩ | hno
  · have hih : (¬ nI h < 0 ∧ nI h < nI (A 71 0)) := by
      rw [n_neg (by omega), n_lt (by omega) (by omega)]
      exact ⟨id, hh⟩
    have hy := hx h hh rfl
    have rmo : ∀ d j, rk (A 71) h j ≤ rk (A 71) h (j + d) := by
      intro d j
      induction d with
      | zero => exact Nat.le_refl _
      | succ d ih =>
        rw [← Nat.add_assoc, rk_succ]
        omega
    refine (zloop (W := fun _ => wd A) (scr := scr) (mi := 101) (pc := 5) (st := []) (L := fun j => [some (.ref 70), some (.int (nI h)), some (.int y), some (.int (nI (rk (A 71) h j))), some (.int (nI j))]) (A 71 7) (fun j hj => ?_)).trans ?_
    · have hgj := bO_g ho hj
      refine (b101_5 gR0 (aR (by omega))).trans ((i_lt hj (by omega)).trans ((b101_17 oR (r_isHeir (by omega) _)).trans ?_))
      rw [if_pos hih, if_neg (by decide)]
      refine (b101_25 oR (r_owner (by omega) (by omega))).trans ?_
      show _ = zd scr 101 5 [_, _, _, some (.int (nI (rk (A 71) h (j + 1)))), _] [] _
      have hr := rmo (A 71 7 - (j + 1)) (j + 1)
      rw [show j + 1 + (A 71 7 - (j + 1)) = A 71 7 by omega, rk_succ] at hr
      rw [rk_succ]
      have hle := rk_le (b := A 71) (h := h) (A 71 7)
      by_cases e : own (A 71) j = h
      · rw [if_pos e] at hr
        rw [i_eq e, if_pos e]
        refine b101_35.trans ?_
        rw [if_neg]
        · refine b101_43.trans ?_
          rw [n_add, n_add]
        · rintro rfl
          apply hy
          rw [n_neg (by omega), n_lt (by omega) (by omega)]
          exact ⟨id, by omega⟩
      · rw [i_ne e (by omega) (by omega), if_neg e]
        refine b101_46.trans ?_
        rw [n_add]; rfl
    · exact (b101_5 gR0 (aR (by omega))).trans ((i_nlt (by omega) (by omega)).trans b101_52)
  · refine (b101_5 gR0 (aR (by omega))).trans ?_
    by_cases e : 0 < A 71 7
    · refine (i_lt e (by omega)).trans ((b101_17 oR (r_isHeir (by omega) _)).trans ?_)
      rw [if_neg hno, if_pos (by decide)]
      exact b101_52
    · exact (i_nlt e (by omega)).trans b101_52
end RF
