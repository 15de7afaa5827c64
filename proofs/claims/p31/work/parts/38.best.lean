/-! BestSwap: the search, as iterates that change cell 69 alone -/
def one1 (a b : Nat) : Nat := if a = b then 1 else 0
/-- colour and value of a holder's marble; the plus and minus of a swap's growth -/
def mcol (A : Nat → Nat → Nat) (p h i : Nat) : Nat := A (p + 2) (A (p + 3) h + i) / 10
def mval (A : Nat → Nat → Nat) (p h i : Nat) : Nat := A (p + 2) (A (p + 3) h + i) % 10
def gpl (A : Nat → Nat → Nat) (p h i g j : Nat) : Nat := one1 (mcol A p h i) (A (p + 5) g) + one1 (mcol A p g j) (A (p + 5) h)
def gmi (A : Nat → Nat → Nat) (p h i g j : Nat) : Nat := one1 (mcol A p h i) (A (p + 5) h) + one1 (mcol A p g j) (A (p + 5) g)
def dif (a b : Nat) : Nat := if b ≤ a then a - b else b - a
def vtr (A : Nat → Nat → Nat) (p h i g j : Nat) : Int32 := vto (A p 7) (mval A p h i) (mval A p g j) (A (p + 4) h) (A (p + 4) g) (A (p + 7) (A (p + 4) h)) (A (p + 7) (A (p + 4) g))
def wgB (A : Nat → Nat → Nat) (h i g j gr d : Nat) : Nat → Nat → Nat := up (up (up (up (up (up A 69 0 h) 69 1 i) 69 2 g) 69 3 j) 69 4 gr) 69 5 d
def wgA (A : Nat → Nat → Nat) (p h i g j gr : Nat) : Nat → Nat → Nat := if (A 69 4 < gr ∨ dif (mval A p h i) (mval A p g j) < A 69 5) ∧ vtr A p h i g j = -6 then wgB A h i g j gr (dif (mval A p h i) (mval A p g j)) else A
def cdA (A : Nat → Nat → Nat) (p h i g j : Nat) : Nat → Nat → Nat := if gmi A p h i g j < gpl A p h i g j ∧ A 69 4 ≤ gpl A p h i g j - gmi A p h i g j then wgA A p h i g j (gpl A p h i g j - gmi A p h i g j) else A
section BS
variable {A B : Nat → Nat → Nat} {p q h : Nat} {scr : List Int32}
theorem b_gf (f : Nat) (hf : f < 6) : zgf (wd A) 69 0 f = some (.int (nI (A 69 f))) := by
  refine o_gf o_69 ?_
  rcases (show f = 0 ∨ f = 1 ∨ f = 2 ∨ f = 3 ∨ f = 4 ∨ f = 5 by omega) with rfl | rfl | rfl | rfl | rfl | rfl <;> rfl
theorem b_pf (f x : Nat) (hf : f < 6) : zpf (wd A) 69 0 f (.int (nI x)) = some (wd (up A 69 f x)) := by
  refine o_pf o_69 hf o_69 ?_
  rcases (show f = 0 ∨ f = 1 ∨ f = 2 ∨ f = 3 ∨ f = 4 ∨ f = 5 by omega) with rfl | rfl | rfl | rfl | rfl | rfl <;> simp [up]
theorem b_one {a b : Nat} (ha : a < 2147483648) (hb : b < 2147483648) : zC scr 4 [.int (nI a), .int (nI b)] (wd A) = some (some (.int (nI (one1 a b))), wd A) := by
  rw [zC_of zh4]
  refine b4_0.trans ?_
  unfold one1
  by_cases c : a = b
  · rw [i_eq c, if_pos c]; exact b4_5
  · rw [i_ne c ha hb, if_neg c]; exact b4_9
theorem b_abs {a b : Nat} (ha : a < 10000) (hb : b < 10000) : (if 0 ≤ (nI a - nI b) then (nI a - nI b) else 0 - (nI a - nI b)) = nI (dif a b) := by
  unfold dif
  by_cases c : b ≤ a
  · rw [if_pos c, n_sub c, if_pos (by rw [show (0 : Int32) = nI 0 from rfl, n_le (by omega) (by omega)]; omega)]
  · rw [if_neg c, if_neg (by rw [Int32.le_iff_toInt_le, n_subI ha hb, Int32.toInt_zero]; omega)]
    apply Int32.toInt_inj.mp
    rw [n_toInt (by omega), Int32.toInt_sub, n_subI ha hb, Int32.toInt_zero]
    rw [show (0 : Int) - ((a : Int) - (b : Int)) = ((b - a : Nat) : Int) by omega]
    exact Int.bmod_eq_of_le (by omega) (by omega)
/-- a place in a bag is a place in the row -/
theorem in_row (hm : zmo A p) {g j : Nat} (hg : g < 7) (hj : j < zcnt A p g) : A (p + 3) g + j < 120 := by
  have h1 := zmo_120 hm (b := g + 1) (by omega)
  have hc : zcnt A p g = A (p + 3) (g + 1) - A (p + 3) g := rfl
  omega
theorem s_vetoerV {i g j : Nat} (hp : zsb p) (ho : cOk A p) (hh : h < A p 1) (hg : g < A p 1) (hi : A (p + 3) h + i < 120) (hj : A (p + 3) g + j < 120) : zC scr 38 [.ref p, .int (nI h), .int (nI i), .int (nI g), .int (nI j)] (wd A) = some (some (.int (vtr A p h i g j)), wd A) := s_vetoer hp ho hh hg hi hj
theorem b_weigh {i g j gr : Nat} (hp : zsb p) (ho : cOk A p) (hh : h < A p 1) (hg : g < A p 1) (hi : i < zcnt A p h) (hj : j < zcnt A p g) (hgr : gr < 1000) (h4 : A 69 4 < 1000) (h5 : A 69 5 < 1000) : zC scr 5 [.ref 69, .ref p, .int (nI h), .int (nI i), .int (nI g), .int (nI j), .int (nI gr)] (wd A) = some (none, wd (wgA A p h i g j gr)) := by
  have hn := ho.2.2.1
  have ri := in_row ho.1 (by omega) hi
  have rj := in_row ho.1 (by omega) hj
  have e1 := ho.2.1 _ ri
  have e2 := ho.2.1 _ rj
  have v1 : mval A p h i < 10 := Nat.mod_lt _ (by omega)
  have v2 : mval A p g j < 10 := Nat.mod_lt _ (by omega)
  have hd : dif (mval A p h i) (mval A p g j) < 10 := by unfold dif; split <;> omega
  rw [zC_of zh5]
  refine (b5_0 (f2 := nI (mval A p h i)) (f4 := nI (mval A p g j)) (o_gf (o_st hp) rfl) (o_ob (o_mb hp)) (m_value hp (by omega) ri (by omega)) (o_gf (o_st hp) rfl) (o_ob (o_mb hp)) (m_value hp (by omega) rj (by omega)) (b_gf 4 (by omega))).trans ?_
  rw [b_abs (by omega) (by omega)]
  -- behind 'better'
  have hb : ∀ better : Nat, (better = 1 ↔ (A 69 4 < gr ∨ dif (mval A p h i) (mval A p g j) < A 69 5)) → (better = 0 ∨ better = 1) → (if nI better = 0 then zd scr 5 105 [some (.ref 69), some (.ref p), some (.int (nI h)), some (.int (nI i)), some (.int (nI g)), some (.int (nI j)), some (.int (nI gr)), some (.int (nI (dif (mval A p h i) (mval A p g j)))), some (.int (nI better))] [] (wd A) else zd scr 5 56 [some (.ref 69), some (.ref p), some (.int (nI h)), some (.int (nI i)), some (.int (nI g)), some (.int (nI j)), some (.int (nI gr)), some (.int (nI (dif (mval A p h i) (mval A p g j)))), some (.int (nI better))] [] (wd A)) = some (none, wd (wgA A p h i g j gr)) := by
    intro better hbt h01
    unfold wgA
    rcases h01 with rfl | rfl
    · rw [i_eq0 rfl, if_neg (fun q => absurd (hbt.mpr q.1) (by omega))]
      exact b5_105
    · rw [i_ne0 (by omega) (by omega)]
      refine (b5_56 (o_ob (o_st hp)) (s_vetoerV hp ho hh hg ri rj)).trans ?_
      by_cases c2 : vtr A p h i g j = -6
      · rw [if_pos c2, if_pos ⟨hbt.mp rfl, c2⟩]
        exact b5_71 (b_pf 0 _ (by omega)) (b_pf 1 _ (by omega)) (b_pf 2 _ (by omega)) (b_pf 3 _ (by omega)) (b_pf 4 _ (by omega)) (b_pf 5 _ (by omega))
      · rw [if_neg c2, if_neg (fun q => c2 q.2)]
        exact b5_105
  by_cases c1 : gr ≤ A 69 4
  · rw [i_le c1 (by omega)]
    refine (b5_35 (b_gf 5 (by omega))).trans ?_
    by_cases c2 : dif (mval A p h i) (mval A p g j) < A 69 5
    · rw [i_lt c2 (by omega)]
      exact b5_44.trans (hb 1 ⟨fun _ => Or.inr c2, fun _ => rfl⟩ (Or.inr rfl))
    · rw [i_nlt c2 (by omega)]
      exact b5_48.trans (hb 0 ⟨fun q => absurd q (by omega), fun q => q.elim (fun q => by omega) (fun q => absurd q c2)⟩ (Or.inl rfl))
  · rw [i_nle c1 (by omega)]
    exact b5_44.trans (hb 1 ⟨fun _ => Or.inl (by omega), fun _ => rfl⟩ (Or.inr rfl))
/-! what the search reads does not change -/
theorem wg_off {i g j gr c k : Nat} (hc : c ≠ 69) : wgA A p h i g j gr c k = A c k := by
  unfold wgA
  split
  · simp only [wgB, up]
    repeat rw [if_neg (by omega)]
  · rfl
theorem cd_off {i g j c k : Nat} (hc : c ≠ 69) : cdA A p h i g j c k = A c k := by
  unfold cdA
  split
  · exact wg_off hc
  · rfl
theorem one1_le (a b : Nat) : one1 a b ≤ 1 := by unfold one1; split <;> omega
theorem cd_sm {i g j : Nat} (h4 : A 69 4 ≤ 2) (h5 : A 69 5 < 10) : cdA A p h i g j 69 4 ≤ 2 ∧ cdA A p h i g j 69 5 < 10 := by
  have v1 : mval A p h i < 10 := Nat.mod_lt _ (by omega)
  have v2 : mval A p g j < 10 := Nat.mod_lt _ (by omega)
  have hd : dif (mval A p h i) (mval A p g j) < 10 := by unfold dif; split <;> omega
  have o1 := one1_le (mcol A p h i) (A (p + 5) g)
  have o2 := one1_le (mcol A p g j) (A (p + 5) h)
  unfold cdA
  split
  · unfold wgA
    split
    · simp only [wgB, up, true_and]
      refine ⟨?_, ?_⟩
      · simp only [show ¬ (4 = 5) by omega, if_false, if_true]
        unfold gpl
        omega
      · simpa using hd
    · exact ⟨h4, h5⟩
  · exact ⟨h4, h5⟩
theorem bits4 : ∀ a, a < 2 → ∀ b, b < 2 → ∀ c, c < 2 → ∀ d, d < 2 → ((0 < ((nI a - nI b) + nI c) - nI d) ↔ b + d < a + c) := by decide +kernel
theorem bits5 : ∀ a, a < 2 → ∀ b, b < 2 → ∀ c, c < 2 → ∀ d, d < 2 → (a + c ≤ b + d ∨ ((nI a - nI b) + nI c) - nI d = nI (a + c - (b + d))) := by decide +kernel
theorem bits3 : ∀ a, a < 2 → ∀ b, b < 2 → ∀ g, g < 3 → (((nI a - nI b) + nI 1 < (if nI g < nI 1 then nI 1 else nI g)) ↔ (a + 1 < b + (if g < 1 then 1 else g))) := by decide +kernel
/-- the partners of one heir, so many -/
def itJ (A : Nat → Nat → Nat) (p h i g : Nat) : Nat → Nat → Nat → Nat
  | 0 => A
  | j + 1 => cdA (itJ A p h i g j) p h i g j
def itG (A : Nat → Nat → Nat) (p h i : Nat) : Nat → Nat → Nat → Nat
  | 0 => A
  | k + 1 => itJ (itG A p h i k) p h i (h + 1 + k) (zcnt A p (h + 1 + k))
def itI (A : Nat → Nat → Nat) (p h : Nat) : Nat → Nat → Nat → Nat
  | 0 => A
  | i + 1 => itG (itI A p h i) p h i (A p 1 - (h + 1))
def itH (A : Nat → Nat → Nat) (p : Nat) : Nat → Nat → Nat → Nat
  | 0 => A
  | h + 1 => itI (itH A p h) p h (zcnt A p h)
def srA (A : Nat → Nat → Nat) (p : Nat) : Nat → Nat → Nat := itH (up (up A 69 4 0) 69 5 0) p (A p 1)
/-- all but cell 69 as it was, the best one's numbers small -/
def zsm9 (A B : Nat → Nat → Nat) : Prop := (∀ c k, c ≠ 69 → B c k = A c k) ∧ B 69 4 ≤ 2 ∧ B 69 5 < 10
theorem zsm9.trans {C : Nat → Nat → Nat} (h1 : zsm9 A B) (h2 : zsm9 B C) : zsm9 A C := ⟨fun c k hc => (h2.1 c k hc).trans (h1.1 c k hc), h2.2⟩
theorem itJ_ok {i g : Nat} (h4 : A 69 4 ≤ 2) (h5 : A 69 5 < 10) : ∀ j, zsm9 A (itJ A p h i g j)
  | 0 => ⟨fun _ _ _ => rfl, h4, h5⟩
  | j + 1 => (itJ_ok h4 h5 j).trans ⟨fun c k hc => cd_off hc, cd_sm (itJ_ok h4 h5 j).2.1 (itJ_ok h4 h5 j).2.2⟩
theorem itG_ok {i : Nat} (h4 : A 69 4 ≤ 2) (h5 : A 69 5 < 10) : ∀ k, zsm9 A (itG A p h i k)
  | 0 => ⟨fun _ _ _ => rfl, h4, h5⟩
  | k + 1 => (itG_ok h4 h5 k).trans (itJ_ok (itG_ok h4 h5 k).2.1 (itG_ok h4 h5 k).2.2 _)
theorem itI_ok (h4 : A 69 4 ≤ 2) (h5 : A 69 5 < 10) : ∀ i, zsm9 A (itI A p h i)
  | 0 => ⟨fun _ _ _ => rfl, h4, h5⟩
  | i + 1 => (itI_ok h4 h5 i).trans (itG_ok (itI_ok h4 h5 i).2.1 (itI_ok h4 h5 i).2.2 _)
theorem itH_ok (h4 : A 69 4 ≤ 2) (h5 : A 69 5 < 10) : ∀ h, zsm9 A (itH A p h)
  | 0 => ⟨fun _ _ _ => rfl, h4, h5⟩
  | h + 1 => (itH_ok h4 h5 h).trans (itI_ok (itH_ok h4 h5 h).2.1 (itH_ok h4 h5 h).2.2 _)
theorem zsm9_ok (hp : zsb p) (h9 : zsm9 A B) (ho : cOk A p) : cOk B p ∧ B p 1 = A p 1 ∧ ∀ h, zcnt B p h = zcnt A p h := by
  have e : ∀ c k, c ≠ 69 → B c k = A c k := h9.1
  have hp69 : p + 7 < 69 := by unfold zsb at hp; omega
  obtain ⟨hm, hs, hn, hw, hr, hpa, hv⟩ := ho
  refine ⟨⟨⟨fun j hj => ?_, ?_⟩, fun i hi => ?_, ?_, fun j hj => ?_, ?_, ?_, fun m hm2 => ?_⟩, e _ _ (by omega), fun h => ?_⟩
  · rw [e _ _ (by omega), e _ _ (by omega)]; exact hm.1 j hj
  · rw [e _ _ (by omega)]; exact hm.2
  · rw [e _ _ (by omega)]; exact hs i hi
  · rw [e _ _ (by omega)]; exact hn
  · rw [e _ _ (by omega)] at hj
    rw [e _ _ (by omega), e _ _ (by omega), e _ _ (by omega), e _ _ (by omega)]
    exact hw j hj
  · rw [e _ _ (by omega)]; exact hr
  · rw [e _ _ (by omega)]; exact hpa
  · rw [e _ _ (by omega)]; exact hv m hm2
  · unfold zcnt; rw [e _ _ (by omega), e _ _ (by omega)]
end BS
