/-! Text: the text dropped -/
def itd (A : Nat → Nat → Nat) (i : Nat) : Nat := if isD (A 68 i) = true then 1 else 0
def itm (A : Nat → Nat → Nat) (i : Nat) : Nat := if isD (A 68 i) = true then A 68 i - 48 else 1
def itx (A : Nat → Nat → Nat) (i : Nat) : Nat := clr (A 68 (i + itd A i)) * 10 + (A 68 (i + itd A i + 1) - 48)
def itk (A : Nat → Nat → Nat) (i : Nat) : Prop := i + itd A i + 1 < A 67 1 ∧ isL (A 68 (i + itd A i)) = true ∧ isD (A 68 (i + itd A i + 1)) = true
def vtx (A : Nat → Nat → Nat) : Nat → Nat → Prop
  | 0, i => i = A 67 1
  | n + 1, i => i = A 67 1 ∨ (itk A i ∧ vtx A n (i + itd A i + 2))
def ttl (A : Nat → Nat → Nat) : Nat → Nat → Nat
  | 0, _ => 0
  | n + 1, i => if i = A 67 1 then 0 else itm A i + ttl A n (i + itd A i + 2)
def dpN (A : Nat → Nat → Nat) (p : Nat) : Nat → Nat → (Nat → Nat → Nat) → (Nat → Nat → Nat)
  | 0, _, B => B
  | n + 1, i, B => if i = A 67 1 then B else dpN A p n (i + itd A i + 2) (deA B p (itx A i) (itm A i))
section PO
variable {A B : Nat → Nat → Nat} {p q h : Nat} {scr : List Int32}
theorem stg_0 {c : Nat} : stg 0 c = if isL c = true then 2 else if isD c = true then 1 else 3 := by
  unfold stg
  rw [if_neg (by omega)]
  by_cases h : isL c = true
  · rw [if_pos h, if_pos h]
  · rw [if_neg h, if_neg h]
    by_cases h2 : isD c = true
    · rw [if_pos h2, if_pos ⟨rfl, h2⟩]
    · rw [if_neg h2, if_neg (fun q => h2 q.2)]
theorem stg_1 {c : Nat} : stg 1 c = if isL c = true then 2 else 3 := by
  unfold stg
  rw [if_neg (by omega)]
  by_cases h : isL c = true
  · rw [if_pos h, if_pos h]
  · rw [if_neg h, if_neg h, if_neg (fun q => absurd q.1 (by omega))]
theorem stg_2 {c : Nat} : stg 2 c = if isD c = true then 0 else 3 := by
  unfold stg
  rw [if_pos rfl]
/-- at an item, the first error is where the reference finds it -/
theorem fe_item {n i : Nat} (hi : i + n = A 67 1) (hn : 0 < n) : feN A n i 0 = if i + itd A i = A 67 1 ∨ ¬ isL (A 68 (i + itd A i)) = true then nI (i + itd A i) else if i + itd A i + 1 = A 67 1 ∨ ¬ isD (A 68 (i + itd A i + 1)) = true then nI (i + itd A i + 1) else feN A (n - itd A i - 2) (i + itd A i + 2) 0 := by
  have two : ∀ m j, j + m = A 67 1 → feN A m j 2 = if j = A 67 1 ∨ ¬ isD (A 68 j) = true then nI j else feN A (m - 1) (j + 1) 0 := by
    intro m j hj
    cases m with
    | zero =>
      unfold feN
      rw [if_neg (fun q => absurd q.1 (by omega)), if_pos (Or.inl (by omega))]
      exact congrArg nI (by omega)
    | succ m =>
      have e3 : feN A (m + 1) j 2 = if stg 2 (A 68 j) = 3 then nI j else feN A m (j + 1) (stg 2 (A 68 j)) := rfl
      rw [e3, stg_2]
      by_cases hD : isD (A 68 j) = true
      · rw [if_pos hD, if_neg (by omega), if_neg (fun q => q.elim (fun q => by omega) (fun q => q hD))]; rfl
      · rw [if_neg hD, if_pos rfl, if_pos (Or.inr hD)]
  obtain ⟨m, rfl⟩ : ∃ m, n = m + 1 := ⟨n - 1, by omega⟩
  have e1 : feN A (m + 1) i 0 = if stg 0 (A 68 i) = 3 then nI i else feN A m (i + 1) (stg 0 (A 68 i)) := rfl
  rw [e1, stg_0]
  by_cases hL : isL (A 68 i) = true
  · have hd : itd A i = 0 := if_neg (by rw [isDL hL]; decide)
    rw [if_pos hL, if_neg (by omega), two m (i + 1) (by omega), hd, Nat.add_zero]
    rw [show m + 1 - 0 - 2 = m - 1 by omega]
    exact (if_neg (fun q => q.elim (fun q => by omega) (fun q => q hL))).symm
  · rw [if_neg hL]
    by_cases hD : isD (A 68 i) = true
    · have hd : itd A i = 1 := if_pos hD
      rw [if_pos hD, if_neg (by omega), hd]
      cases m with
      | zero =>
        rw [if_pos (Or.inl (by omega))]
        unfold feN
        rw [if_neg (fun q => absurd q.1 (by omega))]
        exact congrArg nI (by omega)
      | succ m =>
        have e2 : feN A (m + 1) (i + 1) 1 = if stg 1 (A 68 (i + 1)) = 3 then nI (i + 1) else feN A m (i + 1 + 1) (stg 1 (A 68 (i + 1))) := rfl
        rw [e2, stg_1]
        by_cases hL2 : isL (A 68 (i + 1)) = true
        · rw [if_pos hL2, if_neg (by omega), two m (i + 1 + 1) (by omega)]
          rw [show m + 1 + 1 - 1 - 2 = m - 1 by omega]
          exact (if_neg (fun q => q.elim (fun q => by omega) (fun q => q hL2))).symm
        · rw [if_neg hL2, if_pos rfl, if_pos (Or.inr hL2)]
    · have hd : itd A i = 0 := if_neg hD
      rw [if_neg hD, if_pos rfl, hd, Nat.add_zero, if_pos (Or.inr hL)]
theorem itd_le (i : Nat) : itd A i ≤ 1 := by unfold itd; split <;> omega
theorem nI_ne6 {a : Nat} (ha : a < 1000) : ¬ nI a = -6 := by
  intro h
  have h1 := congrArg Int32.toInt h
  rw [n_toInt (by omega)] at h1
  have e : Int32.toInt (-6) = -6 := by decide
  omega
theorem fe_vtx (ho : txOk A) : ∀ n i m, i + m = A 67 1 → m ≤ n → feN A m i 0 = -6 → vtx A n i := by
  have hl := ho.1
  intro n
  induction n with
  | zero =>
    intro i m hi hm _
    show i = A 67 1
    omega
  | succ n ih =>
    intro i m hi hm h
    by_cases h0 : m = 0
    · exact Or.inl (by omega)
    have hdl := itd_le (A := A) i
    rw [fe_item hi (by omega)] at h
    by_cases c1 : i + itd A i = A 67 1 ∨ ¬ isL (A 68 (i + itd A i)) = true
    · rw [if_pos c1] at h
      exact absurd h (nI_ne6 (by omega))
    rw [if_neg c1] at h
    by_cases c2 : i + itd A i + 1 = A 67 1 ∨ ¬ isD (A 68 (i + itd A i + 1)) = true
    · rw [if_pos c2] at h
      exact absurd h (nI_ne6 (by omega))
    rw [if_neg c2] at h
    have hL : isL (A 68 (i + itd A i)) = true := Decidable.not_not.mp fun q => c1 (Or.inr q)
    have hD : isD (A 68 (i + itd A i + 1)) = true := Decidable.not_not.mp fun q => c2 (Or.inr q)
    have n1 : ¬ i + itd A i = A 67 1 := fun q => c1 (Or.inl q)
    have n2 : ¬ i + itd A i + 1 = A 67 1 := fun q => c2 (Or.inl q)
    exact Or.inr ⟨⟨by omega, hL, hD⟩, ih _ (m - itd A i - 2) (by omega) (by omega) h⟩
theorem itx_ok {i : Nat} (hk : itk A i) : itx A i < 60 ∧ 1 ≤ itx A i % 10 := by
  have h1 := clr_lt (A 68 (i + itd A i))
  have h2 := (isD_iff _).mp hk.2.2
  unfold itx
  omega
theorem itm_ok {i : Nat} : 1 ≤ itm A i ∧ itm A i ≤ 9 := by
  unfold itm
  split
  · rename_i h
    have := (isD_iff _).mp h
    omega
  · omega
/-- one item -/
theorem t_item {i : Nat} {x4 : Int32} {v6 : Option Value} (ho : txOk A) (hb : ∀ k j, k = 67 ∨ k = 68 → B k j = A k j) (hk : itk A i) {f : Int32} {C : Nat → Nat → Nat} (hc : ∀ k j, k = 67 ∨ k = 68 → C k j = A k j) (hdr : zC scr 48 [.ref (p + 1), .int (nI (itm A i)), .int (nI (clr (A 68 (i + itd A i)))), .int (nI (A 68 (i + itd A i + 1) - 48))] (wd B) = some (some (.int f), wd C)) : ∃ x4' v6', zd scr 47 10 [some (.ref 67), some (.ref (p + 1)), some (.int (nI 0)), some (.int (nI 1)), some (.int x4), some (.int (nI i)), v6] [] (wd B) = if f = 0 then some (some (.int (nI 0)), wd C) else zd scr 47 10 [some (.ref 67), some (.ref (p + 1)), some (.int (nI 0)), some (.int (nI 1)), some (.int x4'), some (.int (nI (i + itd A i + 2))), v6'] [] (wd C) := by
  have hl := ho.1
  have hdl := itd_le (A := A) i
  have hr := fun j hj => ho.2 j hj
  obtain ⟨k1, k2, k3⟩ := hk
  have hB1 : B 67 1 = A 67 1 := hb _ _ (by omega)
  have hB8 : ∀ j, B 68 j = A 68 j := fun j => hb _ _ (by omega)
  -- from the letter on
  have rest : ∀ (j : Nat) (y4 : Int32) (w6 : Option Value) (s : Nat), (s = 0 ∨ s = 1) → j = i + itd A i → ∃ x4' v6', zd scr 47 10 [some (.ref 67), some (.ref (p + 1)), some (.int (nI s)), some (.int (nI (itm A i))), some (.int y4), some (.int (nI j)), w6] [] (wd B) = if f = 0 then some (some (.int (nI 0)), wd C) else zd scr 47 10 [some (.ref 67), some (.ref (p + 1)), some (.int (nI 0)), some (.int (nI 1)), some (.int x4'), some (.int (nI (i + itd A i + 2))), v6'] [] (wd C) := by
    intro j y4 w6 s hs hj
    subst hj
    have r1 := hr (i + itd A i) (by omega)
    have r2 := hr (i + itd A i + 1) k1
    have d2 := (isD_iff _).mp k3
    have es : stg s (A 68 (i + itd A i)) = 2 := by
      rcases hs with rfl | rfl
      · rw [stg_0, if_pos k2]
      · rw [stg_1, if_pos k2]
    have nL : isL (A 68 (i + itd A i + 1)) = false := by
      rw [Bool.eq_false_iff]
      intro q
      rw [isDL q] at k3
      cases k3
    refine ⟨nI (clr (A 68 (i + itd A i))), some (.int (nI (A 68 (i + itd A i + 1)))), ?_⟩
    refine (b47_10 t_gf).trans ?_
    rw [hB1, i_lt (by omega) (by omega)]
    refine (b47_19 (o_gf o_67 rfl) (w_al zra68 (by omega) (by omega)) (t_isL (by rw [hB8]; omega))).trans ?_
    rw [hB8, if_pos k2, if_neg (by decide)]
    refine (b47_36 (t_colour (by omega)) (t_stage (by omega) (by omega))).trans ?_
    rw [es, n_add, if_pos k2]
    refine (b47_10 t_gf).trans ?_
    rw [hB1, i_lt (by omega) (by omega)]
    refine (b47_19 (o_gf o_67 rfl) (w_al zra68 (by omega) (by omega)) (t_isL (by rw [hB8]; omega))).trans ?_
    rw [hB8, nL, if_pos (by decide)]
    refine b47_46.trans ?_
    rw [if_neg (by decide)]
    refine (b47_59 (by rw [n_sub (by omega)]; exact hdr)).trans ?_
    by_cases hf : f = 0
    · rw [if_pos hf, if_pos hf]; exact b47_74
    · rw [if_neg hf, if_neg hf]
      refine (b47_76 (t_stage (by omega) (by omega))).trans ?_
      rw [stg_2, if_pos k3, n_add]
  by_cases hD : isD (A 68 i) = true
  · have hd : itd A i = 1 := if_pos hD
    have hm : itm A i = A 68 i - 48 := if_pos hD
    have r0 := hr i (by omega)
    have d0 := (isD_iff _).mp hD
    have nL : isL (A 68 i) = false := by
      rw [Bool.eq_false_iff]
      intro q
      rw [isDL q] at hD
      cases hD
    obtain ⟨x4', v6', hx⟩ := rest (i + 1) x4 (some (.int (nI (A 68 i)))) 1 (Or.inr rfl) (by omega)
    refine ⟨x4', v6', Eq.trans ?_ hx⟩
    refine (b47_10 t_gf).trans ?_
    rw [hB1, i_lt (by omega) (by omega)]
    refine (b47_19 (o_gf o_67 rfl) (w_al zra68 (by omega) (by omega)) (t_isL (by rw [hB8]; omega))).trans ?_
    rw [hB8, nL, if_pos (by decide)]
    refine b47_46.trans ?_
    rw [if_pos (by decide)]
    refine (b47_50 (t_stage (by omega) (by omega))).trans ?_
    rw [stg_0, if_neg (by rw [nL]; decide), if_pos hD, n_add, n_sub (by omega), hm]
  · have hd : itd A i = 0 := if_neg hD
    have hm : itm A i = 1 := if_neg hD
    obtain ⟨x4', v6', hx⟩ := rest i x4 v6 0 (Or.inl rfl) (by omega)
    rw [hm] at hx
    exact ⟨x4', v6', hx⟩
theorem t_dropInto (ho : txOk A) (hp : zsb p) (hp6 : p + 8 ≤ 67) : ∀ n i (B : Nat → Nat → Nat) (x4 : Int32) (v6 : Option Value), (∀ k j, k = 67 ∨ k = 68 → B k j = A k j) → vtx A n i → zmo B p → zcnt B p 6 ≤ 40 →
    (zcnt B p 6 + ttl A n i ≤ 40 ∧ B (p + 3) 7 + ttl A n i ≤ 120 → zd scr 47 10 [some (.ref 67), some (.ref (p + 1)), some (.int (nI 0)), some (.int (nI 1)), some (.int x4), some (.int (nI i)), v6] [] (wd B) = some (some (.int (nI 1)), wd (dpN A p n i B))) ∧
    (¬ (zcnt B p 6 + ttl A n i ≤ 40 ∧ B (p + 3) 7 + ttl A n i ≤ 120) → ∃ C, zd scr 47 10 [some (.ref 67), some (.ref (p + 1)), some (.int (nI 0)), some (.int (nI 1)), some (.int x4), some (.int (nI i)), v6] [] (wd B) = some (some (.int (nI 0)), wd C) ∧ ∀ k i, k ≠ p + 2 → k ≠ p + 3 → C k i = B k i) := by
  have hl := ho.1
  have fin : ∀ i (B : Nat → Nat → Nat) (x4 : Int32) (v6 : Option Value), (∀ k j, k = 67 ∨ k = 68 → B k j = A k j) → i = A 67 1 → zd scr 47 10 [some (.ref 67), some (.ref (p + 1)), some (.int (nI 0)), some (.int (nI 1)), some (.int x4), some (.int (nI i)), v6] [] (wd B) = some (some (.int (nI 1)), wd B) := by
    intro i B x4 v6 hb hi
    refine (b47_10 t_gf).trans ?_
    rw [hb 67 1 (Or.inl rfl), i_nlt (by omega) (by omega)]
    exact b47_91
  intro n
  induction n with
  | zero =>
    intro i B x4 v6 hb hv hm h40
    have h120 := hm.2
    refine ⟨fun _ => fin i B x4 v6 hb hv, fun q => absurd (show zcnt B p 6 + 0 ≤ 40 ∧ B (p + 3) 7 + 0 ≤ 120 by omega) q⟩
  | succ n ih =>
    intro i B x4 v6 hb hv hm h40
    have h120 := hm.2
    by_cases hi : i = A 67 1
    · have e1 : ttl A (n + 1) i = 0 := if_pos hi
      have e2 : dpN A p (n + 1) i B = B := if_pos hi
      rw [e1, e2]
      exact ⟨fun _ => fin i B x4 v6 hb hi, fun q => absurd (show zcnt B p 6 + 0 ≤ 40 ∧ B (p + 3) 7 + 0 ≤ 120 by omega) q⟩
    rcases hv with hv | ⟨hk, hv⟩
    · exact absurd hv hi
    have e1 : ttl A (n + 1) i = itm A i + ttl A n (i + itd A i + 2) := if_neg hi
    have e2 : dpN A p (n + 1) i B = dpN A p n (i + itd A i + 2) (deA B p (itx A i) (itm A i)) := if_neg hi
    have hmm := itm_ok (A := A) (i := i)
    rw [e1, e2]
    by_cases hfit : zcnt B p 6 + itm A i ≤ 40 ∧ B (p + 3) 7 + itm A i ≤ 120
    · have hdo := deA_ok (x := itx A i) hm (itm A i) hfit.1 hfit.2
      have hoff : ∀ k j, k = 67 ∨ k = 68 → deA B p (itx A i) (itm A i) k j = A k j := fun k j hkj => by
        rw [deA_off (by omega) (by omega)]; exact hb k j hkj
      obtain ⟨x4', v6', hx⟩ := t_item (p := p) (scr := scr) (x4 := x4) (v6 := v6) ho hb hk hoff (t_dropEach1 hp hm (by omega) hfit.1 hfit.2)
      rw [if_neg (by decide)] at hx
      have hih := ih (i + itd A i + 2) (deA B p (itx A i) (itm A i)) x4' v6' hoff hv hdo.1 (by omega)
      rw [hdo.2.1, hdo.2.2] at hih
      refine ⟨fun q => hx.trans (hih.1 (by omega)), fun q => ?_⟩
      obtain ⟨C, h1, h2⟩ := hih.2 (by omega)
      exact ⟨C, hx.trans h1, fun k j k2 k3 => by rw [h2 k j k2 k3, deA_off k2 k3]⟩
    · refine ⟨fun q => absurd (show zcnt B p 6 + itm A i ≤ 40 ∧ B (p + 3) 7 + itm A i ≤ 120 by omega) hfit, fun _ => ?_⟩
      obtain ⟨C, h1, h2⟩ := t_dropEach0 (scr := scr) (c := clr (A 68 (i + itd A i))) (v := A 68 (i + itd A i + 1) - 48) hp hm (by omega) h40 hfit
      obtain ⟨x4', v6', hx⟩ := t_item (p := p) (scr := scr) (x4 := x4) (v6 := v6) ho hb hk (fun k j hkj => by rw [h2 k j (by omega) (by omega)]; exact hb k j hkj) h1
      rw [if_pos (by decide)] at hx
      exact ⟨C, hx, h2⟩
end PO
