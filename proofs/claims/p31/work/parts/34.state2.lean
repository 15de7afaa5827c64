/-! State: numbers, swaps -/
theorem zsum_le {f : Nat → Nat} {M : Nat} : ∀ {n a : Nat}, (∀ i, i < n → f (a + i) ≤ M) → zsum f a n ≤ n * M
  | 0, a, _ => by simp [zsum]
  | n + 1, a, h => by
    have h1 := zsum_le (n := n) (a := a) (fun i hi => h i (by omega))
    have h2 := h n (by omega)
    rw [zsum, Nat.succ_mul]
    omega
theorem zsum_congr {f g : Nat → Nat} : ∀ {n a b : Nat}, (∀ i, i < n → f (a + i) = g (b + i)) → zsum f a n = zsum g b n
  | 0, _, _, _ => rfl
  | n + 1, a, b, h => by
    rw [zsum, zsum, zsum_congr (n := n) (fun i hi => h i (by omega)), h n (by omega)]
def zmin (f : Nat → Nat) : Nat → Nat
  | 0 => f 0
  | t + 1 => if f (t + 1) < zmin f t then f (t + 1) else zmin f t
def zmax (f : Nat → Nat) : Nat → Nat
  | 0 => f 0
  | t + 1 => if zmax f t < f (t + 1) then f (t + 1) else zmax f t
theorem zmin_succ {f : Nat → Nat} {t : Nat} : zmin f (t + 1) = if f (t + 1) < zmin f t then f (t + 1) else zmin f t := rfl
theorem zmax_succ {f : Nat → Nat} {t : Nat} : zmax f (t + 1) = if zmax f t < f (t + 1) then f (t + 1) else zmax f t := rfl
theorem zmin_lt {f : Nat → Nat} {M : Nat} (h : ∀ i, f i < M) : ∀ t, zmin f t < M
  | 0 => h 0
  | t + 1 => by unfold zmin; split; exact h _; exact zmin_lt h t
theorem zmax_lt {f : Nat → Nat} {M : Nat} (h : ∀ i, f i < M) : ∀ t, zmax f t < M
  | 0 => h 0
  | t + 1 => by unfold zmax; split; exact h _; exact zmax_lt h t
theorem zmin_le_max {f : Nat → Nat} : ∀ t, zmin f t ≤ zmax f t
  | 0 => Nat.le_refl _
  | t + 1 => by
    have := zmin_le_max (f := f) t
    unfold zmin zmax
    split <;> split <;> omega
theorem zmin_congr {f g : Nat → Nat} : ∀ {t : Nat}, (∀ i, i ≤ t → f i = g i) → zmin f t = zmin g t
  | 0, h => h 0 (Nat.le_refl _)
  | t + 1, h => by
    unfold zmin
    rw [h (t + 1) (Nat.le_refl _), zmin_congr (t := t) (fun i hi => h i (by omega))]
theorem zmax_congr {f g : Nat → Nat} : ∀ {t : Nat}, (∀ i, i ≤ t → f i = g i) → zmax f t = zmax g t
  | 0, h => h 0 (Nat.le_refl _)
  | t + 1, h => by
    unfold zmax
    rw [h (t + 1) (Nat.le_refl _), zmax_congr (t := t) (fun i hi => h i (by omega))]
/-- a difference of small numbers -/
theorem n_subI {a b : Nat} (ha : a < 10000) (hb : b < 10000) : (nI a - nI b).toInt = (a : Int) - (b : Int) := by
  rw [Int32.toInt_sub, n_toInt (by omega), n_toInt (by omega)]
  exact Int.bmod_eq_of_le (by omega) (by omega)
theorem n_negI {a b : Nat} (ha : a < 10000) (hb : b < 10000) : (-(nI a - nI b)).toInt = (b : Int) - (a : Int) := by
  rw [Int32.toInt_neg, n_subI ha hb]
  rw [show -((a : Int) - (b : Int)) = (b : Int) - (a : Int) by omega]
  exact Int.bmod_eq_of_le (by omega) (by omega)
theorem n_ltS {a b c : Nat} (ha : a < 10000) (hb : b < 10000) (hc : c < 10000) : (nI c < nI a - nI b) = (c + b < a) := by
  rw [Int32.lt_iff_toInt_lt, n_subI ha hb, n_toInt (by omega)]
  apply propext
  omega
theorem n_ltN {a b c : Nat} (ha : a < 10000) (hb : b < 10000) (hc : c < 10000) : (nI c < -(nI a - nI b)) = (c + a < b) := by
  rw [Int32.lt_iff_toInt_lt, n_negI ha hb, n_toInt (by omega)]
  apply propext
  omega
/-- the class's own numbers are in their ranges -/
def cOk (A : Nat → Nat → Nat) (p : Nat) : Prop := zmo A p ∧ zsm A p ∧ A p 1 ≤ 6 ∧ (∀ h, h < A p 1 → A (p + 4) h < 4 ∧ A (p + 5) h < 6 ∧ A (p + 6) h < A p 1) ∧ A p 6 < 3 ∧ A p 7 < 9 ∧ ∀ m, m < 4 → A (p + 7) m < 10
def zval (A : Nat → Nat → Nat) (p h : Nat) : Nat := zsum (fun i => A (p + 2) i % 10) (A (p + 3) h) (zcnt A p h)
def zcol (A : Nat → Nat → Nat) (p h c : Nat) : Nat := zsum (fun i => if A (p + 2) i / 10 = c then 1 else 0) (A (p + 3) h) (zcnt A p h)
def abt (A : Nat → Nat → Nat) (p h : Nat) : Nat → Nat
  | 0 => A (p + 4) h
  | 1 => A (p + 5) h
  | 2 => zcnt A p h
  | 3 => zval A p h
  | 4 => zcol A p h (A (p + 5) h)
  | _ => plc A p h (A p 1 - 1) 0
section S2
variable {A B : Nat → Nat → Nat} {p q h : Nat} {scr : List Int32}
theorem zcnt_le (hm : zmo A p) (hh : h < 7) : zcnt A p h ≤ 120 := by
  have := zmo_120 hm (b := h + 1) (by omega)
  show A (p + 3) (h + 1) - A (p + 3) h ≤ 120
  omega
theorem zval_le (hm : zmo A p) (hh : h < 7) : zval A p h ≤ 1080 := by
  have h1 := zsum_le (f := fun i => A (p + 2) i % 10) (M := 9) (n := zcnt A p h) (a := A (p + 3) h) (fun i _ => by
    have := Nat.mod_lt (A (p + 2) (A (p + 3) h + i)) (show 0 < 10 by omega)
    show A (p + 2) (A (p + 3) h + i) % 10 ≤ 9
    omega)
  have h2 := zcnt_le hm hh
  have h3 : zcnt A p h * 9 ≤ 120 * 9 := Nat.mul_le_mul_right 9 h2
  exact Nat.le_trans h1 h3
theorem zcol_le (hm : zmo A p) (hh : h < 7) (c : Nat) : zcol A p h c ≤ 120 := by
  have h1 := zsum_le (f := fun i => if A (p + 2) i / 10 = c then 1 else 0) (M := 1) (n := zcnt A p h) (a := A (p + 3) h) (fun i _ => by
    split <;> omega)
  have h2 := zcnt_le hm hh
  rw [Nat.mul_one] at h1
  exact Nat.le_trans h1 h2
theorem plc_le (x : Nat) : ∀ n t, plc A p x n t ≤ t + n
  | 0, t => Nat.le_refl _
  | n + 1, t => by
    unfold plc
    split
    · omega
    · have := plc_le x n (t + 1)
      omega
theorem abt_lt (ho : cOk A p) (hh : h < A p 1) (k : Nat) : abt A p h k < 2000 := by
  obtain ⟨hm, hs, hn, hw, -⟩ := ho
  have h1 := hw h hh
  unfold abt
  split
  · omega
  · omega
  · have := zcnt_le hm (h := h) (by omega); omega
  · have := zval_le hm (h := h) (by omega); omega
  · have := zcol_le hm (h := h) (by omega) (A (p + 5) h); omega
  · have := plc_le (A := A) (p := p) h (A p 1 - 1) 0; omega
theorem s_about (hp : zsb p) (ho : cOk A p) (hh : h < A p 1) {k : Nat} (hk : k < 6) : zC scr 40 [.ref p, .int (nI h), .int (nI k)] (wd A) = some (some (.int (nI (abt A p h k))), wd A) := by
  obtain ⟨hm, hs, hn, hw, -⟩ := ho
  have h1 := hw h hh
  rw [zC_of zh40]
  rcases (show k = 0 ∨ k = 1 ∨ k = 2 ∨ k = 3 ∨ k = 4 ∨ k = 5 by omega) with rfl | rfl | rfl | rfl | rfl | rfl
  · exact (b40_0_c0 rfl).trans (b40_36 (o_gf (o_st hp) rfl) (w_al (zw4 hp) (by omega) (by omega)))
  · exact (b40_0_c1 rfl).trans (b40_43 (o_gf (o_st hp) rfl) (w_al (zw5 hp) (by omega) (by omega)))
  · exact (b40_0_c2 rfl).trans (b40_50 (o_gf (o_st hp) rfl) (o_ob (o_mb hp)) (m_count hp hm (by omega)))
  · exact (b40_0_c3 rfl).trans (b40_59 (o_gf (o_st hp) rfl) (o_ob (o_mb hp)) (m_sum hp hm hs (by omega)))
  · exact (b40_0_c4 rfl).trans (b40_68 (o_gf (o_st hp) rfl) (o_gf (o_st hp) rfl) (w_al (zw5 hp) (by omega) (by omega)) (o_ob (o_mb hp)) (m_countOf hp hm hs (by omega) (by omega)))
  · exact (b40_0_d (Or.inr (by decide))).trans (b40_83 (o_ob (o_st hp)) (s_placeOf hp hh hn (fun i hi => by have := hw i hi; omega)))
theorem s_overAll (hp : zsb p) (ho : cOk A p) {k : Nat} (hk : k < 6) : zC scr 42 [.ref p, .int (nI k)] (wd A) = some (some (.int (nI (zsum (fun h => abt A p h k) 0 (A p 1)))), wd A) := by
  have hn := ho.2.2.1
  rw [zC_of zh42]
  refine b42_0.trans ?_
  refine (zloop (scr := scr) (mi := 42) (pc := 4) (st := []) (L := fun j => [some (.ref p), some (.int (nI k)), some (.int (nI (zsum (fun h => abt A p h k) 0 j))), some (.int (nI j))]) (W := fun _ => wd A) (A p 1) (fun j hj => ?_)).trans ?_
  · refine (b42_4 (o_gf (o_st hp) rfl)).trans ?_
    rw [i_lt hj (by omega)]
    refine (b42_12 (o_ob (o_st hp)) (s_about hp ho hj hk)).trans ?_
    rw [n_add, n_add, zsum, Nat.zero_add]
  · refine (b42_4 (o_gf (o_st hp) rfl)).trans ?_
    rw [i_nlt (by omega) (by omega)]
    exact b42_27
/-- the greatest number less the least one -/
def sprd (A : Nat → Nat → Nat) (p k : Nat) : Nat := if A p 1 = 0 then 0 else zmax (fun h => abt A p h k) (A p 1 - 1) - zmin (fun h => abt A p h k) (A p 1 - 1)
theorem s_spread (hp : zsb p) (ho : cOk A p) {k : Nat} (hk : k < 6) : zC scr 43 [.ref p, .int (nI k)] (wd A) = some (some (.int (nI (sprd A p k))), wd A) := by
  have hn := ho.2.2.1
  rw [zC_of zh43]
  refine (b43_0 (o_gf (o_st hp) rfl)).trans ?_
  unfold sprd
  by_cases h0 : A p 1 = 0
  · rw [i_eq0 h0, if_pos h0]; exact b43_7
  · rw [i_ne0 h0 (by omega), if_neg h0]
    refine (b43_9 (o_ob (o_st hp)) (s_about hp ho (by omega) hk)).trans ?_
    have hmm : ∀ j, j < A p 1 → zmin (fun h => abt A p h k) j < 2000 ∧ zmax (fun h => abt A p h k) j < 2000 := by
      intro j
      induction j with
      | zero => intro hj; exact ⟨abt_lt ho hj k, abt_lt ho hj k⟩
      | succ j ih =>
        intro hj
        have h1 := ih (by omega)
        have h2 := abt_lt ho hj k
        rw [zmin_succ, zmax_succ]
        exact ⟨by split <;> omega, by split <;> omega⟩
    have key : ∀ N, N < A p 1 → ∀ v5 : Option Value, ∃ v5', zd scr 43 21 [some (.ref p), some (.int (nI k)), some (.int (nI (abt A p 0 k))), some (.int (nI (abt A p 0 k))), some (.int (nI 1)), v5] [] (wd A) = zd scr 43 21 [some (.ref p), some (.int (nI k)), some (.int (nI (zmin (fun h => abt A p h k) N))), some (.int (nI (zmax (fun h => abt A p h k) N))), some (.int (nI (N + 1))), v5'] [] (wd A) := by
      intro N
      induction N with
      | zero => intro _ v5; exact ⟨v5, rfl⟩
      | succ N ih =>
        intro hN v5
        obtain ⟨v, hv⟩ := ih (by omega) v5
        have h1 := hmm N (by omega)
        have h2 := abt_lt ho hN k
        refine ⟨some (.int (nI (abt A p (N + 1) k))), hv.trans ?_⟩
        refine (b43_21 (o_gf (o_st hp) rfl)).trans ?_
        rw [i_lt hN (by omega)]
        refine (b43_30 (o_ob (o_st hp)) (s_about hp ho hN hk)).trans ?_
        rw [n_add, zmin_succ, zmax_succ]
        by_cases c1 : abt A p (N + 1) k < zmin (fun h => abt A p h k) N <;> by_cases c2 : zmax (fun h => abt A p h k) N < abt A p (N + 1) k
        · rw [i_lt c1 (by omega), i_lt c2 (by omega), if_pos c1, if_pos c2]
        · rw [i_lt c1 (by omega), i_nlt c2 (by omega), if_pos c1, if_neg c2]
        · rw [i_nlt c1 (by omega), i_lt c2 (by omega), if_neg c1, if_pos c2]
        · rw [i_nlt c1 (by omega), i_nlt c2 (by omega), if_neg c1, if_neg c2]
    obtain ⟨v, hv⟩ := key (A p 1 - 1) (by omega) none
    refine hv.trans ?_
    refine (b43_21 (o_gf (o_st hp) rfl)).trans ?_
    rw [i_nlt (by omega) (by omega)]
    refine b43_59.trans ?_
    rw [n_sub (zmin_le_max _)]
def fig (A : Nat → Nat → Nat) (p : Nat) : Nat → Nat
  | 0 => A p 1
  | 1 => zcnt A p 6
  | 2 => zsum (fun h => abt A p h 2) 0 (A p 1)
  | 3 => zval A p 6
  | 4 => zsum (fun h => abt A p h 3) 0 (A p 1)
  | 5 => A p 8
  | 6 => A p 9
  | 7 => A p 10
  | 8 => zsum (fun h => abt A p h 4) 0 (A p 1)
  | 9 => sprd A p 2
  | 10 => sprd A p 3
  | 11 => A p 6
  | _ => A p 7
theorem s_figure (hp : zsb p) (ho : cOk A p) {k : Nat} (hk : k < 13) : zC scr 41 [.ref p, .int (nI k)] (wd A) = some (some (.int (nI (fig A p k))), wd A) := by
  rw [zC_of zh41]
  rcases (show k = 0 ∨ k = 1 ∨ k = 2 ∨ k = 3 ∨ k = 4 ∨ k = 5 ∨ k = 6 ∨ k = 7 ∨ k = 8 ∨ k = 9 ∨ k = 10 ∨ k = 11 ∨ k = 12 by omega) with rfl | rfl | rfl | rfl | rfl | rfl | rfl | rfl | rfl | rfl | rfl | rfl | rfl
  · exact (b41_0_c0 rfl).trans (b41_64 (o_gf (o_st hp) rfl))
  · exact (b41_0_c1 rfl).trans (b41_69 (o_gf (o_st hp) rfl) (o_ob (o_mb hp)) (m_count hp ho.1 (by omega)))
  · exact (b41_0_c2 rfl).trans (b41_79 (o_ob (o_st hp)) (s_overAll hp ho (by omega)))
  · exact (b41_0_c3 rfl).trans (b41_85 (o_gf (o_st hp) rfl) (o_ob (o_mb hp)) (m_sum hp ho.1 ho.2.1 (by omega)))
  · exact (b41_0_c4 rfl).trans (b41_95 (o_ob (o_st hp)) (s_overAll hp ho (by omega)))
  · exact (b41_0_c5 rfl).trans (b41_101 (o_gf (o_st hp) rfl))
  · exact (b41_0_c6 rfl).trans (b41_106 (o_gf (o_st hp) rfl))
  · exact (b41_0_c7 rfl).trans (b41_111 (o_gf (o_st hp) rfl))
  · exact (b41_0_c8 rfl).trans (b41_116 (o_ob (o_st hp)) (s_overAll hp ho (by omega)))
  · exact (b41_0_c9 rfl).trans (b41_122 (o_ob (o_st hp)) (s_spread hp ho (by omega)))
  · exact (b41_0_c10 rfl).trans (b41_128 (o_ob (o_st hp)) (s_spread hp ho (by omega)))
  · exact (b41_0_c11 rfl).trans (b41_134 (o_gf (o_st hp) rfl))
  · exact (b41_0_d (Or.inr (by decide))).trans (b41_139 (o_gf (o_st hp) rfl))
theorem s_objects (hp : zsb p) (ho : cOk A p) {m : Nat} (hm : m < 4) (x : Int32) : zC scr 39 [.ref p, .int (nI m), .int x] (wd A) = some (some (.int (if nI (A p 7) < x ∧ 0 < A (p + 7) m then nI 1 else nI 0)), wd A) := by
  have h1 := ho.2.2.2.2.2.2 m hm
  rw [zC_of zh39]
  refine (b39_0 (o_gf (o_st hp) rfl)).trans ?_
  by_cases c1 : nI (A p 7) < x
  · rw [if_pos c1]
    refine (b39_8 (o_gf (o_st hp) rfl) (w_al (zw7 hp) hm (by omega))).trans ?_
    by_cases c2 : 0 < A (p + 7) m
    · rw [i_pos c2 (by omega), if_pos ⟨c1, c2⟩]; exact b39_17
    · rw [i_npos (by omega), if_neg (fun q => c2 q.2)]; exact b39_21
  · rw [if_neg c1, if_neg (fun q => c1 q.1)]; exact b39_21
/-- who vetoes: v1, v2 the values that are given, m1, m2 the mothers, their vetoes, the patience -/
def vto (pa v1 v2 m1 m2 t1 t2 : Nat) : Int32 := if pa + v2 < v1 ∧ 0 < t1 then nI m1 else if pa + v1 < v2 ∧ 0 < t2 then nI m2 else -6
theorem s_vetoer {i g j : Nat} (hp : zsb p) (ho : cOk A p) (hh : h < A p 1) (hg : g < A p 1) (hi : A (p + 3) h + i < 120) (hj : A (p + 3) g + j < 120) : zC scr 38 [.ref p, .int (nI h), .int (nI i), .int (nI g), .int (nI j)] (wd A) = some (some (.int (vto (A p 7) (A (p + 2) (A (p + 3) h + i) % 10) (A (p + 2) (A (p + 3) g + j) % 10) (A (p + 4) h) (A (p + 4) g) (A (p + 7) (A (p + 4) h)) (A (p + 7) (A (p + 4) g)))), wd A) := by
  obtain ⟨hm, hs, hn, hw, hr, hpa, hv⟩ := id ho
  have e1 := hs _ hi
  have e2 := hs _ hj
  have e3 := Nat.mod_lt (A (p + 2) (A (p + 3) h + i)) (show 0 < 10 by omega)
  have e4 := Nat.mod_lt (A (p + 2) (A (p + 3) g + j)) (show 0 < 10 by omega)
  rw [zC_of zh38]
  refine (b38_0 (o_gf (o_st hp) rfl) (o_ob (o_mb hp)) (m_value hp (by omega) hi (by omega)) (o_gf (o_st hp) rfl) (o_ob (o_mb hp)) (m_value hp (by omega) hj (by omega)) (o_gf (o_st hp) rfl) (w_al (zw4 hp) (by omega) (by omega)) (o_ob (o_st hp)) (s_objects hp ho (hw h hh).1 _)).trans ?_
  unfold vto
  by_cases c1 : A p 7 + A (p + 2) (A (p + 3) g + j) % 10 < A (p + 2) (A (p + 3) h + i) % 10 ∧ 0 < A (p + 7) (A (p + 4) h)
  · rw [if_pos (show nI (A p 7) < _ ∧ _ by rw [n_ltS (by omega) (by omega) (by omega)]; exact c1), if_pos c1, if_neg (by decide)]
    exact b38_37 (o_gf (o_st hp) rfl) (w_al (zw4 hp) (by omega) (by omega))
  · rw [if_neg (show ¬ (nI (A p 7) < _ ∧ _) by rw [n_ltS (by omega) (by omega) (by omega)]; exact c1), if_neg c1, if_pos (by decide)]
    refine (b38_44 (o_gf (o_st hp) rfl) (w_al (zw4 hp) (by omega) (by omega)) (o_ob (o_st hp)) (s_objects hp ho (hw g hg).1 _)).trans ?_
    by_cases c2 : A p 7 + A (p + 2) (A (p + 3) h + i) % 10 < A (p + 2) (A (p + 3) g + j) % 10 ∧ 0 < A (p + 7) (A (p + 4) g)
    · rw [if_pos (show nI (A p 7) < _ ∧ _ by rw [n_ltN (by omega) (by omega) (by omega)]; exact c2), if_pos c2, if_neg (by decide)]
      exact b38_60 (o_gf (o_st hp) rfl) (w_al (zw4 hp) (by omega) (by omega))
    · rw [if_neg (show ¬ (nI (A p 7) < _ ∧ _) by rw [n_ltN (by omega) (by omega) (by omega)]; exact c2), if_neg c2, if_pos (by decide)]
      exact b38_69
end S2
