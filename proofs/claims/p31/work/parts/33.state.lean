/-! MarbleHeirs$State: its methods, on the heap as numbers -/
section ST
variable {A B : Nat → Nat → Nat} {p q h : Nat} {scr : List Int32}
theorem wd_ext2 (h : ∀ k, k < 70 → zcell A k = zcell B k) : wd A = wd B := by
  unfold wd
  exact List.map_congr_left (fun k hk => h k (List.mem_range.mp hk))
theorem zcell_rowc {k n : Nat} (hk : zra k n) (h : ∀ i, i < n → A k i = B k i) : zcell A k = zcell B k := by
  rw [hk.2, hk.2]
  unfold zrow
  exact congrArg Sum.inl (List.map_congr_left (fun i hi => by rw [h i (List.mem_range.mp hi)]))
/-- a State is laid over another -/
def cpS (A : Nat → Nat → Nat) (q p : Nat) : Nat → Nat → Nat := fun c i => if p ≤ c ∧ c < p + 8 then A (q + (c - p)) i else A c i
theorem zsb_apart (hp : zsb p) (hq : zsb q) (hne : p ≠ q) : p + 8 ≤ q ∨ q + 8 ≤ p := by
  unfold zsb at hp hq
  omega
theorem m_copy (hp : zsb p) (hq : zsb q) : zC scr 7 [.ref (p + 1), .ref (q + 1)] (wd A) = some (none, wd (cpA (cpA A (q + 2) 0 (p + 2) 0 120) (q + 3) 0 (p + 3) 0 8)) := by
  rw [zC_of zh7]
  exact b7_0 (o_gf (o_mb hq) rfl) (o_gf (o_mb hp) rfl) (w_cp (zw2 hq) (zw2 hp) (by omega) (by omega) (by omega)) (o_gf (o_mb hq) rfl) (o_gf (o_mb hp) rfl) (w_cp (zw3 hq) (zw3 hp) (by omega) (by omega) (by omega))
theorem s_pf (f x : Nat) (hp : zsb p) (hf : f = 1 ∨ f = 6 ∨ f = 7 ∨ f = 8 ∨ f = 9 ∨ f = 10) : zpf (wd A) p 3 f (.int (nI x)) = some (wd (up A p f x)) := by
  refine o_pf (o_st hp) ?_ (o_st hp) ?_
  · rcases hf with rfl | rfl | rfl | rfl | rfl | rfl <;> (show _ < 11; omega)
  · rcases hf with rfl | rfl | rfl | rfl | rfl | rfl <;> simp [up]
theorem cpS_of {F : Nat → Nat → Nat} (hp : zsb p) (h1 : ∀ f, (f = 1 ∨ f = 6 ∨ f = 7 ∨ f = 8 ∨ f = 9 ∨ f = 10) → F p f = A q f) (h2 : ∀ t i, 2 ≤ t → t ≤ 7 → i < zsl t → F (p + t) i = A (q + t) i) (h3 : ∀ c i, ¬ (p ≤ c ∧ c < p + 8) → F c i = A c i) : wd F = wd (cpS A q p) := by
  have e : ∀ t i, t < 8 → cpS A q p (p + t) i = A (q + t) i := fun t i ht => by
    simp only [cpS]
    rw [if_pos (by omega), show p + t - p = t by omega]
  refine wd_ext2 fun k hk => ?_
  by_cases hin : p ≤ k ∧ k < p + 8
  · obtain ⟨t, rfl, ht⟩ : ∃ t, k = p + t ∧ t < 8 := ⟨k - p, by omega, by omega⟩
    by_cases ht2 : 2 ≤ t
    · exact zcell_rowc (zra_st hp ht2 (by omega)) fun i hi => by rw [h2 t i ht2 (by omega) hi, e t i ht]
    · rcases (show t = 0 ∨ t = 1 by omega) with rfl | rfl
      · show zcell F p = zcell _ p
        have e0 : ∀ i, cpS A q p p i = A q i := fun i => e 0 i (by omega)
        rw [(o_st hp).2, (o_st hp).2]
        simp only [e0, h1 1 (by omega), h1 6 (by omega), h1 7 (by omega), h1 8 (by omega), h1 9 (by omega), h1 10 (by omega)]
      · rw [(o_mb hp).2, (o_mb hp).2]
  · refine zcell_congr fun i => ?_
    rw [h3 k i hin]
    simp only [cpS]
    rw [if_neg hin]
theorem s_gf (f : Nat) (hp : zsb p) (hf : f = 1 ∨ f = 6 ∨ f = 7 ∨ f = 8 ∨ f = 9 ∨ f = 10) : zgf (wd A) p 3 f = some (.int (nI (A p f))) := by
  refine o_gf (o_st hp) ?_
  rcases hf with rfl | rfl | rfl | rfl | rfl | rfl <;> rfl
set_option maxHeartbeats 4000000 in
theorem s_copyFrom (hp : zsb p) (hq : zsb q) (hne : p ≠ q) : zC scr 25 [.ref p, .ref q] (wd A) = some (none, wd (cpS A q p)) := by
  have hap := zsb_apart hp hq hne
  rw [zC_of zh25]
  refine (b25_0 (f3 := nI (A q 1)) (f12 := nI (A q 6)) (f13 := nI (A q 7)) (f14 := nI (A q 8)) (f15 := nI (A q 9)) (f16 := nI (A q 10)) (o_gf (o_st hp) rfl) (o_gf (o_st hq) rfl) (o_ob (o_mb hp)) (m_copy hp hq) (by rw [s_gf 1 hq (by omega)]; simp only [up, cpA]; (repeat rw [if_neg (by omega)])) (s_pf 1 _ hp (by omega)) (o_gf (o_st hq) rfl) (o_gf (o_st hp) rfl) (w_cp (zw4 hq) (zw4 hp) (by omega) (by omega) (by omega)) (o_gf (o_st hq) rfl) (o_gf (o_st hp) rfl) (w_cp (zw5 hq) (zw5 hp) (by omega) (by omega) (by omega)) (o_gf (o_st hq) rfl) (o_gf (o_st hp) rfl) (w_cp (zw6 hq) (zw6 hp) (by omega) (by omega) (by omega)) (o_gf (o_st hq) rfl) (o_gf (o_st hp) rfl) (w_cp (zw7 hq) (zw7 hp) (by omega) (by omega) (by omega)) (by rw [s_gf 6 hq (by omega)]; simp only [up, cpA]; (repeat rw [if_neg (by omega)])) (s_pf 6 _ hp (by omega)) (by rw [s_gf 7 hq (by omega)]; simp only [up, cpA]; (repeat rw [if_neg (by omega)])) (s_pf 7 _ hp (by omega)) (by rw [s_gf 8 hq (by omega)]; simp only [up, cpA]; (repeat rw [if_neg (by omega)])) (s_pf 8 _ hp (by omega)) (by rw [s_gf 9 hq (by omega)]; simp only [up, cpA]; (repeat rw [if_neg (by omega)])) (s_pf 9 _ hp (by omega)) (by rw [s_gf 10 hq (by omega)]; simp only [up, cpA]; (repeat rw [if_neg (by omega)])) (s_pf 10 _ hp (by omega))).trans ?_
  refine congrArg (fun w => some (none, w)) (cpS_of hp ?_ ?_ ?_)
  · intro f hf
    rcases hf with rfl | rfl | rfl | rfl | rfl | rfl <;> simp only [up, cpA, true_and, and_true] <;> (repeat first | rw [if_neg (by omega)] | rw [if_pos (by omega)] | rw [if_pos trivial])
  · intro t i h2 h7 hi
    rcases (show t = 2 ∨ t = 3 ∨ t = 4 ∨ t = 5 ∨ t = 6 ∨ t = 7 by omega) with rfl | rfl | rfl | rfl | rfl | rfl <;> simp only [zsl] at hi <;> simp only [up, cpA, true_and, and_true] <;> (repeat first | rw [if_neg (by omega)] | rw [if_pos (by omega)]) <;> exact zAe (by omega) (by omega)
  · intro c i hc
    simp only [up, cpA]
    repeat rw [if_neg (by omega)]
theorem s_hasHeir (hp : zsb p) (x : Int32) : zC scr 26 [.ref p, .int x] (wd A) = some (some (.int (if ¬ x < 0 ∧ x < nI (A p 1) then nI 1 else nI 0)), wd A) := by
  rw [zC_of zh26]
  refine b26_0.trans ?_
  by_cases h0 : x < 0
  · rw [if_pos h0, if_neg (fun q => q.1 h0)]; exact b26_16
  · rw [if_neg h0]
    refine (b26_4 (o_gf (o_st hp) rfl)).trans ?_
    by_cases h1 : x < nI (A p 1)
    · rw [if_pos h1, if_pos ⟨h0, h1⟩]; exact b26_12
    · rw [if_neg h1, if_neg (fun q => h1 q.2)]; exact b26_16
/-- an heir who is there, as a number; else the answer is no -/
theorem s_heir_cases (x : Int32) {n : Nat} (hn : n < 2147483648) : (∃ h, h < n ∧ x = nI h) ∨ ¬ (¬ x < 0 ∧ x < nI n) := by
  by_cases h0 : ¬ x < 0 ∧ x < nI n
  · obtain ⟨k, hk, rfl⟩ := n_of h0.1
    rw [n_lt hk hn] at h0
    exact Or.inl ⟨k, h0.2, rfl⟩
  · exact Or.inr h0
theorem s_hasHeir1 (hp : zsb p) (hh : h < A p 1) (hn : A p 1 < 2147483648) : zC scr 26 [.ref p, .int (nI h)] (wd A) = some (some (.int (nI 1)), wd A) := by
  rw [s_hasHeir hp, if_pos]
  rw [n_neg (by omega), n_lt (by omega) hn]
  exact ⟨id, hh⟩
theorem s_hasHeir0 (hp : zsb p) {x : Int32} (hx : ¬ (¬ x < 0 ∧ x < nI (A p 1))) : zC scr 26 [.ref p, .int x] (wd A) = some (some (.int (nI 0)), wd A) := by
  rw [s_hasHeir hp, if_neg hx]
/-- is there such a marble in the bag of such an heir -/
theorem s_hasMarble0 (hp : zsb p) {x : Int32} (y : Int32) (hx : ¬ (¬ x < 0 ∧ x < nI (A p 1))) : zC scr 27 [.ref p, .int x, .int y] (wd A) = some (some (.int (nI 0)), wd A) := by
  rw [zC_of zh27]
  refine (b27_0 (o_ob (o_st hp)) (s_hasHeir0 hp hx)).trans ?_
  rw [if_pos (by decide)]
  exact b27_24
theorem s_hasMarble1 (hp : zsb p) (hm : zmo A p) (hh : h < A p 1) (hn : A p 1 ≤ 6) (y : Int32) : zC scr 27 [.ref p, .int (nI h), .int y] (wd A) = some (some (.int (if ¬ y < 0 ∧ y < nI (zcnt A p h) then nI 1 else nI 0)), wd A) := by
  rw [zC_of zh27]
  refine (b27_0 (o_ob (o_st hp)) (s_hasHeir1 hp hh (by omega))).trans ?_
  rw [if_neg (by decide)]
  refine (b27_8 (o_gf (o_st hp) rfl) (o_ob (o_mb hp)) (m_has hp hm (by omega) y)).trans ?_
  by_cases h1 : ¬ y < 0 ∧ y < nI (zcnt A p h)
  · rw [if_pos h1, if_neg (by decide)]; exact b27_20
  · rw [if_neg h1, if_pos (by decide)]; exact b27_24
/-- an heir comes -/
def ahA (A : Nat → Nat → Nat) (p mo wi : Nat) : Nat → Nat → Nat := up (up (up (up A (p + 4) (A p 1) mo) (p + 5) (A p 1) wi) (p + 6) (A p 1) (A p 1)) p 1 (A p 1 + 1)
theorem s_addHeir {mo wi : Nat} (hp : zsb p) (hn : A p 1 < 6) : zC scr 28 [.ref p, .int (nI mo), .int (nI wi)] (wd A) = some (some (.int (nI (A p 1))), wd (ahA A p mo wi)) := by
  have e : up (up (up A (p + 4) (A p 1) mo) (p + 5) (A p 1) wi) (p + 6) (A p 1) (A p 1) p 1 = A p 1 := by
    simp only [up]
    repeat rw [if_neg (by omega)]
  rw [zC_of zh28]
  exact b28_0 (o_gf (o_st hp) rfl) (o_gf (o_st hp) rfl) (w_as _ (zw4 hp) hn (by omega)) (o_gf (o_st hp) rfl) (w_as _ (zw5 hp) hn (by omega)) (o_gf (o_st hp) rfl) (w_as _ (zw6 hp) hn (by omega)) (o_gf (o_st hp) rfl) (by rw [e, n_add]; exact s_pf 1 _ hp (by omega))
/-- where an heir stands in the order: the first such place, or the last one -/
def plc (A : Nat → Nat → Nat) (p x : Nat) : Nat → Nat → Nat
  | 0, t => t
  | n + 1, t => if A (p + 6) t = x then t else plc A p x n (t + 1)
theorem s_placeOf (hp : zsb p) (hh : h < A p 1) (hn : A p 1 ≤ 6) (hb : ∀ i, i < A p 1 → A (p + 6) i < 6) : zC scr 30 [.ref p, .int (nI h)] (wd A) = some (some (.int (nI (plc A p h (A p 1 - 1) 0))), wd A) := by
  rw [zC_of zh30]
  refine b30_0.trans ?_
  have key : ∀ n t, t + n = A p 1 - 1 → zd scr 30 2 [some (.ref p), some (.int (nI h)), some (.int (nI t))] [] (wd A) = some (some (.int (nI (plc A p h n t))), wd A) := by
    intro n
    induction n with
    | zero =>
      intro t ht
      refine (b30_2 (o_gf (o_st hp) rfl)).trans ?_
      rw [n_sub (by omega), i_nlt (by omega) (by omega)]
      exact b30_28
    | succ n ih =>
      intro t ht
      have := hb t (by omega)
      refine (b30_2 (o_gf (o_st hp) rfl)).trans ?_
      rw [n_sub (by omega), i_lt (by omega) (by omega)]
      refine (b30_12 (o_gf (o_st hp) rfl) (w_al (zw6 hp) (by omega) (by omega))).trans ?_
      unfold plc
      by_cases h1 : A (p + 6) t = h
      · rw [i_eq h1, if_pos h1]; exact b30_28
      · rw [i_ne h1 (by omega) (by omega), if_neg h1]
        refine b30_22.trans ?_
        rw [n_add]
        exact ih (t + 1) (by omega)
  exact key (A p 1 - 1) 0 (by omega)
end ST
