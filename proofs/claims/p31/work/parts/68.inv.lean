/-! what holds between calls: the State is like a row, and so is each State that is recorded -/
theorem z1 : zsb 1 := Or.inl rfl
theorem z9 : zsb 9 := Or.inr (Or.inl rfl)
/-- the k-th recorded State from the newest one is like the row b -/
def tk (A : Nat → Nat → Nat) (k : Nat) (b : Nat → Nat) : Prop := k < A 25 1 ∧ zRR A (A 26 (A 25 1 - 1 - k)) b
def pvK (A : Nat → Nat → Nat) : Prop := pastOk A ∧ ∀ k, k < A 25 1 → ∃ b, tk A k b
def pvA (A : Nat → Nat → Nat) (b : Nat → Nat) : Prop := zRR A 1 b ∧ pvK A
section IV
variable {A B : Nat → Nat → Nat} {b c : Nat → Nat} {p q h k g n m i j t : Nat} {scr : List Int32}
theorem kp0_off {c i : Nat} (h1 : c ≠ 25) (h2 : c ≠ 26) : kp0 A c i = A c i := by
  unfold kp0
  by_cases e : A 25 1 < 5
  · rw [if_pos e]
  · rw [if_neg e]
    unfold dsA
    rw [if_neg (by omega), if_neg (by omega), if_neg (by omega)]
theorem kp_off (ho : pastOk A) {c i : Nat} (h : ¬ (25 ≤ c ∧ c < 67)) : kpA A p c i = A c i := by
  have hk := kp0_ok ho
  have hz := hk.1.2.1 _ hk.2
  have hz1 := hz.1
  unfold zsb at hz1
  unfold kpA
  rw [up_ne (by omega)]
  simp only [cpS]
  rw [if_neg (by omega), kp0_off (by omega) (by omega)]
theorem kp_26 (ho : pastOk A) (i : Nat) : kpA A p 26 i = kp0 A 26 i := by
  have hk := kp0_ok ho
  have hz := hk.1.2.1 _ hk.2
  have hz1 := hz.1
  unfold zsb at hz1
  unfold kpA
  rw [up_ne (by omega)]
  simp only [cpS]
  rw [if_neg (by omega)]
theorem kp_25 : kpA A p 25 1 = kp0 A 25 1 + 1 := by
  unfold kpA
  rw [up_eq]
theorem kp0_25 : kp0 A 25 1 = if A 25 1 < 5 then A 25 1 else 4 := by
  unfold kp0
  by_cases e : A 25 1 < 5
  · rw [if_pos e, if_pos e]
  · rw [if_neg e, if_neg e]
    simp [dsA]
theorem kp_ok (ho : pastOk A) : pastOk (kpA A p) := by
  have hk := kp0_ok ho
  refine ⟨by rw [kp_25]; omega, fun i hi => by rw [kp_26 ho]; exact hk.1.2.1 i hi, fun i j hi hj he => ?_⟩
  rw [kp_26 ho, kp_26 ho] at he
  exact hk.1.2.2 i j hi hj he
theorem kp_row (ho : pastOk A) (hr : zRR A 1 b) : zRR (kpA A 1) 1 b := zRR_move (fun t i ht => kp_off ho (by omega)) (fun _ _ => rfl) hr
theorem kp_top (ho : pastOk A) (hr : zRR A 1 b) : tk (kpA A 1) 0 b := by
  have hk := kp0_ok ho
  have hz := hk.1.2.1 _ hk.2
  have hz1 := hz.1
  unfold zsb at hz1
  refine ⟨by rw [kp_25]; omega, ?_⟩
  rw [kp_25, kp_26 ho, Nat.sub_zero, Nat.add_sub_cancel]
  refine zRR_move (fun t i ht => ?_) (fun _ _ => rfl) hr
  unfold kpA
  rw [up_ne (by omega)]
  simp only [cpS]
  rw [if_pos (by omega), kp0_off (by omega) (by omega)]
  exact zAe (by omega) rfl
theorem kp_tk (ho : pastOk A) (hk4 : k < 4) (ht : tk A k c) : tk (kpA A 1) (k + 1) c := by
  obtain ⟨t1, t2⟩ := ht
  have hk := kp0_ok ho
  have hz := hk.1.2.1 _ hk.2
  have h5 := ho.1
  have e25 := kp0_25 (A := A)
  have hc : k + 1 < kp0 A 25 1 + 1 := by
    rw [e25]
    split <;> omega
  refine ⟨by rw [kp_25]; exact hc, ?_⟩
  have e2 : kp0 A 26 (kp0 A 25 1 - 1 - k) = A 26 (A 25 1 - 1 - k) := by
    rw [e25]
    unfold kp0
    by_cases e : A 25 1 < 5
    · rw [if_pos e, if_pos e]
    · rw [if_neg e, if_neg e]
      unfold dsA
      rw [if_pos ⟨rfl, by omega⟩]
      exact zAe rfl (by omega)
  rw [kp_25, kp_26 ho, show kp0 A 25 1 + 1 - 1 - (k + 1) = kp0 A 25 1 - 1 - k by omega, e2]
  have hzk := hk.1.2.1 (kp0 A 25 1 - 1 - k) (by omega)
  have hne : kp0 A 26 (kp0 A 25 1 - 1 - k) ≠ kp0 A 26 (kp0 A 25 1) := fun e => by
    have := hk.1.2.2 _ _ (by omega) hk.2 e
    omega
  have hap := zsb_apart hzk.1 hz.1 hne
  have hzk1 := hzk.1
  unfold zsb at hzk1
  rw [e2] at hap hzk1
  refine zRR_move (fun t i ht => ?_) (fun _ _ => rfl) t2
  unfold kpA
  rw [up_ne (by omega)]
  simp only [cpS]
  rw [if_neg (by omega), kp0_off (by omega) (by omega)]
theorem tk_move (ho : pastOk A) (h : ∀ c i, 25 ≤ c → c < 67 → B c i = A c i) (ht : tk A k b) : tk B k b := by
  obtain ⟨t1, t2⟩ := ht
  have h5 := ho.1
  have hz := (ho.2.1 (A 25 1 - 1 - k) (by omega))
  have hz1 := hz.1
  unfold zsb at hz1
  refine ⟨by rw [h _ _ (by omega) (by omega)]; exact t1, ?_⟩
  rw [h 25 _ (by omega) (by omega), h 26 _ (by omega) (by omega)]
  exact zRR_move (fun t i ht => h _ _ (by omega) (by omega)) (fun _ _ => rfl) t2
theorem past_move (ho : pastOk A) (h : ∀ c i, 25 ≤ c → c < 67 → B c i = A c i) : pastOk B := by
  refine ⟨by rw [h _ _ (by omega) (by omega)]; exact ho.1, fun i hi => by rw [h _ _ (by omega) (by omega)]; exact ho.2.1 i hi, fun i j hi hj e => ?_⟩
  rw [h _ _ (by omega) (by omega), h _ _ (by omega) (by omega)] at e
  exact ho.2.2 i j hi hj e
theorem pvK_move (h : ∀ c i, 25 ≤ c → c < 67 → B c i = A c i) (hk : pvK A) : pvK B := by
  refine ⟨past_move hk.1 h, fun k hk2 => ?_⟩
  rw [h _ _ (by omega) (by omega)] at hk2
  obtain ⟨b, hb⟩ := hk.2 k hk2
  exact ⟨b, tk_move hk.1 h hb⟩
theorem pvK_kp (hr : zRR A 1 b) (hk : pvK A) : pvK (kpA A 1) := by
  refine ⟨kp_ok hk.1, fun k hk2 => ?_⟩
  rw [kp_25, kp0_25] at hk2
  have h5 := hk.1.1
  cases k with
  | zero => exact ⟨b, kp_top hk.1 hr⟩
  | succ k =>
    obtain ⟨c, hc⟩ := hk.2 k (by split at hk2 <;> omega)
    exact ⟨c, kp_tk hk.1 (by split at hk2 <;> omega) hc⟩
/-- a call that is recorded -/
theorem pv_rec (hi : pvA A b) (h : ∀ c i, 25 ≤ c → c < 67 → B c i = kpA A 1 c i) (hr : zRR B 1 c) : pvA B c := ⟨hr, pvK_move h (pvK_kp hi.1 hi.2)⟩
theorem pv_same (hi : pvA A b) (h : ∀ c i, (1 ≤ c ∧ c < 9) ∨ (25 ≤ c ∧ c < 67) → B c i = A c i) : pvA B b := ⟨zRR_move (fun t i ht => h _ _ (by omega)) (fun _ _ => rfl) hi.1, pvK_move (fun c i h1 h2 => h c i (by omega)) hi.2⟩
theorem keep1 (hi : pvA A b) : zC scr 21 [.ref 25, .ref 1] (wd A) = some (none, wd (kpA A 1)) := p_keep z1 (by omega) hi.2.1
/-- what undo takes back -/
theorem tb_off {c i : Nat} (h1 : ¬ (1 ≤ c ∧ c < 9)) (h2 : ¬ (c = 25 ∧ i = 1)) : tbA A 1 c i = A c i := by
  unfold tbA cpS
  rw [if_neg (by omega), up_ne h2]
theorem tb_25 : tbA A 1 25 1 = A 25 1 - 1 := by
  unfold tbA cpS
  rw [if_neg (by omega), up_eq]
theorem tb_row (ho : pastOk A) (ht : tk A 0 b) : zRR (tbA A 1) 1 b := by
  have hz := (ho.2.1 (A 25 1 - 1) (by have := ho.1; have := ht.1; omega))
  have hz1 := hz.1
  unfold zsb at hz1
  refine zRR_move (fun t i ht => ?_) (fun _ _ => rfl) ht.2
  unfold tbA cpS
  rw [if_pos (by omega), up_ne (by omega), Nat.sub_zero]
  exact zAe (by omega) rfl
theorem tb_ok (ho : pastOk A) : pastOk (tbA A 1) := by
  refine ⟨by rw [tb_25]; have := ho.1; omega, fun i hi => by rw [tb_off (by omega) (by omega)]; exact ho.2.1 i hi, fun i j hi hj e => ?_⟩
  rw [tb_off (by omega) (by omega), tb_off (by omega) (by omega)] at e
  exact ho.2.2 i j hi hj e
theorem tb_tk (ho : pastOk A) (ht : tk A (k + 1) b) : tk (tbA A 1) k b := by
  obtain ⟨t1, t2⟩ := ht
  have h5 := ho.1
  have hz := (ho.2.1 (A 25 1 - 1 - (k + 1)) (by omega))
  have hz1 := hz.1
  unfold zsb at hz1
  refine ⟨by rw [tb_25]; omega, ?_⟩
  rw [tb_25, tb_off (by omega) (by omega), show A 25 1 - 1 - 1 - k = A 25 1 - 1 - (k + 1) by omega]
  exact zRR_move (fun t i ht => tb_off (by omega) (by omega)) (fun _ _ => rfl) t2
theorem pvK_tb (hk : pvK A) : pvK (tbA A 1) := by
  refine ⟨tb_ok hk.1, fun k hk2 => ?_⟩
  rw [tb_25] at hk2
  obtain ⟨b, hb⟩ := hk.2 (k + 1) (by omega)
  exact ⟨b, tb_tk hk.1 hb⟩
end IV
