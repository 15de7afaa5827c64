/-! what holds between calls -/
def zIR (A : Nat → Nat → Nat) : Prop := (A 0 3 = A 70 5 ∧ A 0 3 ≤ 1 ∧ (A 0 3 = 1 → zRR A 17 (A 74))) ∧ (pastOk A ∧ A 25 1 = A 70 3 ∧ ∀ k, k < A 25 1 → zRR A (A 26 k) (fun i => A 73 (190 * k + i))) ∧ zTX A
def zIV (A : Nat → Nat → Nat) : Prop := zRR A 1 (A 71) ∧ zIR A
/-- the history with one state more -/
def rcK (A : Nat → Nat → Nat) : Nat := if A 70 3 = 5 then 4 else A 70 3
def rc0 (A : Nat → Nat → Nat) (i : Nat) : Nat := if A 70 3 = 5 ∧ i < 760 then A 73 (i + 190) else A 73 i
def rcA (A : Nat → Nat → Nat) : Nat → Nat → Nat := fun c i => if c = 73 then (if 190 * rcK A ≤ i ∧ i < 190 * rcK A + 190 then A 71 (i - 190 * rcK A) else rc0 A i) else if c = 70 ∧ i = 3 then rcK A + 1 else A c i
section IV
variable {A B : Nat → Nat → Nat} {b c : Nat → Nat} {p q h k g n m i j t : Nat} {scr : List Int32}
theorem ir_of (h : ∀ c i, (c = 0 ∨ (17 ≤ c ∧ c ≠ 69 ∧ c ≠ 71 ∧ c ≠ 72 ∧ c ≠ 76 ∧ ¬ (c = 70 ∧ i = 9))) → B c i = A c i) (hr : zIR A) : zIR B := by
  obtain ⟨⟨a1, a2, a3⟩, ⟨⟨p1, p2, p3⟩, p4, p5⟩, ⟨⟨t1, t2⟩, t3, t4⟩⟩ := hr
  have e0 : B 0 3 = A 0 3 := h _ _ (by omega)
  have e25 : B 25 1 = A 25 1 := h _ _ (by omega)
  have e67 : B 67 1 = A 67 1 := h _ _ (by omega)
  have e26 : ∀ i, B 26 i = A 26 i := fun i => h _ _ (by omega)
  refine ⟨⟨?_, ?_, fun q => ?_⟩, ⟨⟨?_, fun i hi => ?_, fun i j hi hj he => ?_⟩, ?_, fun k hk => ?_⟩, ⟨⟨?_, fun i hi => ?_⟩, ?_, fun i hi => ?_⟩⟩
  · rw [e0, h 70 5 (by omega)]; exact a1
  · rw [e0]; exact a2
  · rw [e0] at q
    exact zRR_move (fun t i ht => h _ _ (by omega)) (fun i _ => h _ _ (by omega)) (a3 q)
  · rw [e25]; exact p1
  · rw [e26]; exact p2 i hi
  · rw [e26, e26] at he; exact p3 i j hi hj he
  · rw [e25, h 70 3 (by omega)]; exact p4
  · rw [e25] at hk
    have hz := p2 k (by omega)
    rw [e26]
    exact zRR_move (fun t i ht => h _ _ (by have := hz.1; unfold zsb at this; omega)) (fun i _ => h _ _ (by omega)) (p5 k hk)
  · rw [e67]; exact t1
  · rw [e67] at hi
    rw [h 68 _ (by omega)]; exact t2 i hi
  · rw [e67, h 70 7 (by omega)]; exact t3
  · rw [e67] at hi
    rw [h 68 _ (by omega), h 75 _ (by omega)]; exact t4 i hi
theorem rc_off {c i : Nat} (h1 : c ≠ 73) (h2 : ¬ (c = 70 ∧ i = 3)) : rcA A c i = A c i := by
  unfold rcA
  rw [if_neg h1, if_neg h2]
theorem kp0_off {c i : Nat} (h1 : c ≠ 25) (h2 : c ≠ 26) : kp0 A c i = A c i := by
  unfold kp0
  by_cases e : A 25 1 < 5
  · rw [if_pos e]
  · rw [if_neg e]
    unfold dsA
    rw [if_neg (by omega), if_neg (by omega), if_neg (by omega)]
theorem kp_off (ho : pastOk A) {c i : Nat} (h : ¬ (25 ≤ c ∧ c < 67)) : kpA A p c i = A c i := by
  have hk := kp0_ok ho
  have hz := hk.1.2.1 _ hk.2
  have hz1 := hz.1
  unfold zsb at hz1
  unfold kpA
  rw [up_ne (by omega)]
  simp only [cpS]
  rw [if_neg (by omega), kp0_off (by omega) (by omega)]
theorem kp_past (hi : zIV A) : pastOk (kpA A 1) ∧ kpA A 1 25 1 = rcK A + 1 ∧ (∀ k, k < rcK A → zRR (kpA A 1) (kpA A 1 26 k) (fun i => rc0 A (190 * k + i))) ∧ zRR (kpA A 1) (kpA A 1 26 (rcK A)) (A 71) ∧ rcK A < 5 := by
  obtain ⟨hn, -, ⟨ho, p4, p5⟩, -⟩ := hi
  have h5 := ho.1
  have hk := kp0_ok ho
  have hz := hk.1.2.1 _ hk.2
  have eK : kp0 A 25 1 = rcK A := by
    unfold kp0 rcK
    by_cases e : A 25 1 < 5
    · rw [if_pos e, if_neg (by omega)]; exact p4
    · rw [if_neg e, if_pos (by omega)]
      simp [dsA]
  have e26 : ∀ i, kpA A 1 26 i = kp0 A 26 i := fun i => by
    unfold kpA
    rw [up_ne (by omega)]
    simp only [cpS]
    have hz1 := hz.1
    unfold zsb at hz1
    rw [if_neg (by omega)]
  have e25 : kpA A 1 25 1 = rcK A + 1 := by
    unfold kpA
    rw [up_eq, eK]
  refine ⟨⟨by rw [e25, ← eK]; omega, fun i hi => by rw [e26]; exact hk.1.2.1 i hi, fun i j hi hj he => ?_⟩, e25, fun k hk2 => ?_, ?_, by rw [← eK]; exact hk.2⟩
  · rw [e26, e26] at he
    exact hk.1.2.2 i j hi hj he
  · have hzk := hk.1.2.1 k (by omega)
    have hne : kp0 A 26 k ≠ kp0 A 26 (kp0 A 25 1) := fun e => by
      have := hk.1.2.2 k _ (by omega) hk.2 e
      omega
    have hap := zsb_apart hzk.1 hz.1 hne
    have hzk1 := hzk.1
    unfold zsb at hzk1
    -- which one of the old ones
    obtain ⟨k', k1, k2, k3⟩ : ∃ k', k' < A 25 1 ∧ kp0 A 26 k = A 26 k' ∧ ∀ i, i < 190 → rc0 A (190 * k + i) = A 73 (190 * k' + i) := by
      unfold kp0
      unfold rcK at hk2
      by_cases e : A 25 1 < 5
      · rw [if_neg (by omega)] at hk2
        rw [if_pos e]
        refine ⟨k, by omega, rfl, fun i hi => ?_⟩
        unfold rc0
        rw [if_neg (by omega)]
      · rw [if_pos (by omega)] at hk2
        rw [if_neg e]
        refine ⟨k + 1, by omega, by simp only [dsA]; rw [if_pos ⟨trivial, hk2⟩], fun i hi => ?_⟩
        unfold rc0
        rw [if_pos (by omega)]
        exact congrArg (A 73) (by omega)
    rw [e26, k2]
    rw [k2] at hap hzk1
    refine zRR_move (fun t i ht => ?_) (fun i hi => k3 i hi) (p5 k' k1)
    unfold kpA
    rw [up_ne (by omega)]
    simp only [cpS]
    rw [if_neg (by omega), kp0_off (by omega) (by omega)]
  · have hz1 := hz.1
    unfold zsb at hz1
    rw [e26, ← eK]
    refine zRR_move (fun t i ht => ?_) (fun _ _ => rfl) hn
    unfold kpA
    rw [up_ne (by omega)]
    simp only [cpS]
    rw [if_pos (by omega), kp0_off (by omega) (by omega)]
    exact zAe (by omega) rfl
/-- the past with one state more, on both sides -/
theorem ir_rec (hi : zIV A) (h : ∀ c i, (c = 0 ∨ (17 ≤ c ∧ c ≠ 69)) → B c i = kpA A 1 c i) : zIR (rcA B) ∧ rcA B 71 = A 71 := by
  obtain ⟨kp1, kp2, kp3, kp4, kp5⟩ := kp_past hi
  obtain ⟨hn, ⟨a1, a2, a3⟩, ⟨ho, p4, p5⟩, ⟨⟨t1, t2⟩, t3, t4⟩⟩ := hi
  have hB : ∀ c i, (c = 0 ∨ (17 ≤ c ∧ c ≠ 69)) → ¬ (25 ≤ c ∧ c < 67) → B c i = A c i := fun c i h1 h2 => by rw [h c i h1, kp_off ho h2]
  have e703 : B 70 3 = A 70 3 := hB _ _ (by omega) (by omega)
  have eK : rcK B = rcK A := by unfold rcK; rw [e703]
  have e0 : ∀ i, rc0 B i = rc0 A i := fun i => by
    unfold rc0
    rw [e703, hB 73 _ (by omega) (by omega), hB 73 _ (by omega) (by omega)]
  have e71 : ∀ i, B 71 i = A 71 i := fun i => hB _ _ (by omega) (by omega)
  have e73 : ∀ i, rcA B 73 i = if 190 * rcK A ≤ i ∧ i < 190 * rcK A + 190 then A 71 (i - 190 * rcK A) else rc0 A i := fun i => by
    unfold rcA
    rw [if_pos rfl, eK, e71, e0]
  have eo : ∀ c i, (c = 0 ∨ (17 ≤ c ∧ c ≠ 69 ∧ c ≠ 73 ∧ ¬ (c = 70 ∧ i = 3))) → rcA B c i = kpA A 1 c i := fun c i h1 => by
    rw [rc_off (by omega) (by omega), h c i (by omega)]
  have e25 : rcA B 25 1 = rcK A + 1 := by rw [eo _ _ (by omega)]; exact kp2
  have e26 : ∀ i, rcA B 26 i = kpA A 1 26 i := fun i => eo _ _ (by omega)
  have eq : ∀ c i, (c = 0 ∨ (17 ≤ c ∧ c ≠ 69 ∧ c ≠ 73 ∧ ¬ (c = 70 ∧ i = 3))) → ¬ (25 ≤ c ∧ c < 67) → rcA B c i = A c i := fun c i h1 h2 => by rw [eo c i h1, kp_off ho h2]
  refine ⟨⟨⟨?_, ?_, fun q => ?_⟩, ⟨⟨?_, fun i hi => ?_, fun i j hi hj he => ?_⟩, ?_, fun k hk => ?_⟩, ⟨⟨?_, fun i hi => ?_⟩, ?_, fun i hi => ?_⟩⟩, ?_⟩
  · rw [eq 0 3 (by omega) (by omega), eq 70 5 (by omega) (by omega)]; exact a1
  · rw [eq 0 3 (by omega) (by omega)]; exact a2
  · rw [eq 0 3 (by omega) (by omega)] at q
    exact zRR_move (fun t i ht => eq _ _ (by omega) (by omega)) (fun i _ => eq _ _ (by omega) (by omega)) (a3 q)
  · rw [e25]; omega
  · rw [e26]; exact kp1.2.1 i hi
  · rw [e26, e26] at he
    exact kp1.2.2 i j hi hj he
  · rw [e25]
    unfold rcA
    rw [if_neg (by omega), if_pos ⟨rfl, rfl⟩, eK]
  · rw [e25] at hk
    have hz := (kp1.2.1 k (by omega)).1
    have hz2 := (kp1.2.1 k (by omega)).2
    unfold zsb at hz
    rw [e26]
    have mv : ∀ t i, t < 8 → rcA B (kpA A 1 26 k + t) i = kpA A 1 (kpA A 1 26 k + t) i := fun t i ht => eo _ _ (by omega)
    by_cases e : k = rcK A
    · subst e
      refine zRR_move mv (fun i hi => ?_) kp4
      rw [e73, if_pos (by omega)]
      exact congrArg (A 71) (by omega)
    · refine zRR_move mv (fun i hi => ?_) (kp3 k (by omega))
      rw [e73, if_neg (by omega)]
  · rw [eq 67 1 (by omega) (by omega)]; exact t1
  · rw [eq 67 1 (by omega) (by omega)] at hi
    rw [eq 68 _ (by omega) (by omega)]; exact t2 i hi
  · rw [eq 67 1 (by omega) (by omega), eq 70 7 (by omega) (by omega)]; exact t3
  · rw [eq 67 1 (by omega) (by omega)] at hi
    rw [eq 68 _ (by omega) (by omega), eq 75 _ (by omega) (by omega)]; exact t4 i hi
  · funext i
    rw [eq 71 i (by omega) (by omega)]
end IV
