/-! the calls, on both sides: the buffer's, undo, save, restore -/
section OF
variable {A B : Nat → Nat → Nat} {b c : Nat → Nat} {p q h k g n m i j t : Nat} {scr : List Int32}
theorem ir_tx (h : ∀ c i, (c = 0 ∨ (17 ≤ c ∧ c ≠ 67 ∧ c ≠ 68 ∧ c ≠ 69 ∧ c ≠ 71 ∧ c ≠ 72 ∧ c ≠ 75 ∧ c ≠ 76 ∧ ¬ (c = 70 ∧ (i = 7 ∨ i = 9)))) → B c i = A c i) (ht : zTX B) (hr : zIR A) : zIR B := by
  obtain ⟨⟨a1, a2, a3⟩, ⟨⟨p1, p2, p3⟩, p4, p5⟩, -⟩ := hr
  have e0 : B 0 3 = A 0 3 := h _ _ (by omega)
  have e25 : B 25 1 = A 25 1 := h _ _ (by omega)
  have e26 : ∀ i, B 26 i = A 26 i := fun i => h _ _ (by omega)
  refine ⟨⟨?_, ?_, fun q => ?_⟩, ⟨⟨?_, fun i hi => ?_, fun i j hi hj he => ?_⟩, ?_, fun k hk => ?_⟩, ht⟩
  · rw [e0, h 70 5 (by omega)]; exact a1
  · rw [e0]; exact a2
  · rw [e0] at q
    exact zRR_move (fun t i ht => h _ _ (by omega)) (fun i _ => h _ _ (by omega)) (a3 q)
  · rw [e25]; exact p1
  · rw [e26]; exact p2 i hi
  · rw [e26, e26] at he; exact p3 i j hi hj he
  · rw [e25, h 70 3 (by omega)]; exact p4
  · rw [e25] at hk
    have hz := p2 k (by omega)
    rw [e26]
    exact zRR_move (fun t i ht => h _ _ (by have := hz.1; unfold zsb at this; omega)) (fun i _ => h _ _ (by omega)) (p5 k hk)
theorem op_append (x : Int32) : zOP scr 74 144 [.int x] := by
  intro A hi
  obtain ⟨hr, hir⟩ := id hi
  obtain ⟨-, -, ⟨⟨t1, t2⟩, t3, t4⟩⟩ := id hir
  by_cases hx : ¬ x < nI 33 ∧ x ≤ nI 126
  case neg =>
    refine ⟨-2, A, A, ?_, ?_, hi⟩
    · rw [zC_of zh74]
      refine b74_0.trans ?_
      by_cases c1 : x < nI 33
      · rw [if_pos c1]; exact b74_12
      · rw [if_neg c1]
        exact b74_6.trans ((if_pos (Int32.not_le.mp fun q => hx ⟨c1, q⟩)).trans b74_12)
    · rw [zC_of zh144]
      refine (b144_0 (r_in x _ _)).trans ?_
      rw [if_neg hx, if_pos (by decide)]; exact b144_11
  obtain ⟨c, hc, rfl⟩ : ∃ c, c < 2147483648 ∧ x = nI c := n_of (fun q => hx.1 (Int32.lt_trans q (by decide)))
  have c33 : 33 ≤ c ∧ c ≤ 126 := by
    obtain ⟨a1, a2⟩ := hx
    rw [n_lt hc (by omega)] at a1
    rw [n_le hc (by omega)] at a2
    omega
  have ec : zC scr 74 [.ref 0, .int (nI c)] (wd A) = if nI (A 67 1) < nI 50 then zd scr 74 30 [some (.ref 0), some (.int (nI c))] [] (wd A) else zd scr 74 27 [some (.ref 0), some (.int (nI c))] [] (wd A) := by
    rw [zC_of zh74]
    exact b74_0.trans ((i_nlt (by omega) (by omega)).trans (b74_6.trans ((i_nlt (by omega) (by omega)).trans (b74_15 (o_gf o_0 rfl) t_gf))))
  have er : ∀ B : Nat → Nat → Nat, B 70 7 = A 67 1 → zC scr 144 [.ref 70, .int (nI c)] (wd B) = if nI (A 67 1) = nI 50 then zd scr 144 23 [some (.ref 70), some (.int (nI c))] [] (wd B) else zd scr 144 26 [some (.ref 70), some (.int (nI c))] [] (wd B) := by
    intro B hB
    rw [zC_of zh144]
    refine (b144_0 (r_in _ _ _)).trans ?_
    rw [if_pos hx, if_neg (by decide), ← hB]
    exact b144_14 gR7
  by_cases hl : A 67 1 < 50
  case neg =>
    refine ⟨-4, A, A, ec.trans ?_, (er A t3).trans ?_, hi⟩
    · rw [i_nlt hl (by omega)]; exact b74_27
    · rw [i_eq (by omega)]; exact b144_23
  have e677 : txA A c 70 7 = A 67 1 := by
    unfold txA
    rw [up_ne (by omega), up_ne (by omega)]; exact t3
  have e671 : txA A c 67 1 = A 67 1 + 1 := up_eq
  have l2 : ∀ d i, ¬ (d = 68 ∧ i = A 67 1) → ¬ (d = 67 ∧ i = 1) → ¬ (d = 75 ∧ i = A 67 1) → ¬ (d = 70 ∧ i = 7) → up (up (txA A c) 75 (A 67 1) c) 70 7 (A 67 1 + 1) d i = A d i := fun d i h1 h2 h3 h4 => by
    rw [up_ne h4, up_ne h3]
    unfold txA
    rw [up_ne h2, up_ne h1]
  refine ⟨nI (A 67 1 + 1), txA A c, up (up (txA A c) 75 (A 67 1) c) 70 7 (A 67 1 + 1), ec.trans ?_, (er _ e677).trans ?_, ⟨zRR_move (fun t i ht => l2 _ _ (by omega) (by omega) (by omega) (by omega)) (fun i _ => l2 _ _ (by omega) (by omega) (by omega) (by omega)) hr, ir_tx (fun d i hd => l2 d i (by omega) (by omega) (by omega) (by omega)) ⟨⟨?_, fun i hi2 => ?_⟩, ?_, fun i hi2 => ?_⟩ hir⟩⟩
  · rw [i_lt hl (by omega)]
    exact b74_30 (f3 := nI (A 67 1 + 1)) (o_gf o_0 rfl) (o_ob o_67) (t_add hl) (o_gf o_0 rfl) (by rw [t_gf, e671])
  · rw [i_ne (by omega) (by omega) (by omega)]
    exact b144_26 (f2 := nI (A 67 1)) (f3 := nI (A 67 1)) (f4 := nI (A 67 1 + 1)) gR6 (by rw [gR7, e677]) (w_as _ zra75 hl (by omega)) (by rw [gR7, up_ne (by omega), e677]) (by rw [n_add, pR 7 _ (by omega)]) (by rw [gR7, up_eq])
  · rw [up_ne (by omega), up_ne (by omega), e671]; omega
  · rw [up_ne (by omega), up_ne (by omega), e671] at hi2
    rw [up_ne (by omega), up_ne (by omega)]
    unfold txA
    rw [up_ne (by omega)]
    by_cases e : i = A 67 1
    · rw [e, up_eq]; exact c33
    · rw [up_ne (by omega)]; exact t2 i (by omega)
  · rw [up_eq, up_ne (by omega), up_ne (by omega), e671]
  · rw [up_ne (by omega), up_ne (by omega), e671] at hi2
    rw [up_ne (by omega), up_ne (c := 68) (by omega), up_ne (c := 68) (by omega)]
    unfold txA
    rw [up_ne (c := 68) (by omega)]
    by_cases e : i = A 67 1
    · rw [e, up_eq, up_eq]
    · rw [up_ne (by omega), up_ne (by omega), up_ne (by omega), up_ne (by omega)]; exact t4 i (by omega)
theorem op_clearText : zOP scr 75 145 [] := by
  intro A hi
  obtain ⟨hr, hir⟩ := id hi
  obtain ⟨-, -, ⟨⟨t1, t2⟩, t3, t4⟩⟩ := id hir
  have l2 : ∀ d i, ¬ (d = 67 ∧ i = 1) → ¬ (d = 70 ∧ i = 7) → up (up A 67 1 0) 70 7 0 d i = A d i := fun d i h1 h2 => by
    rw [up_ne h2, up_ne h1]
  have e67 : up (up A 67 1 0) 70 7 0 67 1 = 0 := by rw [up_ne (by omega), up_eq]
  refine ⟨nI (A 67 1), up A 67 1 0, up (up A 67 1 0) 70 7 0, ?_, ?_, ⟨zRR_move (fun t i ht => l2 _ _ (by omega) (by omega)) (fun i _ => l2 _ _ (by omega) (by omega)) hr, ir_tx (fun d i hd => l2 d i (by omega) (by omega)) ⟨⟨?_, fun i hi2 => ?_⟩, ?_, fun i hi2 => ?_⟩ hir⟩⟩
  · rw [zC_of zh75]
    exact b75_0 (o_gf o_0 rfl) t_gf (o_gf o_0 rfl) (t_pf 0)
  · rw [zC_of zh145]
    exact b145_0 (f1 := nI (A 67 1)) (by rw [gR7, up_ne (by omega), t3]) (pR 7 0 (by omega))
  · rw [e67]; omega
  · rw [e67] at hi2; omega
  · rw [e67, up_eq]
  · rw [e67] at hi2; omega
theorem op_errorPosition : zOP scr 76 149 [] := by
  intro A hi
  obtain ⟨y, h1, -⟩ := r_goes0 (scr := scr) hi.2.2.2
  refine ⟨feN A (A 67 1) 0 0, A, up A 70 9 y, ?_, ?_, ⟨zRR_move (fun t i ht => up_ne (by omega)) (fun i _ => up_ne (by omega)) hi.1, ir_of (fun c i hc => up_ne (by omega)) hi.2⟩⟩
  · rw [zC_of zh76]
    exact b76_0 (o_gf o_0 rfl) (o_ob o_67) (t_firstError hi.2.2.2.1)
  · rw [zC_of zh149]
    exact b149_0 oR h1
theorem op_save : zOP scr 79 152 [] := by
  intro A hi
  obtain ⟨hr, ⟨⟨a1, a2, a3⟩, ⟨⟨p1, p2, p3⟩, p4, p5⟩, ⟨⟨t1, t2⟩, t3, t4⟩⟩⟩ := id hi
  have s1 := rr_n hr
  have l1 : ∀ c i, ¬ (17 ≤ c ∧ c < 25) → ¬ (c = 0 ∧ i = 3) → up (cpS A 1 17) 0 3 1 c i = A c i := fun c i h1 h2 => by
    rw [up_ne h2]
    unfold cpS
    rw [if_neg (by omega)]
  have l2 : ∀ c i, ¬ (17 ≤ c ∧ c < 25) → ¬ (c = 0 ∧ i = 3) → c ≠ 74 → ¬ (c = 70 ∧ i = 5) → up (ovA (up (cpS A 1 17) 0 3 1) 74 0 71 0 190) 70 5 1 c i = A c i := fun c i h1 h2 h3 h4 => by
    rw [up_ne h4, ov_ne h3, l1 c i h1 h2]
  have e71 : ∀ i, up (cpS A 1 17) 0 3 1 71 i = A 71 i := fun i => l1 _ _ (by omega) (by omega)
  have w17 : ∀ t i, t < 8 → up (ovA (up (cpS A 1 17) 0 3 1) 74 0 71 0 190) 70 5 1 (17 + t) i = A (1 + t) i := fun t i ht => by
    rw [up_ne (by omega), ov_ne (by omega), up_ne (by omega)]
    unfold cpS
    rw [if_pos (by omega)]
    exact zAe (by omega) rfl
  have w74 : ∀ i, i < 190 → up (ovA (up (cpS A 1 17) 0 3 1) 74 0 71 0 190) 70 5 1 74 i = A 71 i := fun i hi => by
    rw [up_ne (by omega)]
    unfold ovA
    rw [if_pos (by omega), e71]
    exact congrArg (A 71) (by omega)
  have w03 : up (ovA (up (cpS A 1 17) 0 3 1) 74 0 71 0 190) 70 5 1 0 3 = 1 := by
    rw [up_ne (by omega), ov_ne (by omega), up_eq]
  have w26 : ∀ i, up (ovA (up (cpS A 1 17) 0 3 1) 74 0 71 0 190) 70 5 1 26 i = A 26 i := fun i => l2 _ _ (by omega) (by omega) (by omega) (by omega)
  have w25 : up (ovA (up (cpS A 1 17) 0 3 1) 74 0 71 0 190) 70 5 1 25 1 = A 25 1 := l2 _ _ (by omega) (by omega) (by omega) (by omega)
  have w67 : up (ovA (up (cpS A 1 17) 0 3 1) 74 0 71 0 190) 70 5 1 67 1 = A 67 1 := l2 _ _ (by omega) (by omega) (by omega) (by omega)
  refine ⟨nI (A 71 0), up (cpS A 1 17) 0 3 1, up (ovA (up (cpS A 1 17) 0 3 1) 74 0 71 0 190) 70 5 1, ?_, ?_, ⟨zRR_move (fun t i ht => l2 _ _ (by omega) (by omega) (by omega) (by omega)) (fun i _ => l2 _ _ (by omega) (by omega) (by omega) (by omega)) hr, ⟨?_, ?_, fun _ => zRR_move w17 w74 hr⟩, ⟨⟨?_, fun i hi => ?_, fun i j hi hj he => ?_⟩, ?_, fun k hk => ?_⟩, ⟨⟨?_, fun i hi => ?_⟩, ?_, fun i hi => ?_⟩⟩⟩
  · rw [zC_of zh79]
    exact b79_0 (f4 := nI (A 71 0)) (o_gf o_0 rfl) (o_gf o_0 rfl) (o_ob (o_st z17)) (s_copyFrom z17 z1 (by omega)) (o_pf o_0 (by show 3 < 7; omega) o_0 (by simp [up])) (o_gf o_0 rfl) (by rw [s_gf 1 z1 (by omega), l1 _ _ (by omega) (by omega), s1])
  · rw [zC_of zh152]
    refine b152_0.trans ?_
    refine (zloopW (W := fun j => wd (ovA (up (cpS A 1 17) 0 3 1) 74 0 71 0 j)) (scr := scr) (mi := 152) (pc := 2) (st := []) (L := fun j => [some (.ref 70), some (.int (nI j))]) 190 (by rw [ov_0]) (fun j hj => ?_)).trans ?_
    · refine b152_2.trans ((i_lt hj (by omega)).trans ((b152_9 (f3 := nI (up (cpS A 1 17) 0 3 1 71 j)) gR4 gR0 (by rw [aR (by omega), ov_ne (by omega)]) (by rw [w_as _ zra74 (by omega) (by omega)])).trans ?_))
      have := ov_s (A := up (cpS A 1 17) 0 3 1) (k := 74) (d := 0) (j := 71) (s := 0) (n := j) (by omega)
      rw [Nat.zero_add] at this
      rw [n_add, this]
    · exact b152_2.trans ((i_nlt (by omega) (by omega)).trans (b152_27 (f2 := nI (A 71 0)) (pR 5 1 (by omega)) gR0 (by rw [aR (by omega), l2 _ _ (by omega) (by omega) (by omega) (by omega)])))
  · rw [w03, up_eq]
  · rw [w03]; omega
  · rw [w25]; exact p1
  · rw [w26]; exact p2 i hi
  · rw [w26, w26] at he; exact p3 i j hi hj he
  · rw [w25, l2 70 3 (by omega) (by omega) (by omega) (by omega)]; exact p4
  · rw [w25] at hk
    have hz := p2 k (by omega)
    have hz1 := hz.1
    unfold zsb at hz1
    rw [w26]
    exact zRR_move (fun t i ht => l2 _ _ (by omega) (by omega) (by omega) (by omega)) (fun i _ => l2 _ _ (by omega) (by omega) (by omega) (by omega)) (p5 k hk)
  · rw [w67]; exact t1
  · rw [w67] at hi
    rw [l2 68 _ (by omega) (by omega) (by omega) (by omega)]; exact t2 i hi
  · rw [w67, l2 70 7 (by omega) (by omega) (by omega) (by omega)]; exact t3
  · rw [w67] at hi
    rw [l2 68 _ (by omega) (by omega) (by omega) (by omega), l2 75 _ (by omega) (by omega) (by omega) (by omega)]; exact t4 i hi
end OF
