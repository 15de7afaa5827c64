/-! the heap with the law's own rows behind; what the law's methods call -/
def hw (A : Nat → Nat → Nat) (G : zAW) : zAW := wd A ++ G
/-- low: a number from 0 to n - 1 out of an int -/
def lw (x : Int32) (n : Nat) : Nat := (zrem (x &&& nI 2147483647) (nI n)).toInt.toNat
section HW
variable {A B C : Nat → Nat → Nat} {b c : Nat → Nat} {p q h k g n m i j t r mj : Nat} {scr : List Int32} {G : zAW} {as : List Value} {rv : Option Value}
theorem lf (h : zC scr mj as (wd A) = some (rv, wd B)) : zC scr mj as (hw A G) = some (rv, hw B G) := zC_app h (by rw [wd_len, wd_len])
theorem hw_len : (hw A G).length = 70 + G.length := by unfold hw; rw [List.length_append, wd_len]
theorem ob0 : zob (hw A G) 0 5 = true := zob_app (o_ob o_0)
theorem lw_is (x : Int32) (hn : 0 < n) (hn2 : n < 1000) : zrem (x &&& nI 2147483647) (nI n) = nI (lw x n) ∧ lw x n < n := by
  obtain ⟨j, hj, e⟩ := pk_andE x (m := nI 2147483647) 31 (by decide)
  have h1 : zrem (x &&& nI 2147483647) (nI n) = nI (j % n) := by rw [e, n_rem (by omega) (by omega)]
  have h2 := Nat.mod_lt j hn
  have h3 : lw x n = j % n := by
    unfold lw
    rw [h1, n_toInt (by omega)]; rfl
  rw [h3]
  exact ⟨h1, h2⟩
theorem c_low (x : Int32) (hn : 0 < n) (hn2 : n < 1000) {w : zAW} : zC scr 86 [.int x, .int (nI n)] w = some (some (.int (nI (lw x n))), w) := by
  rw [zC_of zh86]
  refine (b86_0 ?_).trans ?_
  · rw [n_eq0 (by omega)]; omega
  · rw [(lw_is x hn hn2).1]
theorem h_total (k : Nat) (hr : zRR A 1 b) (hk : k < 13) : zC scr 69 [.ref 0, .int (nI k)] (hw A G) = some (some (.int (nI (fig A 1 k))), hw A G) := lf (c_total hr hk)
theorem h_heir (k : Nat) (hr : zRR A 1 b) (hh : h < 1000) (hk : k < 6) : zC scr 64 [.ref 0, .int (nI h), .int (nI k)] (hw A G) = some (some (.int (if h < A 1 1 then nI (abt A 1 h k) else -1)), hw A G) := lf (c_heir hr hh hk)
theorem h_heir1 (k : Nat) (hr : zRR A 1 b) (hh : h < A 1 1) (hk : k < 6) : zC scr 64 [.ref 0, .int (nI h), .int (nI k)] (hw A G) = some (some (.int (nI (abt A 1 h k))), hw A G) := by
  have h0 := hr.1.2.2.1
  have := h_heir (scr := scr) (G := G) k hr (show h < 1000 by omega) hk
  rw [if_pos hh] at this
  exact this
theorem h_bagc (hr : zRR A 1 b) (hh : h < 1000) (hi : i < 1000) : zC scr 65 [.ref 0, .int (nI h), .int (nI i), .int (nI 0)] (hw A G) = some (some (.int (bgc A h i)), hw A G) := lf (c_bagc hr hh hi)
theorem h_bagv (hr : zRR A 1 b) (hh : h < 1000) (hi : i < 1000) : zC scr 65 [.ref 0, .int (nI h), .int (nI i), .int (nI 1)] (hw A G) = some (some (.int (bgv A h i)), hw A G) := lf (c_bagv hr hh hi)
theorem h_hopc (hr : zRR A 1 b) (hi : i < 1000) : zC scr 66 [.ref 0, .int (nI i), .int (nI 0)] (hw A G) = some (some (.int (hpc A i)), hw A G) := lf (c_hopc hr hi)
theorem h_hopv (hr : zRR A 1 b) (hi : i < 1000) : zC scr 66 [.ref 0, .int (nI i), .int (nI 1)] (hw A G) = some (some (.int (hpv A i)), hw A G) := lf (c_hopv hr hi)
theorem h_vetoes (hm : m < 4) : zC scr 67 [.ref 0, .int (nI m)] (hw A G) = some (some (.int (nI (A 8 m))), hw A G) := lf (c_vetoes hm)
theorem h_at (hr : zRR A 1 b) (ht : t < 1000) : zC scr 68 [.ref 0, .int (nI t)] (hw A G) = some (some (.int (if t < A 1 1 then nI (A 7 t) else -1)), hw A G) := lf (c_at hr ht)
theorem h_at1 (hr : zRR A 1 b) (ht : t < A 1 1) : zC scr 68 [.ref 0, .int (nI t)] (hw A G) = some (some (.int (nI (A 7 t))), hw A G) := by
  have h0 := hr.1.2.2.1
  have := h_at (scr := scr) (G := G) hr (show t < 1000 by omega)
  rw [if_pos ht] at this
  exact this
theorem h_who (hr : zRR A 1 b) (hh : h < 1000) (hi : i < 1000) (hg : g < 1000) (hj : j < 1000) : zC scr 72 [.ref 0, .int (nI h), .int (nI i), .int (nI g), .int (nI j)] (hw A G) = some (some (.int (whv A h i g j)), hw A G) := lf (c_who hr hh hi hg hj)
theorem h_best (k : Nat) (hr : zRR A 1 b) (hk : k < 5) : zC scr 73 [.ref 0, .int (nI k)] (hw A G) = some (some (.int (if srA A 1 69 4 = 0 then -6 else nI (srA A 1 69 k))), hw (srA A 1) G) := lf (c_best hr hk)
theorem f_n : fig A 1 0 = A 1 1 := rfl
theorem f_all : fig A 1 1 = zcnt A 1 6 := rfl
theorem f_lt (hr : zRR A 1 b) : zcnt A 1 6 ≤ 40 ∧ A 4 7 ≤ 120 ∧ A 1 1 ≤ 6 := by
  have e6 := rr_6 hr
  have h6 := hr.2.1.2.2.2.1
  exact ⟨by omega, hr.1.1.2, hr.1.2.2.1⟩
end HW
/-! drops -/
section DR
variable {A B C : Nat → Nat → Nat} {b c : Nat → Nat} {p q h k g n m i j t r mj : Nat} {scr : List Int32} {G : zAW}
theorem drops_room (x y : Int32) (hi : pvA A b) (hl : zcnt A 1 6 < 40 ∧ A 4 7 < 120) (v6 : Option Value) : ∃ A' b', pvA A' b' ∧ zd scr 87 42 [some (.ref 0), some (.int x), some (.int y), some (.int (nI 1)), some (.int (nI k)), some (.int (nI (zcnt A 1 6))), v6] [] (hw A G) = zd scr 87 5 [some (.ref 0), some (.int x), some (.int y), some (.int (nI 1)), some (.int (nI (k + 1))), some (.int (nI (zcnt A 1 6))), some (.int (nI 1))] [] (hw A' G) := by
  obtain ⟨co, hco⟩ : ∃ co, co = lw (x >>> (((nI 3) * nI k) &&& 31)) 6 := ⟨_, rfl⟩
  obtain ⟨v, hv⟩ : ∃ v, v = lw (y >>> (((nI 4) * nI k) &&& 31)) 9 := ⟨_, rfl⟩
  have co6 := (lw_is (x >>> (((nI 3) * nI k) &&& 31)) (n := 6) (by omega) (by omega)).2
  have v9 := (lw_is (y >>> (((nI 4) * nI k) &&& 31)) (n := 9) (by omega) (by omega)).2
  have l1 := fun w => c_low (scr := scr) (x >>> (((nI 3) * nI k) &&& 31)) (n := 6) (by omega) (by omega) (w := w)
  have l2 := fun w => c_low (scr := scr) (y >>> (((nI 4) * nI k) &&& 31)) (n := 9) (by omega) (by omega) (w := w)
  rw [← hco] at co6 l1
  rw [← hv] at v9 l2
  have hd := c_drop (scr := scr) hi (co := co) (v := 1 + v) co6 (by omega) (by omega) hl
  have ho := hi.2.1
  have m7 : A 4 6 ≤ A 4 7 := hi.1.1.1.1 6 (by omega)
  have ec : zcnt A 1 6 = A 4 7 - A 4 6 := rfl
  obtain ⟨B, hB⟩ : ∃ B, B = zadd1 (kpA A 1) 1 (co * 10 + (1 + v)) := ⟨_, rfl⟩
  have b46 : B 4 6 = A 4 6 := by
    rw [hB]
    unfold zadd1
    rw [up_ne (by omega), up_ne (by omega), kp_off ho (by omega)]
  have b47 : B 4 7 = A 4 7 + 1 := by
    rw [hB]
    unfold zadd1
    rw [show (4 : Nat) = 1 + 3 from rfl, up_eq, kp_off ho (by omega)]
  have b3 : B 3 (A 4 7) = co * 10 + (1 + v) := by
    rw [hB]
    unfold zadd1
    rw [up_ne (by omega), kp_off ho (by omega), show (3 : Nat) = 1 + 2 from rfl, show A (1 + 2 + 1) 7 = A (1 + 3) 7 from rfl, up_eq]
  rw [← hB] at hd
  have cB : zcnt B 1 6 = A 4 7 - A 4 6 + 1 := by
    show B 4 7 - B 4 6 = _
    omega
  have ex : B (1 + 2) (B (1 + 3) 6 + zcnt A 1 6) = co * 10 + (1 + v) := by
    rw [← b3]
    exact zAe rfl (by show B 4 6 + zcnt A 1 6 = A 4 7; omega)
  have hc : hpc B (zcnt A 1 6) = nI co := by
    unfold hpc mcol
    rw [if_pos (by omega), ex]
    exact congrArg nI (by omega)
  have hv2 : hpv B (zcnt A 1 6) = nI 1 + nI v := by
    unfold hpv mval
    rw [if_pos (by omega), ex, n_add]
    exact congrArg nI (by omega)
  have k1 := h_hopc (scr := scr) (G := G) hd.2.1 (i := zcnt A 1 6) (by omega)
  have k2 := h_hopv (scr := scr) (G := G) hd.2.1 (i := zcnt A 1 6) (by omega)
  rw [hc] at k1
  rw [hv2] at k2
  refine ⟨B, _, hd.2, ?_⟩
  refine (b87_42 (l1 _) (l2 _) ob0 (by rw [n_add]; exact lf hd.1)).trans ?_
  rw [if_neg (by decide)]
  refine b87_82.trans ?_
  rw [n_add, if_pos rfl]
  refine b87_94.trans ?_
  rw [if_neg (by decide)]
  refine (b87_99 ob0 k1 (l1 _)).trans ?_
  rw [if_pos rfl]
  refine (b87_120 ob0 k2 (l2 _)).trans ?_
  rw [if_pos rfl]
  refine b87_143.trans ?_
  rw [n_add]
theorem drops_full (x y : Int32) (hi : pvA A b) (hl : ¬ (zcnt A 1 6 < 40 ∧ A 4 7 < 120)) (v6 : Option Value) : zd scr 87 46 [some (.ref 0), some (.int x), some (.int y), some (.int (nI 1)), some (.int (nI k)), some (.int (nI (zcnt A 1 6))), v6] [] (hw A G) = zd scr 87 5 [some (.ref 0), some (.int x), some (.int y), some (.int (nI 1)), some (.int (nI (k + 1))), some (.int (nI (zcnt A 1 6))), some (.int (nI 0))] [] (hw A G) := by
  have co6 := (lw_is (x >>> (((nI 3) * nI k) &&& 31)) (n := 6) (by omega) (by omega)).2
  have v9 := (lw_is (y >>> (((nI 4) * nI k) &&& 31)) (n := 9) (by omega) (by omega)).2
  have l1 := fun w => c_low (scr := scr) (x >>> (((nI 3) * nI k) &&& 31)) (n := 6) (by omega) (by omega) (w := w)
  have l2 := fun w => c_low (scr := scr) (y >>> (((nI 4) * nI k) &&& 31)) (n := 9) (by omega) (by omega) (w := w)
  have hd := c_dropL (scr := scr) hi (co := lw (x >>> (((nI 3) * nI k) &&& 31)) 6) (v := 1 + lw (y >>> (((nI 4) * nI k) &&& 31)) 9) co6 (by omega) (by omega) hl
  refine (b87_46 (l1 _) (l2 _) ob0 (by rw [n_add]; exact lf hd)).trans ?_
  rw [if_pos (by decide)]
  refine b87_89.trans ?_
  rw [if_pos rfl]
  refine b87_94.trans ?_
  rw [if_pos (by decide)]
  refine b87_143.trans ?_
  rw [n_add]
theorem drops_step (x y : Int32) (hi : pvA A b) (hk : k < 4) (v5 v6 : Option Value) : ∃ A' b' v5' v6', pvA A' b' ∧ zd scr 87 5 [some (.ref 0), some (.int x), some (.int y), some (.int (nI 1)), some (.int (nI k)), v5, v6] [] (hw A G) = zd scr 87 5 [some (.ref 0), some (.int x), some (.int y), some (.int (nI 1)), some (.int (nI (k + 1))), v5', v6'] [] (hw A' G) := by
  have hf := f_lt hi.1
  have e0 : zd scr 87 5 [some (.ref 0), some (.int x), some (.int y), some (.int (nI 1)), some (.int (nI k)), v5, v6] [] (hw A G) = if nI (zcnt A 1 6) < nI 40 then zd scr 87 29 [some (.ref 0), some (.int x), some (.int y), some (.int (nI 1)), some (.int (nI k)), some (.int (nI (zcnt A 1 6))), v6] [] (hw A G) else zd scr 87 46 [some (.ref 0), some (.int x), some (.int y), some (.int (nI 1)), some (.int (nI k)), some (.int (nI (zcnt A 1 6))), v6] [] (hw A G) := by
    refine b87_5.trans ((i_lt hk (by omega)).trans (b87_11.trans ?_))
    rw [if_neg (by decide)]
    exact b87_15 ob0 (h_total 1 hi.1 (by omega))
  by_cases c1 : zcnt A 1 6 < 40
  · by_cases c2 : A 4 7 < 120
    · obtain ⟨A', b', h1, h2⟩ := drops_room (scr := scr) (G := G) (k := k) x y hi ⟨c1, c2⟩ v6
      refine ⟨A', b', some (.int (nI (zcnt A 1 6))), some (.int (nI 1)), h1, e0.trans ?_⟩
      rw [i_lt c1 (by omega)]
      refine (b87_29 ob0 (h_total 2 hi.1 (by omega))).trans ?_
      rw [n_add, show zcnt A 1 6 + fig A 1 2 = A 4 7 from many_is hi.1, i_lt c2 (by omega)]
      exact h2
    · refine ⟨A, b, some (.int (nI (zcnt A 1 6))), some (.int (nI 0)), hi, e0.trans ?_⟩
      rw [i_lt c1 (by omega)]
      refine (b87_29 ob0 (h_total 2 hi.1 (by omega))).trans ?_
      rw [n_add, show zcnt A 1 6 + fig A 1 2 = A 4 7 from many_is hi.1, i_nlt c2 (by omega)]
      exact drops_full x y hi (fun q => c2 q.2) v6
  · refine ⟨A, b, some (.int (nI (zcnt A 1 6))), some (.int (nI 0)), hi, e0.trans ?_⟩
    rw [i_nlt c1 (by omega)]
    exact drops_full x y hi (fun q => c1 q.1) v6
theorem drops_ok (x y : Int32) (hi : pvA A b) : ∃ A' b', pvA A' b' ∧ zC scr 87 [.ref 0, .int x, .int y] (hw A G) = some (some (.int (nI 1)), hw A' G) := by
  have key : ∀ d k (A : Nat → Nat → Nat) b v5 v6, k + d = 4 → pvA A b → ∃ A' b', pvA A' b' ∧ zd scr 87 5 [some (.ref 0), some (.int x), some (.int y), some (.int (nI 1)), some (.int (nI k)), v5, v6] [] (hw A G) = some (some (.int (nI 1)), hw A' G) := by
    intro d
    induction d with
    | zero =>
      intro k A b v5 v6 hk hi
      refine ⟨A, b, hi, b87_5.trans ((i_nlt (by omega) (by omega)).trans ?_)⟩
      exact b87_155 rfl
    | succ d ih =>
      intro k A b v5 v6 hk hi
      obtain ⟨A1, b1, w5, w6, h1, h2⟩ := drops_step (scr := scr) (G := G) (k := k) x y hi (by omega) v5 v6
      obtain ⟨A2, b2, h3, h4⟩ := ih (k + 1) A1 b1 w5 w6 (by omega) h1
      exact ⟨A2, b2, h3, h2.trans h4⟩
  obtain ⟨A', b', h1, h2⟩ := key 4 0 A b none none (by omega) hi
  refine ⟨A', b', h1, ?_⟩
  rw [zC_of zh87]
  exact b87_0.trans h2
end DR
