/-! MarbleHeirsModel: the buffer, gone through -/
section GT
variable {A B : Nat → Nat → Nat} {b c : Nat → Nat} {p q h k g n m i j t : Nat} {scr : List Int32}
theorem nxt_L {i : Nat} (hi : i < A 67 1) : (i + itd A i = A 67 1 ∨ ¬ isL (A 68 (i + itd A i)) = true) ↔ ¬ isL (nxt A (i + itd A i)) = true := by
  have hdl := itd_le (A := A) i
  unfold nxt
  by_cases c : i + itd A i < A 67 1
  · rw [if_pos c]
    exact ⟨fun q => q.elim (fun q => by omega) id, Or.inr⟩
  · rw [if_neg c, isL_0]
    exact ⟨fun _ => by decide, fun _ => Or.inl (by omega)⟩
theorem nxt_D {i : Nat} (hi : i + itd A i < A 67 1) : (i + itd A i + 1 = A 67 1 ∨ ¬ isD (A 68 (i + itd A i + 1)) = true) ↔ ¬ isD (nxt A (i + itd A i + 1)) = true := by
  unfold nxt
  by_cases c : i + itd A i + 1 < A 67 1
  · rw [if_pos c]
    exact ⟨fun q => q.elim (fun q => by omega) id, Or.inr⟩
  · rw [if_neg c, isD_0]
    exact ⟨fun _ => by decide, fun _ => Or.inl (by omega)⟩
theorem goes0 (ho : txOk A) (hB : ∀ y, zTB A (up B 70 9 y)) : ∀ N n i y v3 v4 v5, i + n = A 67 1 → n ≤ N → (0 < n ∨ 0 < i) → ∃ y', zd scr 148 7 [some (.ref 70), some (.int (nI 0)), some (.int (nI i)), v3, v4, v5] [] (wd (up B 70 9 y)) = some (some (.int (feN A n i 0)), wd (up B 70 9 y')) ∧ (feN A n i 0 = -6 → y' = y + ttl A N i) := by
  have hl := ho.1
  intro N
  induction N with
  | zero =>
    intro n i y v3 v4 v5 hi hn h0
    obtain rfl : n = 0 := by omega
    refine ⟨y, ?_, fun _ => rfl⟩
    refine (b148_7 gR7).trans ?_
    rw [(hB y).1, i_nlt (by omega) (by omega)]
    refine b148_15.trans ((i_ne0 (by omega) (by omega)).trans (b148_161.trans ?_))
    unfold feN
    rw [if_pos ⟨rfl, by omega⟩]
  | succ N ih =>
    intro n i y v3 v4 v5 hi hn h0
    by_cases hn0 : n = 0
    · subst hn0
      refine ⟨y, ?_, fun _ => ?_⟩
      · refine (b148_7 gR7).trans ?_
        rw [(hB y).1, i_nlt (by omega) (by omega)]
        refine b148_15.trans ((i_ne0 (by omega) (by omega)).trans (b148_161.trans ?_))
        unfold feN
        rw [if_pos ⟨rfl, by omega⟩]
      · rw [ttl, if_pos (by omega)]; rfl
    have hiL : i < A 67 1 := by omega
    have hdl := itd_le (A := A) i
    have hit := r_item (scr := scr) (d := 0) (v3 := v3) (v4 := v4) (v5 := v5) (hB y) ho (Or.inl hiL) (by omega) (by omega)
    rw [fe_item hi (by omega)]
    by_cases c1 : i + itd A i = A 67 1 ∨ ¬ isL (A 68 (i + itd A i)) = true
    · rw [if_pos c1]
      have c1' := (nxt_L hiL).mp c1
      rw [if_pos (Or.inl c1'), if_neg (by omega)] at hit
      exact ⟨y, hit, fun q => absurd q (nI_ne6 (by omega))⟩
    · rw [if_neg c1]
      have c1' : ¬ ¬ isL (nxt A (i + itd A i)) = true := fun q => c1 ((nxt_L hiL).mpr q)
      rw [if_neg (fun q => q.elim c1' (fun q => by omega))] at hit
      have hi1 : i + itd A i < A 67 1 := by
        have : ¬ i + itd A i = A 67 1 := fun q => c1 (Or.inl q)
        omega
      by_cases c2 : i + itd A i + 1 = A 67 1 ∨ ¬ isD (A 68 (i + itd A i + 1)) = true
      · rw [if_pos c2]
        rw [if_pos ((nxt_D hi1).mp c2)] at hit
        exact ⟨y, hit, fun q => absurd q (nI_ne6 (by omega))⟩
      · rw [if_neg c2]
        rw [if_neg (fun q => c2 ((nxt_D hi1).mpr q))] at hit
        have hi2 : i + itd A i + 1 < A 67 1 := by
          have : ¬ i + itd A i + 1 = A 67 1 := fun q => c2 (Or.inl q)
          omega
        have hmm := itm_ok (A := A) (i := i)
        obtain ⟨y', h1, h2⟩ := ih (n - itd A i - 2) (i + itd A i + 2) (y + itm A i) (some (.int (nI (itm A i)))) (some (.int (nI (clr (nxt A (i + itd A i)))))) (some (.int (nI 0))) (by omega) (by omega) (by omega)
        refine ⟨y', hit.trans (b148_113.trans ((i_lt (by omega) (by omega)).trans (b148_119.trans ?_))), fun q => ?_⟩
        · rw [if_pos (by decide)]
          refine (b148_145 (f1 := nI y) (w1 := wd (up B 70 9 (y + itm A i))) (by rw [gR9, up_eq]) ?_).trans ?_
          · rw [n_add, pR 9 _ (by omega)]
            refine congrArg (fun w => some (wd w)) ?_
            funext c j
            simp only [up]
            (repeat' split) <;> first | rfl | (exfalso; omega)
          · rw [n_add]
            exact h1
        · rw [h2 q, ttl, if_neg (by omega)]
          omega
theorem r_goes0 (hx : zTX A) : ∃ y, zC scr 148 [.ref 70, .int (nI 0)] (wd A) = some (some (.int (feN A (A 67 1) 0 0)), wd (up A 70 9 y)) ∧ (feN A (A 67 1) 0 0 = -6 → y = ttl A (A 67 1) 0 ∧ vtx A (A 67 1) 0 ∧ 0 < A 67 1) := by
  obtain ⟨ho, h7, h75⟩ := hx
  have hB : ∀ y, zTB A (up A 70 9 y) := fun y => ⟨by rw [up_ne (by omega)]; exact h7, fun i hi => by rw [up_ne (by omega)]; exact h75 i hi⟩
  have hl := ho.1
  have start : zC scr 148 [.ref 70, .int (nI 0)] (wd A) = zd scr 148 7 [some (.ref 70), some (.int (nI 0)), some (.int (nI 0)), none, none, none] [] (wd (up A 70 9 0)) := by
    rw [zC_of zh148]
    exact b148_0 (pR 9 0 (by omega))
  by_cases hL : A 67 1 = 0
  · refine ⟨0, start.trans ?_, fun q => ?_⟩
    · have hit := r_item (scr := scr) (d := 0) (i := 0) (v3 := none) (v4 := none) (v5 := none) (hB 0) ho (Or.inr rfl) (by omega) (by omega)
      rw [if_pos (Or.inr hL.symm), if_pos hL.symm] at hit
      refine hit.trans ?_
      rw [hL]
      unfold feN
      rw [if_neg (by omega), hL]
    · exfalso
      rw [hL] at q
      unfold feN at q
      rw [if_neg (by omega), hL] at q
      exact absurd q (by decide)
  · obtain ⟨y, h1, h2⟩ := goes0 (scr := scr) ho hB (A 67 1) (A 67 1) 0 0 none none none (by omega) (Nat.le_refl _) (by omega)
    refine ⟨y, start.trans h1, fun q => ⟨by rw [h2 q]; omega, fe_vtx ho _ 0 (A 67 1) (by omega) (Nat.le_refl _) q, by omega⟩⟩
theorem drN_6 (x : Nat) : ∀ n, drN b x n 6 = b 6 + n
  | 0 => rfl
  | n + 1 => by
    rw [drN]
    unfold drB
    rw [ups_eq, drN_6 x n]
    omega
theorem goes1 (ho : txOk A) (hB : ∀ y b, zTB A (sb (up B 70 9 y) b)) : ∀ N i y (b : Nat → Nat) v3 v4 v5, vtx A N i → 0 < A 67 1 → (i < A 67 1 ∨ 0 < i) → b 6 + ttl A N i ≤ 40 → ∃ y', zd scr 148 7 [some (.ref 70), some (.int (nI 1)), some (.int (nI i)), v3, v4, v5] [] (wd (sb (up B 70 9 y) b)) = some (some (.int (-6)), wd (sb (up B 70 9 y') (itB A N i b))) := by
  have hl := ho.1
  have fin : ∀ i y (b : Nat → Nat) v3 v4 v5, i = A 67 1 → 0 < i → zd scr 148 7 [some (.ref 70), some (.int (nI 1)), some (.int (nI i)), v3, v4, v5] [] (wd (sb (up B 70 9 y) b)) = some (some (.int (-6)), wd (sb (up B 70 9 y) b)) := by
    intro i y b v3 v4 v5 hi h0
    refine (b148_7 gR7).trans ?_
    rw [(hB y b).1, i_nlt (by omega) (by omega)]
    exact b148_15.trans ((i_ne0 (by omega) (by omega)).trans b148_161)
  intro N
  induction N with
  | zero =>
    intro i y b v3 v4 v5 hv hL hi0 h40
    have hv : i = A 67 1 := hv
    exact ⟨y, fin i y b v3 v4 v5 hv (by omega)⟩
  | succ N ih =>
    intro i y b v3 v4 v5 hv hL hi0 h40
    by_cases hi : i = A 67 1
    · rw [itB, if_pos hi]
      exact ⟨y, fin i y b v3 v4 v5 hi (by omega)⟩
    rcases hv with hv | ⟨hk, hv⟩
    · exact absurd hv hi
    rw [ttl, if_neg hi] at h40
    rw [itB, if_neg hi]
    have hmm := itm_ok (A := A) (i := i)
    obtain ⟨k1, k2, k3⟩ := id hk
    have hdl := itd_le (A := A) i
    have x1 : nxt A (i + itd A i) = A 68 (i + itd A i) := if_pos (by omega)
    have x2 : nxt A (i + itd A i + 1) = A 68 (i + itd A i + 1) := if_pos k1
    have hit := r_item (scr := scr) (d := 1) (i := i) (v3 := v3) (v4 := v4) (v5 := v5) (hB y b) ho (Or.inl (by omega)) (by omega) (by omega)
    rw [if_neg (fun q => q.elim (fun q => q (by rw [x1]; exact k2)) (fun q => by omega)), if_neg (fun q => q (by rw [x2]; exact k3)), x1] at hit
    have d2 := (isD_iff _).mp k3
    -- its marbles
    have hlp : zd scr 148 113 [some (.ref 70), some (.int (nI 1)), some (.int (nI (i + itd A i))), some (.int (nI (itm A i))), some (.int (nI (clr (A 68 (i + itd A i))))), some (.int (nI 0))] [] (wd (sb (up B 70 9 y) b)) = zd scr 148 113 [some (.ref 70), some (.int (nI 1)), some (.int (nI (i + itd A i))), some (.int (nI (itm A i))), some (.int (nI (clr (A 68 (i + itd A i))))), some (.int (nI (itm A i)))] [] (wd (sb (up B 70 9 y) (drN b (itx A i) (itm A i)))) := by
      refine zloopW (W := fun j => wd (sb (up B 70 9 y) (drN b (itx A i) j))) (scr := scr) (mi := 148) (pc := 113) (st := []) (L := fun j => [some (.ref 70), some (.int (nI 1)), some (.int (nI (i + itd A i))), some (.int (nI (itm A i))), some (.int (nI (clr (A 68 (i + itd A i))))), some (.int (nI j))]) (itm A i) rfl (fun j hj => ?_)
      have hdr := r_drops (scr := scr) (A := sb (up B 70 9 y) (drN b (itx A i) j)) (c := clr (A 68 (i + itd A i))) (v := A 68 (i + itd A i + 1) - 48) (by rw [sb71, drN_6]; omega)
      rw [sb_sb, sb71] at hdr
      refine b148_113.trans ((i_lt hj (by omega)).trans (b148_119.trans ?_))
      rw [if_neg (by decide)]
      refine (b148_123 oR (by rw [n_add]; exact r_next' (hB y _) ho (by omega)) oR (by rw [x2, n_sub (by omega)]; exact hdr)).trans ?_
      rw [n_add]; rfl
    obtain ⟨y', h1⟩ := ih (i + itd A i + 2) (y + itm A i) (drN b (itx A i) (itm A i)) (some (.int (nI (itm A i)))) (some (.int (nI (clr (A 68 (i + itd A i)))))) (some (.int (nI (itm A i)))) hv hL (Or.inr (by omega)) (by rw [drN_6]; omega)
    refine ⟨y', hit.trans (hlp.trans (b148_113.trans ((i_nlt (by omega) (by omega)).trans ((b148_145 (f1 := nI y) (w1 := wd (sb (up B 70 9 (y + itm A i)) (drN b (itx A i) (itm A i)))) (by rw [gR9, sb_off (by omega), up_eq]) ?_).trans ?_))))⟩
    · rw [n_add, pR 9 _ (by omega)]
      refine congrArg (fun w => some (wd w)) ?_
      funext c j
      simp only [up, sb]
      (repeat' split) <;> first | rfl | (exfalso; omega)
    · rw [n_add]
      exact h1
/-- what is poured, on both sides -/
theorem rr_drN {x : Nat} (hx : x < 60) : ∀ n (B : Nat → Nat → Nat) (b : Nat → Nat), zRR B p b → b 6 + n ≤ 40 → b 6 + b 7 + n ≤ 120 → zRR (deA B p x n) p (drN b x n) ∧ drN b x n 7 = b 7
  | 0, B, b, hr, _, _ => ⟨hr, rfl⟩
  | n + 1, B, b, hr, h1, h2 => by
    have ih := rr_drN hx n B b hr (by omega) (by omega)
    have e6 := drN_6 (b := b) x n
    refine ⟨rr_drop ih.1 hx (by omega) (by rw [e6, ih.2]; omega), ?_⟩
    rw [drN]
    unfold drB
    rw [ups_ne (by omega), ups_ne (by omega)]
    exact ih.2
theorem rr_pour : ∀ N i (B : Nat → Nat → Nat) (b : Nat → Nat), vtx A N i → zRR B p b → b 6 + ttl A N i ≤ 40 → b 6 + b 7 + ttl A N i ≤ 120 → zRR (dpN A p N i B) p (itB A N i b)
  | 0, i, B, b, _, hr, _, _ => hr
  | N + 1, i, B, b, hv, hr, h1, h2 => by
    rw [dpN, itB]
    by_cases hi : i = A 67 1
    · rw [if_pos hi, if_pos hi]; exact hr
    · rw [if_neg hi, if_neg hi]
      rcases hv with hv | ⟨hk, hv⟩
      · exact absurd hv hi
      rw [ttl, if_neg hi] at h1 h2
      have hk2 := rr_drN (itx_ok hk).1 (itm A i) B b hr (by omega) (by omega)
      have e6 := drN_6 (b := b) (itx A i) (itm A i)
      exact rr_pour N (i + itd A i + 2) _ _ hv hk2.1 (by omega) (by omega)
end GT
