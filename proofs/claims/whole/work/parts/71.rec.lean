/-! MarbleHeirsModel: rows laid over rows -/
/-- so many numbers of a row laid over those of another -/
def ovA (A : Nat → Nat → Nat) (k d j s n : Nat) : Nat → Nat → Nat := fun c i => if c = k ∧ d ≤ i ∧ i < d + n then A j (s + (i - d)) else A c i
section RC
variable {A B : Nat → Nat → Nat} {b c : Nat → Nat} {p q h k g n m i j t d s : Nat} {scr : List Int32}
theorem ov_0 : ovA A k d j s 0 = A := by
  funext c i
  unfold ovA
  rw [if_neg (by omega)]
theorem ov_s (hkj : k ≠ j) : up (ovA A k d j s n) k (d + n) (A j (s + n)) = ovA A k d j s (n + 1) := by
  funext c i
  unfold up ovA
  by_cases e : c = k ∧ i = d + n
  · rw [if_pos e, if_pos (by omega)]
    exact zAe rfl (by omega)
  · rw [if_neg e]
    by_cases e2 : c = k ∧ d ≤ i ∧ i < d + n
    · rw [if_pos e2, if_pos (by omega)]
    · rw [if_neg e2, if_neg (by omega)]
theorem ov_ne {c i : Nat} (h : c ≠ k) : ovA A k d j s n c i = A c i := by
  unfold ovA
  rw [if_neg (by omega)]
theorem r_putAside : zC scr 93 [.ref 70] (wd A) = some (none, wd (ovA A 72 0 71 0 190)) := by
  rw [zC_of zh93]
  refine b93_0.trans ?_
  refine (zloopW (W := fun j => wd (ovA A 72 0 71 0 j)) (scr := scr) (mi := 93) (pc := 2) (st := []) (L := fun j => [some (.ref 70), some (.int (nI j))]) 190 (by rw [ov_0]) (fun j hj => ?_)).trans ?_
  · refine b93_2.trans ((i_lt hj (by omega)).trans ((b93_9 (f3 := nI (A 71 j)) gR1 gR0 (by rw [aR (by omega), ov_ne (by omega)]) (by rw [w_as _ zra72 (by omega) (by omega)])).trans ?_))
    have := ov_s (A := A) (k := 72) (d := 0) (j := 71) (s := 0) (n := j) (by omega)
    rw [Nat.zero_add] at this
    rw [n_add, this]
  · exact b93_2.trans ((i_nlt (by omega) (by omega)).trans b93_27)
theorem r_putBack : zC scr 94 [.ref 70] (wd A) = some (none, wd (ovA A 71 0 72 0 190)) := by
  rw [zC_of zh94]
  refine b94_0.trans ?_
  refine (zloopW (W := fun j => wd (ovA A 71 0 72 0 j)) (scr := scr) (mi := 94) (pc := 2) (st := []) (L := fun j => [some (.ref 70), some (.int (nI j))]) 190 (by rw [ov_0]) (fun j hj => ?_)).trans ?_
  · refine b94_2.trans ((i_lt hj (by omega)).trans ((b94_9 (f3 := nI (A 72 j)) gR0 gR1 (by rw [w_al zra72 (by omega) (by omega), ov_ne (by omega)]) (by rw [w_as _ zra71 (by omega) (by omega)])).trans ?_))
    have := ov_s (A := A) (k := 71) (d := 0) (j := 72) (s := 0) (n := j) (by omega)
    rw [Nat.zero_add] at this
    rw [n_add, this]
  · exact b94_2.trans ((i_nlt (by omega) (by omega)).trans b94_27)
theorem r_record (h5 : A 70 3 ≤ 5) : zC scr 92 [.ref 70] (wd A) = some (none, wd (rcA A)) := by
  -- the newest one
  have lay : ∀ (B : Nat → Nat → Nat) (v1 : Option Value), B 70 3 ≤ 4 → zd scr 92 51 [some (.ref 70), some (.int (nI 0))] [] (wd B) = some (none, wd (up (ovA B 73 (190 * B 70 3) 71 0 190) 70 3 (B 70 3 + 1))) := by
    intro B v1 h4
    refine (zloopW (W := fun j => wd (ovA B 73 (190 * B 70 3) 71 0 j)) (scr := scr) (mi := 92) (pc := 51) (st := []) (L := fun j => [some (.ref 70), some (.int (nI j))]) 190 (by rw [ov_0]) (fun j hj => ?_)).trans ?_
    · refine b92_51.trans ((i_lt hj (by omega)).trans ((b92_58 (f2 := nI (B 70 3)) (f4 := nI (B 71 j)) gR2 (by rw [gR3, ov_ne (by omega)]) gR0 (by rw [aR (by omega), ov_ne (by omega)]) (by rw [n_mul, n_add, w_as _ zra73 (by omega) (by omega)])).trans ?_))
      have := ov_s (A := B) (k := 73) (d := 190 * B 70 3) (j := 71) (s := 0) (n := j) (by omega)
      rw [Nat.zero_add] at this
      rw [n_add, this]
    · refine b92_51.trans ((i_nlt (by omega) (by omega)).trans (b92_85 (f1 := nI (B 70 3)) (by rw [gR3, ov_ne (by omega)]) (by rw [n_add, pR 3 _ (by omega)])))
  rw [zC_of zh92]
  refine (b92_0 gR3).trans ?_
  by_cases c : A 70 3 = 5
  · refine (i_eq c).trans (b92_8.trans ?_)
    refine (zloopW (W := fun j => wd (fun c i => if c = 73 ∧ i < j then A 73 (i + 190) else A c i)) (scr := scr) (mi := 92) (pc := 10) (st := []) (L := fun j => [some (.ref 70), some (.int (nI j))]) 760 ?_ (fun j hj => ?_)).trans ?_
    · refine congrArg wd ?_
      funext c i
      rw [if_neg (by omega)]
    · refine b92_10.trans ((i_lt hj (by omega)).trans ((b92_17 (f3 := nI (A 73 (j + 190))) gR2 gR2 (by rw [n_add, w_al zra73 (by omega) (by omega), if_neg (by omega)]) (by rw [w_as _ zra73 (by omega) (by omega)])).trans ?_))
      rw [n_add]
      refine congrArg (fun w => zd scr 92 10 _ [] w) (congrArg wd ?_)
      funext c i
      unfold up
      by_cases e : c = 73 ∧ i = j
      · rw [if_pos e, if_pos (by omega), e.2]
      · rw [if_neg e]
        show (if c = 73 ∧ i < j then A 73 (i + 190) else A c i) = _
        by_cases e2 : c = 73 ∧ i < j
        · rw [if_pos e2, if_pos (show c = 73 ∧ i < j + 1 by omega)]
        · rw [if_neg e2, if_neg (show ¬ (c = 73 ∧ i < j + 1) by omega)]
    · refine b92_10.trans ((i_nlt (by omega) (by omega)).trans ((b92_39 (f1 := nI 5) (w1 := wd (up (fun c i => if c = 73 ∧ i < 760 then A 73 (i + 190) else A c i) 70 3 4)) ?_ ?_).trans ?_))
      · rw [gR3, if_neg (by omega), c]
      · rw [n_sub (by omega), pR 3 _ (by omega)]
      · have e4 : up (fun c i => if c = 73 ∧ i < 760 then A 73 (i + 190) else A c i) 70 3 4 70 3 = 4 := up_eq
        refine (lay _ none (by rw [e4]; omega)).trans ?_
        refine congrArg (fun w => some (none, wd w)) ?_
        rw [e4]
        funext c' i
        unfold rcA rcK rc0
        rw [if_pos c]
        by_cases e : c' = 73
        · subst e
          rw [if_pos rfl, up_ne (by omega)]
          unfold ovA
          by_cases e2 : 190 * 4 ≤ i ∧ i < 190 * 4 + 190
          · rw [if_pos e2, if_pos ⟨rfl, e2⟩, up_ne (by omega), if_neg (by omega), Nat.zero_add]
          · rw [if_neg e2, if_neg (by omega), up_ne (by omega)]
            by_cases e3 : i < 760
            · rw [if_pos ⟨rfl, e3⟩, if_pos ⟨c, e3⟩]
            · rw [if_neg (by omega), if_neg (by omega)]
        · rw [if_neg e]
          by_cases e2 : c' = 70 ∧ i = 3
          · rw [if_pos e2, e2.1, e2.2, up_eq]
          · rw [if_neg e2, up_ne e2, ov_ne e, up_ne e2, if_neg (by omega)]
  · refine (i_ne c (by omega) (by omega)).trans (b92_49.trans ((lay A none (by omega)).trans ?_))
    refine congrArg (fun w => some (none, wd w)) ?_
    funext c' i
    unfold rcA rcK rc0
    rw [if_neg c]
    by_cases e : c' = 73
    · subst e
      rw [if_pos rfl, up_ne (by omega)]
      unfold ovA
      by_cases e2 : 190 * A 70 3 ≤ i ∧ i < 190 * A 70 3 + 190
      · rw [if_pos e2, if_pos ⟨rfl, e2⟩, Nat.zero_add]
      · rw [if_neg e2, if_neg (by omega), if_neg (by omega)]
    · rw [if_neg e]
      by_cases e2 : c' = 70 ∧ i = 3
      · rw [if_pos e2, e2.1, e2.2, up_eq]
      · rw [if_neg e2, up_ne e2, ov_ne e]
theorem r_lays {x y : Nat} (hx : x < 190) (h5 : A 70 3 ≤ 5) : zC scr 120 [.ref 70, .int (nI x), .int (nI y)] (wd A) = some (some (.int (nI (A 71 x))), wd (sb (rcA A) (ups (A 71) x y))) := by
  have e71 : rcA A 71 = A 71 := funext fun i => rc_off (by omega) (by omega)
  rw [zC_of zh120]
  exact b120_0 oR (r_record h5) gR0 (by rw [aR hx, e71]) gR0 (by rw [sR _ hx, up71, e71])
theorem r_placeOf (ho : bOk (A 71)) (hp : bPm (A 71)) (ht : t < A 71 0) (htb : A 71 (24 + t) = h) : zC scr 132 [.ref 70, .int (nI h)] (wd A) = some (some (.int (nI t)), wd A) := by
  have h0 := ho.1
  have hord : ∀ k, k < A 71 0 → A 71 (24 + k) < A 71 0 := fun k hk => (ho.2.2.2.2.2.2.1 k hk).2.2
  have hht := hord t ht
  rw [zC_of zh132]
  refine b132_0.trans ?_
  refine (zloop (W := fun _ => wd A) (scr := scr) (mi := 132) (pc := 4) (st := []) (L := fun j => [some (.ref 70), some (.int (nI h)), some (.int (nI (if t < j then t else 0))), some (.int (nI j))]) (A 71 0) (fun j hj => ?_)).trans ?_
  · have hb := hord j hj
    refine (b132_4 gR0 (aR (by omega))).trans ((i_lt hj (by omega)).trans ((b132_14 gR0 (by rw [n_add]; exact aR (by omega))).trans ?_))
    by_cases c : A 71 (24 + j) = h
    · have e : j = t := hp.1 j t hj ht (by rw [c, htb])
      rw [i_eq c]
      refine b132_27.trans ?_
      rw [n_add, if_pos (show t < j + 1 by omega), e]
    · have e : j ≠ t := fun q => c (by rw [q]; exact htb)
      rw [i_ne c (by omega) (by omega)]
      refine b132_31.trans ?_
      have e2 : (if t < j + 1 then t else 0) = (if t < j then t else 0) := by
        by_cases f : t < j
        · rw [if_pos f, if_pos (by omega)]
        · rw [if_neg f, if_neg (by omega)]
      rw [n_add, e2]
  · refine (b132_4 gR0 (aR (by omega))).trans ((i_nlt (by omega) (by omega)).trans ?_)
    rw [if_pos ht]
    exact b132_39
theorem r_hasRoom {x : Nat} (ho : bOk (A 71)) (hx : x < 10000) : zC scr 124 [.ref 70, .int (nI x)] (wd A) = some (some (.int (if A 71 6 + x ≤ 40 ∧ A 71 6 + A 71 7 + x ≤ 120 then nI 1 else nI 0)), wd A) := by
  have h7 := bO_7 ho
  have h6 := ho.2.2.2.1
  rw [zC_of zh124]
  refine (b124_0 gR0 (aR (by omega))).trans ?_
  rw [n_add]
  by_cases c : A 71 6 + x ≤ 40
  · refine (i_le c (by omega)).trans ((b124_14 gR0 (aR (by omega)) gR0 (aR (by omega))).trans ?_)
    rw [n_add, n_add]
    by_cases c2 : A 71 6 + A 71 7 + x ≤ 120
    · rw [i_le c2 (by omega), if_pos ⟨c, c2⟩]; exact b124_36
    · rw [i_nle c2 (by omega), if_neg (fun q => c2 q.2)]; exact b124_40
  · refine (i_nle c (by omega)).trans ?_
    rw [if_neg (fun q => c q.1)]; exact b124_40
end RC
