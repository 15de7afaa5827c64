/-! moveBack, and what changes the row -/
def mvA (A : Nat → Nat → Nat) (k fr to : Nat) : Nat → Nat → Nat := fun c i => if c = k ∧ fr ≤ i ∧ i < to then A k (i + 1) else if c = k ∧ i = to then A k fr else A c i
theorem zAe {A : Nat → Nat → Nat} {a b c d : Nat} (h1 : a = c) (h2 : b = d) : A a b = A c d := by rw [h1, h2]
section MV
variable {A : Nat → Nat → Nat} {p h : Nat} {scr : List Int32}
theorem m_moveBack {k n fr to : Nat} (hk : zra k n) (hn : n < 2147483648) (hft : fr ≤ to) (hto : to < n) : zC scr 83 [.ref k, .int (nI fr), .int (nI to)] (wd A) = some (none, wd (mvA A k fr to)) := by
  rw [zC_of zh83]
  refine (b83_0 (w_al hk (by omega) hn)).trans ?_
  refine (zloopA (scr := scr) (mi := 83) (pc := 7) (st := []) (L := fun j => [some (.ref k), some (.int (nI fr)), some (.int (nI to)), some (.int (nI (A k fr))), some (.int (nI (fr + j)))]) (W := fun j c i => if c = k ∧ fr ≤ i ∧ i < fr + j then A k (i + 1) else A c i) (to - fr) (by funext c i; exact if_neg (by omega)) (fun j hj => ?_)).trans ?_
  · refine b83_7.trans ?_
    rw [i_lt (by omega) (by omega)]
    refine (b83_13 (by rw [n_add]; exact w_al hk (by omega) hn) (w_as _ hk (by omega) hn)).trans ?_
    rw [n_add]
    refine congrArg (fun w => zd scr 83 7 _ [] w) (congrArg wd ?_)
    funext c i
    simp only [up, true_and, and_true]
    (repeat' split) <;> first | rfl | (exfalso; omega) | (exact zAe (by omega) (by omega)) | (exact congrArg (fun q => q + 1) (zAe (by omega) (by omega))) | (exact congrArg (fun q => q - zcnt A p h) (zAe (by omega) (by omega)))
  · refine b83_7.trans ?_
    rw [i_nlt (by omega) (by omega)]
    refine (b83_29 (w_as _ hk (by omega) hn)).trans ?_
    refine congrArg (fun w => some (none, w)) (congrArg wd ?_)
    funext c i
    simp only [up, mvA, true_and, and_true]
    (repeat' split) <;> first | rfl | (exfalso; omega) | (exact zAe (by omega) (by omega)) | (exact congrArg (fun q => q + 1) (zAe (by omega) (by omega))) | (exact congrArg (fun q => q - zcnt A p h) (zAe (by omega) (by omega)))
/-- the first marble of the hopper goes to the end of a bag -/
def gvA (A : Nat → Nat → Nat) (p h : Nat) : Nat → Nat → Nat := fun c i =>
  if c = p + 2 ∧ i = A (p + 3) (h + 1) then A (p + 2) (A (p + 3) 6)
  else if c = p + 2 ∧ A (p + 3) (h + 1) < i ∧ i ≤ A (p + 3) 6 then A (p + 2) (i - 1)
  else if c = p + 3 ∧ h < i ∧ i ≤ 6 then A (p + 3) i + 1
  else A c i
theorem m_give (hp : zsb p) (hm : zmo A p) (hh : h < 6) (hne : 0 < zcnt A p 6) : zC scr 17 [.ref (p + 1), .int (nI h)] (wd A) = some (none, wd (gvA A p h)) := by
  have h1 := zmo_le hm (a := h + 1) (b := 6) (by omega) (by omega)
  have h2 := zmo_120 hm (b := 7) (by omega)
  have h3 : A (p + 3) 6 < 120 := by
    have : zcnt A p 6 = A (p + 3) 7 - A (p + 3) 6 := rfl
    omega
  have h4 : zcnt A p 6 ≤ 120 := by
    have : zcnt A p 6 = A (p + 3) 7 - A (p + 3) 6 := rfl
    omega
  rw [zC_of zh17]
  refine (b17_0 (o_ob (o_mb hp)) (m_count hp hm (by omega))).trans ?_
  rw [i_ne0 (by omega) (by omega)]
  refine (b17_10 (o_gf (o_mb hp) rfl) (w_al (zw3 hp) (by omega) (by omega)) (o_gf (o_mb hp) rfl) (by rw [n_add]; exact w_al (zw3 hp) (by omega) (by omega)) (o_gf (o_mb hp) rfl) (w_al (zw2 hp) h3 (by omega))).trans ?_
  refine (zloopA (scr := scr) (mi := 17) (pc := 38) (st := []) (L := fun j => [some (.ref (p + 1)), some (.int (nI h)), some (.int (nI (A (p + 3) 6))), some (.int (nI (A (p + 3) (h + 1)))), some (.int (nI (A (p + 2) (A (p + 3) 6)))), some (.int (nI (A (p + 3) 6 - j)))])
    (W := fun j c i => if c = p + 2 ∧ A (p + 3) 6 - j < i ∧ i ≤ A (p + 3) 6 then A (p + 2) (i - 1) else A c i) (A (p + 3) 6 - A (p + 3) (h + 1)) (by funext c i; exact if_neg (by omega)) (fun j hj => ?_)).trans ?_
  · refine b17_38.trans ?_
    rw [i_lt (by omega) (by omega)]
    refine (b17_44 (o_gf (o_mb hp) rfl) (o_gf (o_mb hp) rfl) (by rw [n_sub (by omega)]; exact w_al (zw2 hp) (by omega) (by omega)) (w_as _ (zw2 hp) (by omega) (by omega))).trans ?_
    rw [n_sub (by omega), show A (p + 3) 6 - j - 1 = A (p + 3) 6 - (j + 1) by omega]
    refine congrArg (fun w => zd scr 17 38 _ [] w) (congrArg wd ?_)
    funext c i
    simp only [up, true_and, and_true]
    (repeat' split) <;> first | rfl | (exfalso; omega) | (exact zAe (by omega) (by omega)) | (exact congrArg (fun q => q + 1) (zAe (by omega) (by omega))) | (exact congrArg (fun q => q - zcnt A p h) (zAe (by omega) (by omega)))
  · refine b17_38.trans ?_
    rw [i_nlt (by omega) (by omega)]
    refine (b17_66 (o_gf (o_mb hp) rfl) (w_as _ (zw2 hp) (by omega) (by omega))).trans ?_
    rw [n_add]
    have hB : ∀ (B : Nat → Nat → Nat), (∀ i, B (p + 3) i = A (p + 3) i) → zd scr 17 79 [some (.ref (p + 1)), some (.int (nI h)), some (.int (nI (A (p + 3) 6))), some (.int (nI (A (p + 3) (h + 1)))), some (.int (nI (A (p + 2) (A (p + 3) 6)))), some (.int (nI (h + 1)))] [] (wd B) = some (none, wd (fun c i => if c = p + 3 ∧ h < i ∧ i ≤ 6 then A (p + 3) i + 1 else B c i)) := by
      intro B hB
      refine (zloopA (scr := scr) (mi := 17) (pc := 79) (st := []) (L := fun j => [some (.ref (p + 1)), some (.int (nI h)), some (.int (nI (A (p + 3) 6))), some (.int (nI (A (p + 3) (h + 1)))), some (.int (nI (A (p + 2) (A (p + 3) 6)))), some (.int (nI (h + 1 + j)))])
        (W := fun j c i => if c = p + 3 ∧ h < i ∧ i < h + 1 + j then A (p + 3) i + 1 else B c i) (6 - h) (by funext c i; exact if_neg (by omega)) (fun j hj => ?_)).trans ?_
      · refine b17_79.trans ?_
        rw [i_le (by omega) (by omega)]
        refine (b17_86 (o_gf (o_mb hp) rfl) (w_al (zw3 hp) (by omega) (by omega)) (by rw [n_add]; exact w_as _ (zw3 hp) (by omega) (by omega))).trans ?_
        rw [n_add]
        refine congrArg (fun w => zd scr 17 79 _ [] w) (congrArg wd ?_)
        funext c i
        simp only [up, true_and, and_true]
        (repeat' split) <;> first | rfl | (exfalso; omega) | (rw [hB]; exact congrArg (fun q => q + 1) (zAe (by omega) (by omega))) | (exact congrArg (fun q => q + 1) (zAe (by omega) (by omega)))
      · refine b17_79.trans ?_
        rw [i_nle (by omega) (by omega)]
        refine b17_103.trans ?_
        refine congrArg (fun w => some (none, w)) (congrArg wd ?_)
        funext c i
        (repeat' split) <;> first | rfl | (exfalso; omega)
    refine (hB _ (fun i => ?_)).trans ?_
    · simp only [up, true_and, and_true]
      rw [if_neg (by omega), if_neg (by omega)]
    · refine congrArg (fun w => some (none, w)) (congrArg wd ?_)
      funext c i
      simp only [up, gvA, true_and, and_true]
      (repeat' split) <;> first | rfl | (exfalso; omega) | (exact zAe (by omega) (by omega)) | (exact congrArg (fun q => q + 1) (zAe (by omega) (by omega))) | (exact congrArg (fun q => q - zcnt A p h) (zAe (by omega) (by omega)))
theorem m_give0 (hp : zsb p) (hm : zmo A p) (hne : zcnt A p 6 = 0) : zC scr 17 [.ref (p + 1), .int (nI h)] (wd A) = some (none, wd A) := by
  rw [zC_of zh17]
  refine (b17_0 (o_ob (o_mb hp)) (m_count hp hm (by omega))).trans ?_
  rw [i_eq0 hne]
  exact b17_9
/-- two marbles change their places -/
def trA (A : Nat → Nat → Nat) (p one two : Nat) : Nat → Nat → Nat := up (up A (p + 2) one (A (p + 2) two)) (p + 2) two (A (p + 2) one)
theorem m_trade {g i j : Nat} (hp : zsb p) (hh : h < 7) (hg : g < 7) (hi : A (p + 3) h + i < 120) (hj : A (p + 3) g + j < 120) : zC scr 18 [.ref (p + 1), .int (nI h), .int (nI i), .int (nI g), .int (nI j)] (wd A) = some (none, wd (trA A p (A (p + 3) h + i) (A (p + 3) g + j))) := by
  rw [zC_of zh18]
  exact b18_0 (o_gf (o_mb hp) rfl) (w_al (zw3 hp) (by omega) (by omega)) (o_gf (o_mb hp) rfl) (w_al (zw3 hp) (by omega) (by omega)) (o_gf (o_mb hp) rfl) (by rw [n_add]; exact w_al (zw2 hp) hi (by omega)) (o_gf (o_mb hp) rfl) (o_gf (o_mb hp) rfl) (by rw [n_add]; exact w_al (zw2 hp) hj (by omega)) (by rw [n_add]; exact w_as _ (zw2 hp) hi (by omega)) (o_gf (o_mb hp) rfl) (by rw [n_add]; exact w_as _ (zw2 hp) hj (by omega))
/-- a bag's marbles go to the end of the hopper, the bag goes -/
def rbA (A : Nat → Nat → Nat) (p h : Nat) : Nat → Nat → Nat := fun c i =>
  if c = p + 2 ∧ A (p + 3) h ≤ i ∧ i < A (p + 3) 7 then (if i + zcnt A p h < A (p + 3) 7 then A (p + 2) (i + zcnt A p h) else A (p + 2) (A (p + 3) h + (i + zcnt A p h - A (p + 3) 7)))
  else if c = p + 3 ∧ h < i ∧ i < 6 then A (p + 3) (i + 1) - zcnt A p h
  else if c = p + 3 ∧ i = 6 then A (p + 3) 6 - zcnt A p h
  else A c i
theorem m_removeBag (hp : zsb p) (hm : zmo A p) (hh : h < 6) : zC scr 19 [.ref (p + 1), .int (nI h)] (wd A) = some (none, wd (rbA A p h)) := by
  have h0 := hm.1 h (by omega)
  have h1 := zmo_le hm (a := h + 1) (b := 7) (by omega) (by omega)
  have h2 := zmo_120 hm (b := 7) (by omega)
  have hc : zcnt A p h = A (p + 3) (h + 1) - A (p + 3) h := rfl
  rw [zC_of zh19]
  refine (b19_0 (o_ob (o_mb hp)) (m_count hp hm (by omega))).trans ?_
  -- the marbles go one by one
  refine (zloopA (scr := scr) (mi := 19) (pc := 8) (st := []) (L := fun j => [some (.ref (p + 1)), some (.int (nI h)), some (.int (nI (zcnt A p h))), some (.int (nI j))])
    (W := fun j c i => if c = p + 2 ∧ A (p + 3) h ≤ i ∧ i < A (p + 3) 7 then (if i + j < A (p + 3) 7 then A (p + 2) (i + j) else A (p + 2) (A (p + 3) h + (i + j - A (p + 3) 7))) else A c i) (zcnt A p h) ?_ (fun j hj => ?_)).trans ?_
  · funext c i
    (repeat' split) <;> first | rfl | (exfalso; omega) | (exact zAe (by omega) (by omega)) | (exact congrArg (fun q => q + 1) (zAe (by omega) (by omega))) | (exact congrArg (fun q => q - zcnt A p h) (zAe (by omega) (by omega)))
  · refine b19_8.trans ?_
    rw [i_lt hj (by omega)]
    have e1 : ∀ i, (if (p + 3 = p + 2 ∧ A (p + 3) h ≤ i ∧ i < A (p + 3) 7) then (if i + j < A (p + 3) 7 then A (p + 2) (i + j) else A (p + 2) (A (p + 3) h + (i + j - A (p + 3) 7))) else A (p + 3) i) = A (p + 3) i := fun i => if_neg (by omega)
    refine (b19_13 (o_gf (o_mb hp) rfl) (o_gf (o_mb hp) rfl) (w_al (zw3 hp) (by omega) (by omega)) (o_gf (o_mb hp) rfl) (w_al (zw3 hp) (by omega) (by omega)) (by
      rw [e1, e1, n_sub (by omega)]
      exact m_moveBack (zw2 hp) (by omega) (by omega) (by omega))).trans ?_
    rw [n_add]
    refine congrArg (fun w => zd scr 19 8 _ [] w) (congrArg wd ?_)
    funext c i
    simp only [mvA, true_and, and_true]
    (repeat' split) <;> first | rfl | (exfalso; omega) | (exact zAe (by omega) (by omega)) | (exact congrArg (fun q => q + 1) (zAe (by omega) (by omega))) | (exact congrArg (fun q => q - zcnt A p h) (zAe (by omega) (by omega)))
  · refine b19_8.trans ?_
    rw [i_nlt (by omega) (by omega)]
    refine b19_41.trans ?_
    rw [n_add]
    have hfin : ∀ (B : Nat → Nat → Nat), (∀ i, B (p + 3) i = A (p + 3) i) → zd scr 19 45 [some (.ref (p + 1)), some (.int (nI h)), some (.int (nI (zcnt A p h))), some (.int (nI (h + 1)))] [] (wd B) = some (none, wd (fun c i => if c = p + 3 ∧ h < i ∧ i < 6 then A (p + 3) (i + 1) - zcnt A p h else if c = p + 3 ∧ i = 6 then A (p + 3) 6 - zcnt A p h else B c i)) := by
      intro B hB
      have hle : ∀ i, h < i → i ≤ 7 → zcnt A p h ≤ A (p + 3) i := fun i hi hi2 => by
        have := zmo_le hm (a := h + 1) (b := i) (by omega) hi2
        omega
      refine (zloopA (scr := scr) (mi := 19) (pc := 45) (st := []) (L := fun j => [some (.ref (p + 1)), some (.int (nI h)), some (.int (nI (zcnt A p h))), some (.int (nI (h + 1 + j)))])
        (W := fun j c i => if c = p + 3 ∧ h < i ∧ i < h + 1 + j then A (p + 3) i - zcnt A p h else B c i) (6 - h) (by funext c i; exact if_neg (by omega)) (fun j hj => ?_)).trans ?_
      · refine b19_45.trans ?_
        rw [i_le (by omega) (by omega)]
        refine (b19_51 (o_gf (o_mb hp) rfl) (w_al (zw3 hp) (by omega) (by omega)) (w1 := wd (up (fun c i => if c = p + 3 ∧ h < i ∧ i < h + 1 + j then A (p + 3) i - zcnt A p h else B c i) (p + 3) (h + 1 + j) (A (p + 3) (h + 1 + j) - zcnt A p h))) (by
          rw [if_neg (by omega), hB, n_sub (hle _ (by omega) (by omega))]
          exact w_as _ (zw3 hp) (by omega) (by omega))).trans ?_
        rw [n_add]
        refine congrArg (fun w => zd scr 19 45 _ [] w) (congrArg wd ?_)
        funext c i
        simp only [up, true_and, and_true]
        (repeat' split) <;> first | rfl | (exfalso; omega) | (exact zAe (by omega) (by omega)) | (exact congrArg (fun q => q + 1) (zAe (by omega) (by omega))) | (exact congrArg (fun q => q - zcnt A p h) (zAe (by omega) (by omega)))
      · refine b19_45.trans ?_
        rw [i_nle (by omega) (by omega)]
        refine b19_67.trans ?_
        rw [n_add]
        refine (zloopA (scr := scr) (mi := 19) (pc := 71) (st := []) (L := fun j => [some (.ref (p + 1)), some (.int (nI h)), some (.int (nI (zcnt A p h))), some (.int (nI (h + 1 + j)))])
          (W := fun j c i => if c = p + 3 ∧ h < i ∧ i < h + 1 + j then A (p + 3) (i + 1) - zcnt A p h else if c = p + 3 ∧ h < i ∧ i ≤ 6 then A (p + 3) i - zcnt A p h else B c i) (5 - h) ?_ (fun j hj => ?_)).trans ?_
        · funext c i
          (repeat' split) <;> first | rfl | (exfalso; omega)
        · refine b19_71.trans ?_
          rw [i_lt (by omega) (by omega)]
          refine (b19_77 (o_gf (o_mb hp) rfl) (o_gf (o_mb hp) rfl) (by rw [n_add]; exact w_al (zw3 hp) (by omega) (by omega)) (w_as _ (zw3 hp) (by omega) (by omega))).trans ?_
          rw [n_add]
          refine congrArg (fun w => zd scr 19 71 _ [] w) (congrArg wd ?_)
          funext c i
          simp only [up, true_and, and_true]
          (repeat' split) <;> first | rfl | (exfalso; omega) | (exact zAe (by omega) (by omega)) | (exact congrArg (fun q => q + 1) (zAe (by omega) (by omega))) | (exact congrArg (fun q => q - zcnt A p h) (zAe (by omega) (by omega)))
        · refine b19_71.trans ?_
          rw [i_nlt (by omega) (by omega)]
          refine b19_97.trans ?_
          refine congrArg (fun w => some (none, w)) (congrArg wd ?_)
          funext c i
          (repeat' split) <;> first | rfl | (exfalso; omega) | (exact zAe (by omega) (by omega)) | (exact congrArg (fun q => q + 1) (zAe (by omega) (by omega))) | (exact congrArg (fun q => q - zcnt A p h) (zAe (by omega) (by omega)))
    refine (hfin _ (fun i => ?_)).trans ?_
    · rw [if_neg (by omega)]
    · refine congrArg (fun w => some (none, w)) (congrArg wd ?_)
      funext c i
      simp only [rbA]
      (repeat' split) <;> first | rfl | (exfalso; omega) | (exact zAe (by omega) (by omega)) | (exact congrArg (fun q => q + 1) (zAe (by omega) (by omega))) | (exact congrArg (fun q => q - zcnt A p h) (zAe (by omega) (by omega)))
end MV
