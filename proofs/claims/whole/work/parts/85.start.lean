/-! the law's start: both objects are made -/
theorem zI_scr {scr : List Int32} {mi pc : Nat} {r : zRec} {ls : zLs} {st : List Value} {w : zAW} {d : Instr × Nat} (hm : mi ≠ 154) : zI scr mi r pc ls st w d = zI [] mi r pc ls st w d := by
  unfold zI
  simp only [hm, false_and, if_false]
theorem zx_scr {scr : List Int32} : ∀ (n : Nat) {mi pc : Nat} {ls : zLs} {st : List Value} {w : zAW}, mi < 154 → zx scr n mi pc ls st w = zx [] n mi pc ls st w
  | 0, _, _, _, _, _, _ => rfl
  | n + 1, mi, pc, ls, st, w, hm => by
    unfold zx
    cases zMs[mi]? with
    | none => rfl
    | some r =>
      dsimp only
      cases zfind r.2.2.2.2.1 pc with
      | none => rfl
      | some d =>
        dsimp only
        rw [zI_scr (scr := scr) (by omega)]
        cases hI : zI [] mi r pc ls st w d with
        | none => rfl
        | some nx =>
          rcases nx with q | q | rv
          · exact zx_scr n hm
          · dsimp only
            have hq : q.1 < 154 := by
              rcases zI_call hI with ⟨i, mj, -, -, h⟩ | ⟨i, mj, k, -, -, -, h⟩ | ⟨i, mj, k, -, -, -, h⟩
              · obtain ⟨rj, a, rest, fs, -, -, -, -, h5, -, -, e⟩ := zcallV_some h
                cases e; exact h5
              · obtain ⟨rj, a, rest, fs, -, -, -, -, h5, -, -, e⟩ := zcallV_some h
                cases e; exact h5
              · obtain ⟨rj, -, -, -, -, h5, -, e⟩ := zcallS_some h
                cases e; exact h5
            cases zMs[q.1]? with
            | none => rfl
            | some rj =>
              dsimp only
              rw [zx_scr n hq]
              cases zx [] n q.1 0 (zent rj q.2.1) [] w with
              | none => rfl
              | some a => exact zx_scr n hm
          · rfl
theorem zd_new {scr : List Int32} {mi pc : Nat} {ls : zLs} {st : List Value} {w : zAW} {r : zRec} {a i c k : Nat} {fs : List Value} (hr : zMs[mi]? = some r) (hf : zfind2 zNt r.2.2.2.2.2.1 i = some (c, k)) (hD : zDf[c]? = some fs) (hl : w.length = a) (hd : zfind r.2.2.2.2.1 pc = some (.new i, 3)) : zd scr mi pc ls st w = zd scr mi (pc + 3) ls (.ref a :: st) (w ++ [.inr (.inr (c, fs))]) := zd_step (q := (pc + 3, ls, .ref a :: st, w ++ [.inr (.inr (c, fs))])) hr hd (by subst hl; simp only [zI, hf, hD])
/-- what stands when both are made -/
def A0 : Nat → Nat → Nat := fun c i => if c = 71 then (if i = 2 ∨ (8 ≤ i ∧ i < 12) then 2 else 0) else if c = 26 then 27 + 8 * i else if c = 76 then 1 else if (c = 1 ∨ c = 9 ∨ c = 17 ∨ c = 27 ∨ c = 35 ∨ c = 43 ∨ c = 51 ∨ c = 59) ∧ i = 7 then 2 else if c = 8 ∨ c = 16 ∨ c = 24 ∨ c = 34 ∨ c = 42 ∨ c = 50 ∨ c = 58 ∨ c = 66 then 2 else 0
def zw1 : zAW := (wd A0).take 70
def zD5 : List Value := [.null, .null, .null, .int 0, .null, .null, .null]
def zD6 : List Value := [.null, .null, .null, .int 0, .null, .int 0, .null, .int 0, .null, .int 0]
def zve : Value → Value → Bool
  | .int x, .int y => decide (x = y)
  | .ref x, .ref y => Nat.beq x y
  | .null, .null => true
  | _, _ => false
theorem zve_eq {u v : Value} (h : zve u v = true) : u = v := by
  unfold zve at h
  split at h
  · rw [of_decide_eq_true h]
  · rw [Nat.eq_of_beq_eq_true h]
  · rfl
  · cases h
def zvle : List Value → List Value → Bool
  | [], [] => true
  | u :: l, v :: m => zve u v && zvle l m
  | _, _ => false
theorem zvle_eq : ∀ {l m : List Value}, zvle l m = true → l = m
  | [], [], _ => rfl
  | u :: l, v :: m, h => by
    unfold zvle at h
    rw [Bool.and_eq_true] at h
    rw [zve_eq h.1, zvle_eq h.2]
  | [], _ :: _, h => by cases h
  | _ :: _, [], h => by cases h
def zce : zAC → zAC → Bool
  | .inl l, .inl m => decide (l = m)
  | .inr (.inl l), .inr (.inl m) => decide (l = m)
  | .inr (.inr o), .inr (.inr q) => decide (o.1 = q.1) && zvle o.2 q.2
  | _, _ => false
theorem zce_eq {c d : zAC} (h : zce c d = true) : c = d := by
  unfold zce at h
  split at h
  · rw [of_decide_eq_true h]
  · rw [of_decide_eq_true h]
  · rename_i o q
    rw [Bool.and_eq_true] at h
    rw [show o = q from Prod.ext (of_decide_eq_true h.1) (zvle_eq h.2)]
  · cases h
def zwe : zAW → zAW → Bool
  | [], [] => true
  | c :: w, d :: v => zce c d && zwe w v
  | _, _ => false
theorem zwe_eq : ∀ {w v : zAW}, zwe w v = true → w = v
  | [], [], _ => rfl
  | u :: l, v :: m, h => by
    unfold zwe at h
    rw [Bool.and_eq_true] at h
    rw [zce_eq h.1, zwe_eq h.2]
  | [], _ :: _, h => by cases h
  | _ :: _, [], h => by cases h
def zrn : Option zRs → zAW → Bool
  | some (none, w), v => zwe w v
  | _, _ => false
theorem zrn_eq {a : Option zRs} {v : zAW} (h : zrn a v = true) : a = some (none, v) := by
  unfold zrn at h
  split at h
  · rw [zwe_eq h]
  · cases h
theorem run_52 : zx [] 300 52 0 (zent zr52 [.ref 0]) [] [.inr (.inr (5, zD5))] = some (none, zw1) := zrn_eq (by decide +kernel)
theorem run_86 : zx [] 300 86 0 (zent zr86 [.ref 70]) [] (zw1 ++ [.inr (.inr (6, zD6))]) = some (none, wd A0) := zrn_eq (by decide +kernel)
theorem zw1_len : zw1.length = 70 := by
  unfold zw1
  rw [List.length_take, wd_len]; rfl
theorem law_start {scr : List Int32} : zd scr 154 0 [some (.retAddr 0), none, none, none] [] [] = zd scr 154 18 [some (.retAddr 0), some (.ref 0), some (.ref 70), some (.int (nI 0))] [] (wd A0) := by
  have h1 : zC scr 52 [.ref 0] [.inr (.inr (5, zD5))] = some (none, zw1) := (zC_of zh52).trans (zd_iff.mpr ⟨300, (zx_scr 300 (by omega)).trans run_52⟩)
  have h2 : zC scr 86 [.ref 70] (zw1 ++ [.inr (.inr (6, zD6))]) = some (none, wd A0) := (zC_of zh86).trans (zd_iff.mpr ⟨300, (zx_scr 300 (by omega)).trans run_86⟩)
  refine (zd_new (a := 0) (i := 7) (c := 5) (k := 7) (fs := zD5) zh154 rfl rfl rfl rfl).trans ?_
  refine (zd_dup zh154 rfl).trans ?_
  refine (zd_invIv (i := 9) (a := 0) (as := [.ref 0]) (rest := [.ref 0]) zh154 zh52 rfl rfl (by decide) rfl rfl h1 rfl).trans ?_
  refine (zd_astore_n (k := 1) (ls' := [some (.retAddr 0), some (.ref 0), none, none]) zh154 (by decide) rfl rfl).trans ?_
  refine (zd_new (a := 70) (i := 10) (c := 6) (k := 10) (fs := zD6) zh154 rfl rfl zw1_len rfl).trans ?_
  refine (zd_dup zh154 rfl).trans ?_
  refine (zd_invIv (i := 12) (a := 70) (as := [.ref 70]) (rest := [.ref 70]) zh154 zh86 rfl rfl (by decide) rfl (by decide +kernel) h2 rfl).trans ?_
  refine (zd_astore_n (k := 2) (ls' := [some (.retAddr 0), some (.ref 0), some (.ref 70), none]) zh154 (by decide) rfl rfl).trans ?_
  refine (zd_iconst (n := 0) (v := nI 0) zh154 rfl rfl).trans ?_
  exact zd_istore_n (k := 3) (ls' := [some (.retAddr 0), some (.ref 0), some (.ref 70), some (.int (nI 0))]) zh154 (by decide) rfl rfl
theorem iv0 : zIV A0 := by
  refine ⟨⟨⟨⟨fun h _ => ?_, ?_⟩, fun i _ => ?_, ?_, fun h hh => ?_, ?_, ?_, fun m _ => ?_⟩, ⟨?_, ?_, ?_, ?_, ?_, fun m hm => ?_, fun h hh => ?_, fun k hk => ?_, fun g hg => ?_⟩, ⟨fun i j hi _ _ => ?_, fun h hh => ?_⟩, ⟨fun h _ => ?_, ?_, ?_, fun k hk => ?_, fun g hg => ?_⟩, ⟨?_, ?_, ?_, ?_, ?_, ?_, fun m hm => ?_, fun h hh => ?_⟩⟩, ⟨?_, ?_, fun e => ?_⟩, ⟨⟨?_, fun i hi => ?_, fun i j hi hj e => ?_⟩, ?_, fun k hk => ?_⟩, ⟨?_, fun i hi => ?_⟩, ?_, fun i hi => ?_⟩
  · exact Nat.le_refl 0
  · exact Nat.zero_le 120
  · exact (by decide : 0 < 1000)
  · exact (by decide : 0 ≤ 6)
  · exact absurd hh (Nat.not_lt_zero h)
  · exact (by decide : 0 < 3)
  · exact (by decide : 2 < 9)
  · exact (by decide : 2 < 10)
  · exact (by decide : 0 ≤ 6)
  · exact (by decide : 0 < 3)
  · exact (by decide : 2 < 9)
  · exact (by decide : 0 ≤ 40)
  · exact (by decide : 0 ≤ 120)
  · show (if 8 + m = 2 ∨ (8 ≤ 8 + m ∧ 8 + m < 12) then 2 else 0) < 10
    split <;> omega
  · exact absurd hh (Nat.not_lt_zero h)
  · exact absurd hk (Nat.not_lt_zero k)
  · exact absurd hg (Nat.not_lt_zero g)
  · exact absurd hi (Nat.not_lt_zero i)
  · exact absurd hh (Nat.not_lt_zero h)
  · rfl
  · rfl
  · rfl
  · exact absurd hk (Nat.not_lt_zero k)
  · exact absurd hg (Nat.not_lt_zero g)
  · rfl
  · rfl
  · rfl
  · rfl
  · rfl
  · rfl
  · show 2 = (if 8 + m = 2 ∨ (8 ≤ 8 + m ∧ 8 + m < 12) then 2 else 0)
    rw [if_pos (by omega)]
  · exact absurd hh (Nat.not_lt_zero h)
  · rfl
  · exact (by decide : 0 ≤ 1)
  · exact absurd (show 0 = 1 from e) (by decide)
  · exact (by decide : 0 ≤ 5)
  · show zsb (27 + 8 * i) ∧ 27 ≤ 27 + 8 * i
    unfold zsb
    omega
  · have e1 : 27 + 8 * i = 27 + 8 * j := e
    omega
  · rfl
  · exact absurd hk (Nat.not_lt_zero k)
  · exact (by decide : 0 ≤ 50)
  · exact absurd hi (Nat.not_lt_zero i)
  · rfl
  · exact absurd hi (Nat.not_lt_zero i)
theorem zc1_le {A : Nat → Nat → Nat} (k : Nat) : zc1s (zcell A k) ≤ 950 := by
  have hr : ∀ (a : Nat → Nat) n, n ≤ 950 → zc1s (zrow a n) ≤ 950 := fun a n h => by
    show ((List.range n).map (fun i => nI (a i))).length ≤ 950
    rw [List.length_map, List.length_range]; exact h
  have hs : ∀ (a : Nat → Nat) k t, zc1s (zscell a k t) ≤ 950 := fun a k t => by
    unfold zscell
    split
    · exact (by decide : 11 ≤ 950)
    · split
      · exact (by decide : 2 ≤ 950)
      · refine hr _ _ ?_
        unfold zsl
        split <;> omega
  have hi : ∀ (c : Prop) [Decidable c] (x y : zAC), zc1s x ≤ 950 → zc1s y ≤ 950 → zc1s (if c then x else y) ≤ 950 := fun c _ x y h1 h2 => by
    by_cases hc : c
    · rw [if_pos hc]; exact h1
    · rw [if_neg hc]; exact h2
  unfold zcell zcellf
  refine hi _ _ _ (by decide : 7 ≤ 950) (hi _ _ _ (hs _ _ _) (hi _ _ _ (by decide : 2 ≤ 950) (hi _ _ _ (by decide : 5 ≤ 950) (hi _ _ _ (hs _ _ _) (hi _ _ _ (by decide : 2 ≤ 950) (hi _ _ _ (hr _ _ (by omega)) (hi _ _ _ (by decide : 6 ≤ 950) (hi _ _ _ (by decide : 10 ≤ 950) (hi _ _ _ (hr _ _ (by omega)) (hi _ _ _ (hr _ _ (by omega)) (hi _ _ _ ?_ (hr _ _ (by omega)))))))))))))
  show ((List.range 7).map (fun i => bz (A k i))).length ≤ 950
  rw [List.length_map, List.length_range]
  omega
theorem zsz_wd {A : Nat → Nat → Nat} : zsz (wd A) ≤ 73150 := by
  have h : ∀ l : List Nat, zsz (l.map (zcell A)) ≤ 950 * l.length := fun l => by
    induction l with
    | nil => exact Nat.le_refl 0
    | cons k l ih =>
      have h1 := zc1_le (A := A) k
      have h2 : zsz ((k :: l).map (zcell A)) = zc1s (zcell A k) + zsz (l.map (zcell A)) := by simp [zsz]
      rw [h2, List.length_cons]
      omega
  have h2 := h (List.range 77)
  rw [List.length_range] at h2
  exact h2
theorem law_runs : zLawRuns := by
  intro scr hl
  obtain ⟨A2, h⟩ := law_loop hl 2560 0 A0 iv0 (by omega) (by omega)
  refine ⟨wd A2, zd_iff.mp (law_start.trans h), by rw [wd_len]; omega, ?_⟩
  have := zsz_wd (A := A2)
  omega
