/-! the law's start, its loop, and what it comes to -/
theorem zI_scr {scr : List Int32} {mi pc : Nat} {r : zRec} {ls : zLs} {st : List Value} {w : zAW} {d : Instr × Nat} (hm : ¬ 94 < mi) : zI scr mi r pc ls st w d = zI [] mi r pc ls st w d := by
  unfold zI
  simp only [hm, false_and, if_false]
theorem zx_scr {scr : List Int32} : ∀ (n : Nat) {mi pc : Nat} {ls : zLs} {st : List Value} {w : zAW}, mi < 95 → zx scr n mi pc ls st w = zx [] n mi pc ls st w
  | 0, _, _, _, _, _, _ => rfl
  | n + 1, mi, pc, ls, st, w, hm => by
    unfold zx
    cases zMs[mi]? with
    | none => rfl
    | some r =>
      dsimp only
      cases zfind r.2.2.2.2.1 pc with
      | none => rfl
      | some d =>
        dsimp only
        rw [zI_scr (scr := scr) (by omega)]
        cases hI : zI [] mi r pc ls st w d with
        | none => rfl
        | some nx =>
          rcases nx with q | q | rv
          · exact zx_scr n hm
          · dsimp only
            have hq : q.1 < 95 := by
              rcases zI_call hI with ⟨i, mj, -, -, h⟩ | ⟨i, mj, k, -, -, -, h⟩ | ⟨i, mj, k, -, -, -, h⟩
              · obtain ⟨rj, a, rest, fs, -, -, -, -, h5, -, -, e⟩ := zcallV_some h
                cases e; exact h5
              · obtain ⟨rj, a, rest, fs, -, -, -, -, h5, -, -, e⟩ := zcallV_some h
                cases e; exact h5
              · obtain ⟨rj, -, -, -, -, h5, -, e⟩ := zcallS_some h
                cases e; show _ < 95; omega
            cases zMs[q.1]? with
            | none => rfl
            | some rj =>
              dsimp only
              rw [zx_scr n hq]
              cases zx [] n q.1 0 (zent rj q.2.1) [] w with
              | none => rfl
              | some a => exact zx_scr n hm
          · rfl
theorem zd_new {scr : List Int32} {mi pc : Nat} {ls : zLs} {st : List Value} {w : zAW} {r : zRec} {a i c k : Nat} {fs : List Value} (hr : zMs[mi]? = some r) (hf : zfind2 zNt r.2.2.2.2.2.1 i = some (c, k)) (hD : zDf[c]? = some fs) (hl : w.length = a) (hd : zfind r.2.2.2.2.1 pc = some (.new i, 3)) : zd scr mi pc ls st w = zd scr mi (pc + 3) ls (.ref a :: st) (w ++ [.inr (.inr (c, fs))]) := zd_step (q := (pc + 3, ls, .ref a :: st, w ++ [.inr (.inr (c, fs))])) hr hd (by subst hl; simp only [zI, hf, hD])
/-- what stands when both are made -/
def A0 : Nat → Nat → Nat := fun c i => if c = 71 then (if i = 2 ∨ (8 ≤ i ∧ i < 12) then 2 else 0) else if c = 26 then 27 + 8 * i else if c = 76 then 1 else if (c = 1 ∨ c = 9 ∨ c = 17 ∨ c = 27 ∨ c = 35 ∨ c = 43 ∨ c = 51 ∨ c = 59) ∧ i = 7 then 2 else if c = 8 ∨ c = 16 ∨ c = 24 ∨ c = 34 ∨ c = 42 ∨ c = 50 ∨ c = 58 ∨ c = 66 then 2 else 0
def zD5 : List Value := [.null, .null, .null, .int 0, .null, .null, .null]
def zve : Value → Value → Bool
  | .int x, .int y => decide (x = y)
  | .ref x, .ref y => Nat.beq x y
  | .null, .null => true
  | _, _ => false
theorem zve_eq {u v : Value} (h : zve u v = true) : u = v := by
  unfold zve at h
  split at h
  · rw [of_decide_eq_true h]
  · rw [Nat.eq_of_beq_eq_true h]
  · rfl
  · cases h
def zvle : List Value → List Value → Bool
  | [], [] => true
  | u :: l, v :: m => zve u v && zvle l m
  | _, _ => false
theorem zvle_eq : ∀ {l m : List Value}, zvle l m = true → l = m
  | [], [], _ => rfl
  | u :: l, v :: m, h => by
    unfold zvle at h
    rw [Bool.and_eq_true] at h
    rw [zve_eq h.1, zvle_eq h.2]
  | [], _ :: _, h => by cases h
  | _ :: _, [], h => by cases h
def zce : zAC → zAC → Bool
  | .inl l, .inl m => decide (l = m)
  | .inr (.inl l), .inr (.inl m) => decide (l = m)
  | .inr (.inr o), .inr (.inr q) => decide (o.1 = q.1) && zvle o.2 q.2
  | _, _ => false
theorem zce_eq {c d : zAC} (h : zce c d = true) : c = d := by
  unfold zce at h
  split at h
  · rw [of_decide_eq_true h]
  · rw [of_decide_eq_true h]
  · rename_i o q
    rw [Bool.and_eq_true] at h
    rw [show o = q from Prod.ext (of_decide_eq_true h.1) (zvle_eq h.2)]
  · cases h
def zwe : zAW → zAW → Bool
  | [], [] => true
  | c :: w, d :: v => zce c d && zwe w v
  | _, _ => false
theorem zwe_eq : ∀ {w v : zAW}, zwe w v = true → w = v
  | [], [], _ => rfl
  | u :: l, v :: m, h => by
    unfold zwe at h
    rw [Bool.and_eq_true] at h
    rw [zce_eq h.1, zwe_eq h.2]
  | [], _ :: _, h => by cases h
  | _ :: _, [], h => by cases h
def zrn : Option zRs → zAW → Bool
  | some (none, w), v => zwe w v
  | _, _ => false
theorem zrn_eq {a : Option zRs} {v : zAW} (h : zrn a v = true) : a = some (none, v) := by
  unfold zrn at h
  split at h
  · rw [zwe_eq h]
  · cases h
theorem run_52 : zx [] 300 52 0 (zent zr52 [.ref 0]) [] [.inr (.inr (5, zD5))] = some (none, wd A0) := zrn_eq (by decide +kernel)
theorem law_start {scr : List Int32} : zd scr 96 0 [some (.retAddr 0), none, none, none, none] [] [] = zd scr 96 8 [some (.retAddr 0), some (.ref 0), none, none, none] [] (hw A0 []) := by
  have h1 : zC scr 52 [.ref 0] [.inr (.inr (5, zD5))] = some (none, wd A0) := (zC_of zh52).trans (zd_iff.mpr ⟨300, (zx_scr 300 (by omega)).trans run_52⟩)
  have e : hw A0 [] = wd A0 := List.append_nil _
  rw [e]
  refine (zd_new (a := 0) (i := 10) (c := 5) (k := 7) (fs := zD5) zh96 rfl rfl rfl rfl).trans ?_
  refine (zd_dup zh96 rfl).trans ?_
  refine (zd_invIv (i := 106) (a := 0) (as := [.ref 0]) (rest := [.ref 0]) zh96 zh52 rfl rfl (by decide) rfl rfl h1 rfl).trans ?_
  exact zd_astore_n (k := 1) (ls' := [some (.retAddr 0), some (.ref 0), none, none, none]) zh96 (by decide) rfl rfl
theorem pv0 : pvA A0 (A0 71) := by
  refine ⟨⟨⟨⟨fun h _ => ?_, ?_⟩, fun i _ => ?_, ?_, fun h hh => ?_, ?_, ?_, fun m _ => ?_⟩, ⟨?_, ?_, ?_, ?_, ?_, fun m hm => ?_, fun h hh => ?_, fun k hk => ?_, fun g hg => ?_⟩, ⟨fun i j hi _ _ => ?_, fun h hh => ?_⟩, ⟨fun h _ => ?_, ?_, ?_, fun k hk => ?_, fun g hg => ?_⟩, ⟨?_, ?_, ?_, ?_, ?_, ?_, fun m hm => ?_, fun h hh => ?_⟩⟩, ⟨?_, fun i hi => ?_, fun i j hi hj e => ?_⟩, fun k hk => ?_⟩
  · exact Nat.le_refl 0
  · exact Nat.zero_le 120
  · exact (by decide : 0 < 1000)
  · exact (by decide : 0 ≤ 6)
  · exact absurd hh (Nat.not_lt_zero h)
  · exact (by decide : 0 < 3)
  · exact (by decide : 2 < 9)
  · exact (by decide : 2 < 10)
  · exact (by decide : 0 ≤ 6)
  · exact (by decide : 0 < 3)
  · exact (by decide : 2 < 9)
  · exact (by decide : 0 ≤ 40)
  · exact (by decide : 0 ≤ 120)
  · show (if 8 + m = 2 ∨ (8 ≤ 8 + m ∧ 8 + m < 12) then 2 else 0) < 10
    split <;> omega
  · exact absurd hh (Nat.not_lt_zero h)
  · exact absurd hk (Nat.not_lt_zero k)
  · exact absurd hg (Nat.not_lt_zero g)
  · exact absurd hi (Nat.not_lt_zero i)
  · exact absurd hh (Nat.not_lt_zero h)
  · rfl
  · rfl
  · rfl
  · exact absurd hk (Nat.not_lt_zero k)
  · exact absurd hg (Nat.not_lt_zero g)
  · rfl
  · rfl
  · rfl
  · rfl
  · rfl
  · rfl
  · show 2 = (if 8 + m = 2 ∨ (8 ≤ 8 + m ∧ 8 + m < 12) then 2 else 0)
    rw [if_pos (by omega)]
  · exact absurd hh (Nat.not_lt_zero h)
  · exact (by decide : 0 ≤ 5)
  · show zsb (27 + 8 * i) ∧ 27 ≤ 27 + 8 * i
    unfold zsb
    omega
  · have e1 : 27 + 8 * i = 27 + 8 * j := e
    omega
  · exact absurd hk (Nat.not_lt_zero k)
section LA
variable {A B : Nat → Nat → Nat} {b : Nat → Nat} {k n : Nat} {scr : List Int32} {G : zAW} {w : zAW}
theorem c_cell (hl : scr.length ≤ 260) (hk : k < 1000) : ∃ v, zC scr 95 [.retAddr 0, .int (nI k)] w = some (some (.int v), w) := by
  have e0 : zC scr 95 [.retAddr 0, .int (nI k)] w = if nI k < nI scr.length then zd scr 95 6 [some (.retAddr 0), some (.int (nI k))] [] w else zd scr 95 12 [some (.retAddr 0), some (.int (nI k))] [] w := by
    rw [zC_of zh95]
    exact b95_0
  by_cases c : k < scr.length
  · rw [i_lt c (by omega)] at e0
    exact ⟨scr[k], e0.trans (b95_6 (by rw [n_neg (by omega)]; exact id) (by rw [n_cl (by omega)]; exact List.getElem?_eq_getElem c))⟩
  · rw [i_nlt c (by omega)] at e0
    exact ⟨_, e0.trans b95_12⟩
theorem al2_len {u v : List Int32} : (al2 G u v).length = G.length + 2 := by
  unfold al2
  rw [List.length_append]; rfl
theorem al2_sz {u v : List Int32} (hu : u.length = 2) (hv : v.length = 2) : zsz (al2 G u v) = zsz G + 4 := by
  unfold al2
  rw [show G ++ [Sum.inl u, Sum.inl v] = (G ++ [Sum.inl u]) ++ [Sum.inl v] from by rw [List.append_assoc]; rfl, zsz_app, zsz_app]
  show zsz G + u.length + v.length = _
  omega
/-- one turn -/
theorem law_turn (hl : scr.length ≤ 260) (hi : pvA A b) {t : Nat} (hk : k < t) (ht : t ≤ 34) : ∃ A' b' G', pvA A' b' ∧ G'.length ≤ G.length + 5 ∧ zsz G' ≤ zsz G + 26 ∧ zd scr 96 70 [some (.retAddr 0), some (.ref 0), some (.int (nI 1)), some (.int (nI t)), some (.int (nI k))] [] (hw A G) = zd scr 96 70 [some (.retAddr 0), some (.ref 0), some (.int (nI 1)), some (.int (nI t)), some (.int (nI (k + 1)))] [] (hw A' G') := by
  obtain ⟨v0, q0⟩ := c_cell (w := hw A G) hl (k := 3 * k) (by omega)
  obtain ⟨v1, q1⟩ := c_cell (w := hw A G) hl (k := 3 * k + 1) (by omega)
  obtain ⟨v2, q2⟩ := c_cell (w := hw A G) hl (k := 3 * k + 2) (by omega)
  have k16 := (lw_is v0 (n := 16) (by omega) (by omega)).2
  obtain ⟨A1, b1, G1, p1, l1, s1, e1⟩ := change_ok (scr := scr) (G := G) hi k16 v1 v2
  obtain ⟨A2, u, v, p2, -, hu, hv, e2⟩ := holds_ok (scr := scr) (G := G1) p1
  have g2 : (al2 G1 u v).length = G1.length + 2 := al2_len
  have z2 := al2_sz (G := G1) hu hv
  have e3 : zd scr 96 70 [some (.retAddr 0), some (.ref 0), some (.int (nI 1)), some (.int (nI t)), some (.int (nI k))] [] (hw A G) = zd scr 96 127 [some (.retAddr 0), some (.ref 0), some (.int (nI 1)), some (.int (nI t)), some (.int (nI k))] [] (hw A2 (al2 G1 u v)) := by
    refine b96_70.trans ((i_lt hk (by omega)).trans (b96_76.trans ((if_neg (by decide)).trans ?_)))
    refine (b96_80 (by rw [n_mul]; exact q0) (c_low v0 (by omega) (by omega)) (by rw [n_mul, n_add]; exact q1) (by rw [n_mul, n_add]; exact q2) e1).trans ((if_neg (by decide)).trans ?_)
    exact (b96_120 e2).trans (if_neg (by decide))
  by_cases c : zrem (nI k) (nI 4) = nI 3
  · obtain ⟨A3, p3, e4⟩ := isFair_ok (scr := scr) (G := al2 G1 u v) p2
    obtain ⟨A4, u2, v2', p4, -, hu2, hv2, e5⟩ := holds_ok (scr := scr) (G := al2 G1 u v) p3
    have g4 : (al2 (al2 G1 u v) u2 v2').length = (al2 G1 u v).length + 2 := al2_len
    have z4 := al2_sz (G := al2 G1 u v) hu2 hv2
    refine ⟨A4, b1, al2 (al2 G1 u v) u2 v2', p4, by omega, by omega, e3.trans (b96_127.trans ?_)⟩
    rw [if_pos c]
    refine (b96_135 e4).trans ((if_neg (by decide)).trans ((b96_142 e5).trans ((if_neg (by decide)).trans (b96_149.trans ?_))))
    rw [n_add]
  · refine ⟨A2, b1, al2 G1 u v, p2, by omega, by omega, e3.trans (b96_127.trans ?_)⟩
    rw [if_neg c]
    refine b96_149.trans ?_
    rw [n_add]
theorem law_loop (hl : scr.length ≤ 260) {t : Nat} (ht : t ≤ 34) : ∀ d k (A : Nat → Nat → Nat) b (G : zAW), k + d = t → pvA A b → ∃ A' G', G'.length ≤ G.length + 5 * d ∧ zsz G' ≤ zsz G + 26 * d ∧ zd scr 96 70 [some (.retAddr 0), some (.ref 0), some (.int (nI 1)), some (.int (nI t)), some (.int (nI k))] [] (hw A G) = some (some (.int (nI 1)), hw A' G')
  | 0, k, A, b, G, hk, hi => ⟨A, G, by omega, by omega, b96_70.trans ((i_nlt (by omega) (by omega)).trans (b96_161 rfl))⟩
  | d + 1, k, A, b, G, hk, hi => by
    obtain ⟨A1, b1, G1, p1, l1, s1, e1⟩ := law_turn (G := G) hl hi (k := k) (t := t) (by omega) ht
    obtain ⟨A2, G2, l2, s2, e2⟩ := law_loop hl ht d (k + 1) A1 b1 G1 (by omega) p1
    exact ⟨A2, G2, by omega, by omega, e1.trans e2⟩
theorem law_all (hl : scr.length ≤ 260) : ∃ A' G', G'.length ≤ 172 ∧ zsz G' ≤ 888 ∧ zd scr 96 0 [some (.retAddr 0), none, none, none, none] [] [] = some (some (.int (nI 1)), hw A' G') := by
  obtain ⟨A1, u, v, p1, po, hu, hv, e1⟩ := holds_ok (scr := scr) (G := []) pv0
  have g1 : (al2 [] u v).length = 2 := al2_len
  have z1 := al2_sz (G := []) hu hv
  have z0 : zsz [] = 0 := rfl
  have a25 : A1 25 1 = 0 := po 25 1 (by omega)
  have a03 : A1 0 3 = 0 := po 0 3 (by omega)
  have a11 : A1 1 1 = 0 := po 1 1 (by omega)
  have h10 := h_total (scr := scr) (G := al2 [] u v) 10 p1.1 (by omega)
  rw [show fig A1 1 10 = 0 by show sprd A1 1 3 = 0; unfold sprd; rw [if_pos a11]] at h10
  obtain ⟨t, ht, e2⟩ : ∃ t, t ≤ 34 ∧ zd scr 96 42 [some (.retAddr 0), some (.ref 0), none, none, none] [] (hw A1 (al2 [] u v)) = zd scr 96 70 [some (.retAddr 0), some (.ref 0), some (.int (nI 1)), some (.int (nI t)), some (.int (nI 0))] [] (hw A1 (al2 [] u v)) := by
    have e0 := b96_42 (scr := scr) (w := hw A1 (al2 [] u v)) (a1 := 0)
    have e3 : Int32.ofNat scr.length / nI 3 = nI (scr.length / 3) := n_div (by omega) (by omega)
    rw [e3] at e0
    by_cases c : 34 < scr.length / 3
    · rw [i_lt c (by omega)] at e0
      exact ⟨34, Nat.le_refl _, e0.trans b96_57⟩
    · rw [i_nlt c (by omega)] at e0
      refine ⟨scr.length / 3, by omega, e0.trans (b96_62.trans ?_)⟩
      rw [e3]
  obtain ⟨A2, G2, l2, s2, e3⟩ := law_loop hl ht t 0 A1 (A0 71) (al2 [] u v) (by omega) p1
  refine ⟨A2, G2, by omega, by omega, law_start.trans ?_⟩
  refine (b96_8 e1).trans ((if_neg (by decide)).trans ?_)
  refine (b96_15 ob0 (lf (c_undo0 a25))).trans ((if_pos rfl).trans ?_)
  refine (b96_24 ob0 (lf (c_restore0 a03))).trans ((if_pos rfl).trans ?_)
  refine (b96_33 ob0 h10).trans ((if_pos (by decide)).trans ?_)
  exact e2.trans e3
end LA
theorem zc1_le {A : Nat → Nat → Nat} (k : Nat) : zc1s (zcell A k) ≤ 950 := by
  have hr : ∀ (a : Nat → Nat) n, n ≤ 950 → zc1s (zrow a n) ≤ 950 := fun a n h => by
    show ((List.range n).map (fun i => nI (a i))).length ≤ 950
    rw [List.length_map, List.length_range]; exact h
  have hs : ∀ (a : Nat → Nat) k t, zc1s (zscell a k t) ≤ 950 := fun a k t => by
    unfold zscell
    split
    · exact (by decide : 11 ≤ 950)
    · split
      · exact (by decide : 2 ≤ 950)
      · refine hr _ _ ?_
        unfold zsl
        split <;> omega
  have hi : ∀ (c : Prop) [Decidable c] (x y : zAC), zc1s x ≤ 950 → zc1s y ≤ 950 → zc1s (if c then x else y) ≤ 950 := fun c _ x y h1 h2 => by
    by_cases hc : c
    · rw [if_pos hc]; exact h1
    · rw [if_neg hc]; exact h2
  unfold zcell zcellf
  refine hi _ _ _ (by decide : 7 ≤ 950) (hi _ _ _ (hs _ _ _) (hi _ _ _ (by decide : 2 ≤ 950) (hi _ _ _ (by decide : 5 ≤ 950) (hi _ _ _ (hs _ _ _) (hi _ _ _ (by decide : 2 ≤ 950) (hi _ _ _ (hr _ _ (by omega)) (hi _ _ _ (by decide : 6 ≤ 950) (hi _ _ _ (by decide : 10 ≤ 950) (hi _ _ _ (hr _ _ (by omega)) (hi _ _ _ (hr _ _ (by omega)) (hi _ _ _ ?_ (hr _ _ (by omega)))))))))))))
  show ((List.range 7).map (fun i => bz (A k i))).length ≤ 950
  rw [List.length_map, List.length_range]
  omega
theorem zsz_wd {A : Nat → Nat → Nat} : zsz (wd A) ≤ 66500 := by
  have h : ∀ l : List Nat, zsz (l.map (zcell A)) ≤ 950 * l.length := fun l => by
    induction l with
    | nil => exact Nat.le_refl 0
    | cons k l ih =>
      have h1 := zc1_le (A := A) k
      have h2 : zsz ((k :: l).map (zcell A)) = zc1s (zcell A k) + zsz (l.map (zcell A)) := by simp [zsz]
      rw [h2, List.length_cons]
      omega
  have h2 := h (List.range 70)
  rw [List.length_range] at h2
  exact h2
theorem law_runs : zLawRuns := by
  intro scr hl
  obtain ⟨A2, G2, h1, h2, h3⟩ := law_all hl
  refine ⟨hw A2 G2, zd_iff.mp h3, by rw [hw_len]; omega, ?_⟩
  have := zsz_wd (A := A2)
  have e : zsz (hw A2 G2) = zsz (wd A2) + zsz G2 := by
    unfold hw zsz
    rw [List.map_append, List.sum_append]
  omega
