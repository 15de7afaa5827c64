/-! MarbleHeirsModel: sums, spread, gives, poorest -/
/-- the reference's row laid anew -/
def sb (A : Nat → Nat → Nat) (b : Nat → Nat) : Nat → Nat → Nat := fun c i => if c = 71 then b i else A c i
def ups (b : Nat → Nat) (i x : Nat) : Nat → Nat := fun j => if j = i then x else b j
/-- the first marble of the hopper given -/
def gvB (b : Nat → Nat) (h : Nat) : Nat → Nat := fun i => if i = 70 + b 7 then 100 * h + b 30 else if i = 7 then b 7 + 1 else if i = 6 then b 6 - 1 else if 30 ≤ i ∧ i < 30 + (b 6 - 1) then b (i + 1) else if i = 30 + (b 6 - 1) then 0 else b i
def wsh (b : Nat → Nat) (n : Nat) : Nat := zsum (fun g => if b (13 + 2 * own b g) = cod b g / 10 then 1 else 0) 0 n
def sprB (b : Nat → Nat) (f : Nat → Nat) : Nat := if b 0 = 0 then 0 else zmax f (b 0 - 1) - zmin f (b 0 - 1)
def wrt (b : Nat → Nat) (h : Nat) : Nat := rsm b (fun c => c % 10) h (b 7)
/-- the poorest heir but those of a set, of the last d places -/
def po (b : Nat → Nat) (s : Nat) : Nat → Option Nat
  | 0 => none
  | d + 1 => if s / 2 ^ b (24 + (b 0 - 1 - d)) % 2 = 0 ∧ (po b s d = none ∨ wrt b (b (24 + (b 0 - 1 - d))) ≤ wrt b ((po b s d).getD 0)) then some (b (24 + (b 0 - 1 - d))) else po b s d
def enc : Option Nat → Int32
  | none => -6
  | some h => nI h
theorem zloopW {scr : List Int32} {mi pc : Nat} {st : List Value} {L : Nat → zLs} {W : Nat → zAW} {w0 : zAW} (N : Nat) (h0 : w0 = W 0) (h : ∀ k, k < N → zd scr mi pc (L k) st (W k) = zd scr mi pc (L (k + 1)) st (W (k + 1))) : zd scr mi pc (L 0) st w0 = zd scr mi pc (L N) st (W N) := by
  rw [h0]; exact zloop N h
section RG
variable {A B : Nat → Nat → Nat} {b c : Nat → Nat} {h k g n : Nat} {scr : List Int32}
theorem sb71 : sb A b 71 = b := rfl
theorem sb_sb : sb (sb A b) c = sb A c := by
  funext k i
  unfold sb
  by_cases e : k = 71
  · rw [if_pos e, if_pos e]
  · rw [if_neg e, if_neg e, if_neg e]
theorem sb_self : sb A (A 71) = A := by
  funext k i
  unfold sb
  by_cases e : k = 71
  · rw [if_pos e, e]
  · rw [if_neg e]
theorem sb_off {i : Nat} (hk : k ≠ 71) : sb A b k i = A k i := if_neg hk
theorem up71 {i x : Nat} : up A 71 i x = sb A (ups (A 71) i x) := by
  funext k j
  unfold up sb ups
  by_cases e : k = 71
  · rw [if_pos e]
    by_cases e2 : j = i
    · rw [if_pos ⟨e, e2⟩, if_pos e2]
    · rw [if_neg (fun q => e2 q.2), if_neg e2, e]
  · rw [if_neg e, if_neg (fun q => e q.1)]
theorem up71s {i x : Nat} : up (sb A b) 71 i x = sb A (ups b i x) := by
  rw [up71, sb_sb, sb71]
theorem sR' {i x : Nat} (hi : i < 190) : zas (wd (sb A b)) 71 (nI i) (nI x) = some (wd (sb A (ups b i x))) := by
  rw [sR x hi, up71s]
theorem aR' {i : Nat} (hi : i < 190) : zal (wd (sb A b)) 71 (nI i) = some (nI (b i)) := aR hi
theorem r_wishes (ho : bOk (A 71)) : zC scr 102 [.ref 70] (wd A) = some (some (.int (nI (wsh (A 71) (A 71 7)))), wd A) := by
  have h7 := bO_7 ho
  have h0 := ho.1
  rw [zC_of zh102]
  refine b102_0.trans ?_
  refine (zloop (W := fun _ => wd A) (scr := scr) (mi := 102) (pc := 4) (st := []) (L := fun j => [some (.ref 70), some (.int (nI (wsh (A 71) j))), some (.int (nI j))]) (A 71 7) (fun j hj => ?_)).trans ?_
  · have hg := bO_g ho hj
    have hw := (ho.2.2.2.2.2.2.1 (own (A 71) j) hg.1).2.1
    have e1 : wsh (A 71) (j + 1) = wsh (A 71) j + if A 71 (13 + 2 * own (A 71) j) = cod (A 71) j / 10 then 1 else 0 := by
      show wsh (A 71) j + (if A 71 (13 + 2 * own (A 71) (0 + j)) = cod (A 71) (0 + j) / 10 then 1 else 0) = _
      rw [Nat.zero_add]
    refine (b102_4 gR0 (aR (by omega))).trans ((i_lt hj (by omega)).trans ((b102_15 oR (r_owner (by omega) (by omega)) oR (r_of (w := 1) (by omega) (by omega)) oR (r_colour (by omega) (by omega))).trans ?_))
    show _ = zd scr 102 4 [_, some (.int (nI (wsh (A 71) (j + 1)))), _] [] _
    rw [e1, show 12 + 2 * own (A 71) j + 1 = 13 + 2 * own (A 71) j by omega]
    by_cases e : A 71 (13 + 2 * own (A 71) j) = cod (A 71) j / 10
    · rw [i_eq e, if_pos e]
      refine b102_34.trans ?_
      rw [n_add, n_add]
    · rw [i_ne e (by omega) (by omega), if_neg e]
      refine b102_38.trans ?_
      rw [n_add, n_add]
  · exact (b102_4 gR0 (aR (by omega))).trans ((i_nlt (by omega) (by omega)).trans b102_47)
/-- one of both measures -/
def msr (b : Nat → Nat) (w h : Nat) : Nat := if w = 0 then rk b h (b 7) else wrt b h
theorem rsm_le {f : Nat → Nat} {M : Nat} (hf : ∀ g, g < n → f (cod b g) ≤ M) : rsm b f h n ≤ n * M := by
  induction n with
  | zero => exact Nat.zero_le _
  | succ n ih =>
    rw [rsm_succ, Nat.succ_mul]
    have := ih (fun g hg => hf g (by omega))
    have := hf n (by omega)
    split <;> omega
theorem wrt_le (ho : bOk b) : wrt b h ≤ 1080 := by
  have h7 := bO_7 ho
  have := rsm_le (b := b) (h := h) (n := b 7) (f := fun c => c % 10) (M := 9) (fun g _ => by show cod b g % 10 ≤ 9; omega)
  unfold wrt
  omega
theorem msr_le (ho : bOk b) (w : Nat) : msr b w h ≤ 1080 := by
  unfold msr
  have h7 := bO_7 ho
  split
  · have := rk_le (b := b) (h := h) (b 7)
    omega
  · exact wrt_le ho
theorem r_spread {w : Nat} (ho : bOk (A 71)) (hw : w < 2) : zC scr 103 [.ref 70, .int (nI w)] (wd A) = some (some (.int (nI (sprB (A 71) (msr (A 71) w)))), wd A) := by
  have h7 := bO_7 ho
  have h0 := ho.1
  have hm : ∀ j, msr (A 71) w j ≤ 1080 := fun j => msr_le ho w
  have hmin : ∀ t, zmin (msr (A 71) w) t < 1081 := zmin_lt (fun i => by have := hm i; omega)
  have hmax : ∀ t, zmax (msr (A 71) w) t < 1081 := zmax_lt (fun i => by have := hm i; omega)
  rw [zC_of zh103]
  refine b103_0.trans ?_
  -- a heir is weighed
  have one : ∀ j lo hi v5, j < A 71 0 → zd scr 103 7 [some (.ref 70), some (.int (nI w)), some (.int lo), some (.int hi), some (.int (nI j)), v5] [] (wd A) = if nI j = 0 then zd scr 103 50 [some (.ref 70), some (.int (nI w)), some (.int lo), some (.int hi), some (.int (nI j)), some (.int (nI (msr (A 71) w j)))] [] (wd A) else zd scr 103 44 [some (.ref 70), some (.int (nI w)), some (.int lo), some (.int hi), some (.int (nI j)), some (.int (nI (msr (A 71) w j)))] [] (wd A) := by
    intro j lo hi v5 hj
    refine (b103_7 gR0 (aR (by omega))).trans ((i_lt hj (by omega)).trans (b103_18.trans ?_))
    unfold msr
    by_cases e : w = 0
    · rw [i_eq0 e, if_pos e]
      exact b103_31 oR (r_inBag ho (by omega))
    · rw [i_ne0 e (by omega), if_neg e]
      exact b103_22 oR (r_worth ho (by omega))
  have fin : ∀ lo hi v5, zd scr 103 7 [some (.ref 70), some (.int (nI w)), some (.int lo), some (.int hi), some (.int (nI (A 71 0))), v5] [] (wd A) = some (some (.int (hi - lo)), wd A) := fun lo hi v5 => (b103_7 gR0 (aR (by omega))).trans ((i_nlt (by omega) (by omega)).trans b103_81)
  by_cases hz : A 71 0 = 0
  · have := fin (nI 0) (nI 0) none
    rw [hz] at this
    refine this.trans ?_
    unfold sprB
    rw [if_pos hz]; rfl
  · have key : ∀ t, t < A 71 0 → ∃ v5, zd scr 103 7 [some (.ref 70), some (.int (nI w)), some (.int (nI 0)), some (.int (nI 0)), some (.int (nI 0)), none] [] (wd A) = zd scr 103 7 [some (.ref 70), some (.int (nI w)), some (.int (nI (zmin (msr (A 71) w) t))), some (.int (nI (zmax (msr (A 71) w) t))), some (.int (nI (t + 1))), v5] [] (wd A) := by
      intro t
      induction t with
      | zero =>
        intro ht
        refine ⟨some (.int (nI (msr (A 71) w 0))), (one 0 _ _ _ ht).trans ?_⟩
        rw [if_pos (by decide)]
        refine b103_50.trans ?_
        rw [if_pos (by decide)]
        exact b103_68
      | succ t ih =>
        intro ht
        obtain ⟨v5, e⟩ := ih (by omega)
        have h1 := hm (t + 1)
        have h2 := hmin t
        have h3 := hmax t
        refine ⟨some (.int (nI (msr (A 71) w (t + 1)))), e.trans ((one (t + 1) _ _ _ ht).trans ?_)⟩
        rw [i_ne0 (by omega) (by omega)]
        refine b103_44.trans ?_
        rw [zmin_succ, zmax_succ]
        by_cases c1 : msr (A 71) w (t + 1) < zmin (msr (A 71) w) t
        · rw [i_lt c1 (by omega), if_pos c1]
          refine b103_50.trans ((i_ne0 (by omega) (by omega)).trans (b103_62.trans ?_))
          by_cases c2 : zmax (msr (A 71) w) t < msr (A 71) w (t + 1)
          · rw [i_lt c2 (by omega), if_pos c2]; exact b103_68.trans (by rw [n_add])
          · rw [i_nlt c2 (by omega), if_neg c2]; exact b103_73.trans (by rw [n_add])
        · rw [i_nlt c1 (by omega), if_neg c1]
          refine b103_55.trans ((i_ne0 (by omega) (by omega)).trans (b103_62.trans ?_))
          by_cases c2 : zmax (msr (A 71) w) t < msr (A 71) w (t + 1)
          · rw [i_lt c2 (by omega), if_pos c2]; exact b103_68.trans (by rw [n_add])
          · rw [i_nlt c2 (by omega), if_neg c2]; exact b103_73.trans (by rw [n_add])
    obtain ⟨v5, e⟩ := key (A 71 0 - 1) (by omega)
    refine e.trans ?_
    rw [show A 71 0 - 1 + 1 = A 71 0 by omega]
    refine (fin _ _ _).trans ?_
    unfold sprB
    rw [if_neg hz, n_sub (zmin_le_max _)]
theorem r_gives (h0 : 0 < A 71 6) (h6 : A 71 6 ≤ 40) (h7 : A 71 7 < 120) : zC scr 104 [.ref 70, .int (nI h)] (wd A) = some (none, wd (sb A (gvB (A 71) h))) := by
  rw [zC_of zh104]
  refine (b104_0 (f3 := nI (A 71 7)) (f5 := nI (A 71 30)) (f7 := nI (A 71 7)) (f9 := nI (A 71 6)) (w1 := wd (sb A (ups (A 71) (70 + A 71 7) (100 * h + A 71 30)))) (w2 := wd (sb A (ups (ups (A 71) (70 + A 71 7) (100 * h + A 71 30)) 7 (A 71 7 + 1)))) (w3 := wd (sb A (ups (ups (ups (A 71) (70 + A 71 7) (100 * h + A 71 30)) 7 (A 71 7 + 1)) 6 (A 71 6 - 1)))) gR0 gR0 (aR (by omega)) gR0 (aR (by omega)) (by rw [n_add, n_mul, n_add, sR _ (by omega), up71]) gR0 ?_ (by rw [n_add, sR' (by omega)]) gR0 ?_ (by rw [n_sub (by omega), sR' (by omega)])).trans ?_
  · rw [aR' (by omega)]
    unfold ups
    rw [if_neg (by omega)]
  · rw [aR' (by omega)]
    unfold ups
    rw [if_neg (by omega), if_neg (by omega)]
  refine (zloopW (W := fun j => wd (sb A (fun i => if i = 70 + A 71 7 then 100 * h + A 71 30 else if i = 7 then A 71 7 + 1 else if i = 6 then A 71 6 - 1 else if 30 ≤ i ∧ i < 30 + j then A 71 (i + 1) else A 71 i))) (scr := scr) (mi := 104) (pc := 51) (st := []) (L := fun j => [some (.ref 70), some (.int (nI h)), some (.int (nI j))]) (A 71 6 - 1) ?_ (fun j hj => ?_)).trans ?_
  · refine congrArg wd (congrArg (sb A) ?_)
    funext i
    simp only [ups]
    (repeat' split) <;> first | rfl | (exfalso; omega)
  · have e6 : ∀ Y : Nat, (if 6 = 70 + A 71 7 then 100 * h + A 71 30 else if 6 = 7 then A 71 7 + 1 else if 6 = 6 then A 71 6 - 1 else Y) = A 71 6 - 1 := fun Y => by
      rw [if_neg (by omega), if_neg (by omega), if_pos rfl]
    refine (b104_51 gR0 (by rw [aR' (by omega), e6])).trans ((i_lt hj (by omega)).trans ((b104_62 (f3 := nI (A 71 (30 + j + 1))) gR0 gR0 (by
      rw [n_add, n_add, aR' (by omega)]
      show some (nI (if 30 + j + 1 = 70 + A 71 7 then _ else if 30 + j + 1 = 7 then _ else if 30 + j + 1 = 6 then _ else if 30 ≤ 30 + j + 1 ∧ 30 + j + 1 < 30 + j then _ else _)) = _
      rw [if_neg (by omega), if_neg (by omega), if_neg (by omega), if_neg (by omega)]) (by rw [n_add, sR' (by omega)])).trans ?_))
    rw [n_add]
    refine congrArg (fun w => zd scr 104 51 _ [] w) (congrArg wd (congrArg (sb A) ?_))
    funext i
    simp only [ups]
    (repeat' split) <;> first | rfl | (exfalso; omega) | (exact congrArg (A 71) (by omega))
  · have e6 : ∀ Y : Nat, (if 6 = 70 + A 71 7 then 100 * h + A 71 30 else if 6 = 7 then A 71 7 + 1 else if 6 = 6 then A 71 6 - 1 else Y) = A 71 6 - 1 := fun Y => by
      rw [if_neg (by omega), if_neg (by omega), if_pos rfl]
    refine (b104_51 gR0 (by rw [aR' (by omega), e6])).trans ((i_nlt (by omega) (by omega)).trans ((b104_88 (f3 := nI (A 71 6 - 1)) gR0 gR0 (by rw [aR' (by omega), e6]) (by rw [n_add, sR' (by omega)])).trans ?_))
    refine congrArg (fun w => some (none, wd (sb A w))) ?_
    funext i
    simp only [ups, gvB]
    (repeat' split) <;> first | rfl | (exfalso; omega) | (exact congrArg (A 71) (by omega))
theorem enc_none {o : Option Nat} (hb : ∀ h, o = some h → h < 6) : enc o = -6 ↔ o = none := by
  cases o with
  | none => exact ⟨fun _ => rfl, fun _ => rfl⟩
  | some x => exact ⟨fun q => absurd q (nI_ne6 (by have := hb x rfl; omega)), fun q => by cases q⟩
theorem po_lt (ho : bOk b) (s : Nat) : ∀ d, d ≤ b 0 → ∀ h, po b s d = some h → h < b 0 := by
  intro d
  induction d with
  | zero => intro _ h e; cases e
  | succ d ih =>
    intro hd h e
    unfold po at e
    split at e
    · cases e
      exact (ho.2.2.2.2.2.2.1 _ (by omega)).2.2
    · exact ih (by omega) h e
theorem r_poorest {s : Nat} (ho : bOk (A 71)) (hs : s < 64) (hn : 0 < A 71 0) : zC scr 105 [.ref 70, .int (nI s)] (wd A) = some (some (.int (enc (po (A 71) s (A 71 0)))), wd A) := by
  have h0 := ho.1
  rw [zC_of zh105]
  refine (b105_0 gR0 (aR (by omega))).trans ?_
  rw [n_sub (by omega)]
  have step : ∀ d v4, d < A 71 0 → ∃ v4', zd scr 105 12 [some (.ref 70), some (.int (nI s)), some (.int (enc (po (A 71) s d))), some (.int (nI (A 71 0 - 1 - d))), v4] [] (wd A) = zd scr 105 12 [some (.ref 70), some (.int (nI s)), some (.int (enc (po (A 71) s (d + 1)))), some (.int (nI (A 71 0 - 1 - d) - nI 1)), v4'] [] (wd A) := by
    intro d v4 hd
    have hx : A 71 (24 + (A 71 0 - 1 - d)) < A 71 0 := (ho.2.2.2.2.2.2.1 _ (by omega)).2.2
    have hp := po_lt ho s d (by omega)
    refine ⟨some (.int (nI (A 71 (24 + (A 71 0 - 1 - d))))), b105_12.trans ((i_neg (by omega)).trans ((b105_16 gR0 (by rw [n_add]; exact aR (by omega))).trans ?_))⟩
    have hbit := bit_test s hs _ (show A 71 (24 + (A 71 0 - 1 - d)) < 6 by omega)
    rw [po]
    by_cases c1 : s / 2 ^ A 71 (24 + (A 71 0 - 1 - d)) % 2 = 0
    · rw [if_pos (hbit.mpr c1)]
      refine b105_36.trans ?_
      by_cases c2 : po (A 71) s d = none
      · rw [if_pos ((enc_none (fun h e => by have := hp h e; omega)).mpr c2), if_pos ⟨c1, Or.inl c2⟩]
        exact b105_56
      · rw [if_neg (fun q => c2 ((enc_none (fun h e => by have := hp h e; omega)).mp q))]
        obtain ⟨y, hy⟩ := Option.ne_none_iff_exists'.mp c2
        have hyl := hp y hy
        rw [hy]
        refine (b105_42 oR (r_worth ho (by omega)) oR (r_worth ho (by omega))).trans ?_
        have w1 := wrt_le (h := A 71 (24 + (A 71 0 - 1 - d))) ho
        have w2 := wrt_le (h := y) ho
        by_cases c3 : wrt (A 71) (A 71 (24 + (A 71 0 - 1 - d))) ≤ wrt (A 71) y
        · refine (i_le c3 (Nat.lt_of_le_of_lt w2 (by omega))).trans ?_
          rw [if_pos ⟨c1, Or.inr c3⟩]
          exact b105_56
        · refine (i_nle c3 (Nat.lt_of_le_of_lt w1 (by omega))).trans ?_
          rw [if_neg (fun q => q.2.elim (fun q => by cases q) c3)]
          exact b105_61
    · rw [if_neg (fun q => c1 (hbit.mp q)), if_neg (fun q => c1 q.1)]
      exact b105_61
  have key : ∀ d, d < A 71 0 → ∃ v4, zd scr 105 12 [some (.ref 70), some (.int (nI s)), some (.int (-6)), some (.int (nI (A 71 0 - 1))), none] [] (wd A) = zd scr 105 12 [some (.ref 70), some (.int (nI s)), some (.int (enc (po (A 71) s d))), some (.int (nI (A 71 0 - 1 - d))), v4] [] (wd A) := by
    intro d
    induction d with
    | zero => intro _; exact ⟨none, rfl⟩
    | succ d ih =>
      intro hd
      obtain ⟨v4, e⟩ := ih (by omega)
      obtain ⟨v5, e2⟩ := step d v4 (by omega)
      refine ⟨v5, e.trans (e2.trans ?_)⟩
      rw [n_sub (by omega)]; rfl
  obtain ⟨v4, e⟩ := key (A 71 0 - 1) (by omega)
  obtain ⟨v5, e2⟩ := step (A 71 0 - 1) v4 (by omega)
  refine e.trans (e2.trans ?_)
  rw [show A 71 0 - 1 - (A 71 0 - 1) = 0 by omega, show A 71 0 - 1 + 1 = A 71 0 by omega]
  exact b105_12.trans ((if_pos (by decide)).trans b105_69)
end RG
