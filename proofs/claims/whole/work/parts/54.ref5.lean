/-! MarbleHeirsModel: the best swap -/
def sq (A : Nat → Nat → Nat) (c : Nat → Nat) : Nat → Nat → Nat := fun k i => if k = 76 then c i else A k i
def bst (b : Nat → Nat) (one h k : Nat) (c : Nat → Nat) : Nat → Nat := fun i => if i = 6 then k + 1 else if i = 5 then one + 1 else if i = 4 then gPl b one k - gMi b one k + 1 else if i = 3 then rk b (own b k) k + 1 else if i = 2 then h + 1 else if i = 1 then rk b (own b one) one + 1 else if i = 0 then own b one + 1 else c i
def tyR (b : Nat → Nat) (one h : Nat) (s : Nat × (Nat → Nat)) : Nat → Nat × (Nat → Nat)
  | 0 => s
  | k + 1 => if own b k = h ∧ (tyR b one h s k).1 < rtB b one k then (rtB b one k, bst b one h k (tyR b one h s k).2) else tyR b one h s k
def lyG (b : Nat → Nat) (one h : Nat) (s : Nat × (Nat → Nat)) : Nat → Nat × (Nat → Nat)
  | 0 => s
  | k + 1 => tyR b one (h + 1 + k) (lyG b one h s k) (b 7)
def lyO (b : Nat → Nat) (h : Nat) (s : Nat × (Nat → Nat)) : Nat → Nat × (Nat → Nat)
  | 0 => s
  | k + 1 => if own b k = h then lyG b k h (lyO b h s k) (b 0 - (h + 1)) else lyO b h s k
def lyH (b : Nat → Nat) (c : Nat → Nat) : Nat → Nat × (Nat → Nat)
  | 0 => (0, c)
  | h + 1 => lyO b h (lyH b c h) (b 7)
def lyB (b : Nat → Nat) (c : Nat → Nat) : Nat → Nat := if (lyH b c (b 0)).1 = 0 then fun i => if i < 7 then 0 else (lyH b c (b 0)).2 i else (lyH b c (b 0)).2
section RK
variable {A B : Nat → Nat → Nat} {b c : Nat → Nat} {h k g n one : Nat} {scr : List Int32}
theorem sq76 : sq A c 76 = c := rfl
theorem sq71 : sq A c 71 = A 71 := rfl
theorem sq_sq {d : Nat → Nat} : sq (sq A c) d = sq A d := by
  funext k i
  unfold sq
  by_cases e : k = 76
  · rw [if_pos e, if_pos e]
  · rw [if_neg e, if_neg e, if_neg e]
theorem sq_self : sq A (A 76) = A := by
  funext k i
  unfold sq
  by_cases e : k = 76
  · rw [if_pos e, e]
  · rw [if_neg e]
theorem bz_succ (x : Nat) : bz (x + 1) = nI x := by
  unfold bz
  rw [if_neg (by omega)]; rfl
theorem aB {i : Nat} (hi : i < 7) : zal (wd A) 76 (nI i) = some (bz (A 76 i)) := by
  unfold zal
  rw [wd_get (by omega)]
  rw [show zcell A 76 = Sum.inl ((List.range 7).map (fun i => bz (A 76 i))) from rfl]
  dsimp only
  rw [if_neg (by rw [n_neg (by omega)]; exact id), n_cl (by omega), List.getElem?_map, List.getElem?_range hi]; rfl
theorem bup_row (i x : Nat) (hi : i < 7) : ((List.range 7).map (fun j => bz (A 76 j))).set i (bz x) = (List.range 7).map (fun j => bz (ups (A 76) i x j)) := by
  apply List.ext_getElem?
  intro j
  rw [List.getElem?_set, List.getElem?_map, List.getElem?_map, List.length_map, List.length_range]
  by_cases hj : j < 7
  · rw [List.getElem?_range hj]
    by_cases e : i = j
    · subst e; simp [ups, hi]
    · simp [ups, e, Ne.symm e]
  · rw [List.getElem?_eq_none (by simpa using hj)]
    rw [if_neg (by omega)]
    rfl
theorem sBz {i : Nat} (x : Nat) (hi : i < 7) : zas (wd A) 76 (nI i) (bz x) = some (wd (sq A (ups (A 76) i x))) := by
  unfold zas
  rw [wd_get (by omega)]
  rw [show zcell A 76 = Sum.inl ((List.range 7).map (fun i => bz (A 76 i))) from rfl]
  dsimp only
  rw [if_neg (by rw [n_neg (by omega), n_cl (by omega), List.length_map, List.length_range]; exact fun q => q.elim id (fun q => by omega)), n_cl (by omega), bup_row i x hi]
  refine congrArg some (wd_set (by omega) rfl (fun j _ hj i => ?_))
  unfold sq
  rw [if_neg hj]
theorem sBn {i : Nat} (x : Nat) (hi : i < 7) : zas (wd (sq A c)) 76 (nI i) (nI x) = some (wd (sq A (ups c i (x + 1)))) := by
  have := sBz (A := sq A c) (x + 1) hi
  rw [bz_succ, sq_sq, sq76] at this
  exact this
theorem sB6 {i : Nat} (hi : i < 7) : zas (wd (sq A c)) 76 (nI i) (-6) = some (wd (sq A (ups c i 0))) := by
  have := sBz (A := sq A c) 0 hi
  rw [sq_sq, sq76] at this
  exact this
theorem rtB_le (b : Nat → Nat) (g k : Nat) : rtB b g k ≤ 29 := by
  have := gPl_le (b := b) (g := g) (k := k)
  unfold rtB
  split <;> omega
theorem rtB_pos (h : 0 < rtB b g k) : gMi b g k < gPl b g k ∧ vtB b g k = -6 ∧ rtB b g k = 10 * (gPl b g k - gMi b g k) + 9 - dif (cod b g % 10) (cod b k % 10) := by
  unfold rtB at h ⊢
  by_cases c : gPl b g k ≤ gMi b g k ∨ vtB b g k ≠ -6
  · rw [if_pos c] at h; omega
  · rw [if_neg c]
    refine ⟨Nat.not_le.mp fun q => c (Or.inl q), Decidable.not_not.mp fun q => c (Or.inr q), rfl⟩
theorem gBI_nI (h : gMi b g k < gPl b g k) : gBI b g k = nI (gPl b g k - gMi b g k) := by
  have c1 := one1_le (b (13 + 2 * own b g)) (cod b g / 10)
  have c2 := one1_le (b (13 + 2 * own b k)) (cod b k / 10)
  have hb : (gBI b g k < nI 1 ↔ gPl b g k ≤ gMi b g k) ∧ (gMi b g k ≤ gPl b g k → gBI b g k = nI (gPl b g k - gMi b g k)) := bits6 (gPl b g k) (by have := gPl_le (b := b) (g := g) (k := k); omega) (one1 (b (13 + 2 * own b g)) (cod b g / 10)) (by omega) (one1 (b (13 + 2 * own b k)) (cod b k / 10)) (by omega)
  exact hb.2 (by omega)
theorem r_tries {x : Nat} (ho : bOk (A 71)) (hg : one < A 71 7) (hh : h < 100) (hx : x < 100) : zC scr 115 [.ref 70, .int (nI one), .int (nI h), .int (nI x)] (wd A) = some (some (.int (nI (tyR (A 71) one h (x, A 76) (A 71 7)).1)), wd (sq A (tyR (A 71) one h (x, A 76) (A 71 7)).2)) := by
  have h7 := bO_7 ho
  have h0 := ho.1
  have bd : ∀ k, (tyR (A 71) one h (x, A 76) k).1 < 100 := by
    intro k
    induction k with
    | zero => exact hx
    | succ k ih =>
      rw [tyR]
      have := rtB_le (A 71) one k
      split
      · show rtB _ _ _ < 100
        omega
      · exact ih
  rw [zC_of zh115]
  refine b115_0.trans ?_
  refine (zloopW (W := fun j => wd (sq A (tyR (A 71) one h (x, A 76) j).2)) (scr := scr) (mi := 115) (pc := 6) (st := []) (L := fun j => [some (.ref 70), some (.int (nI one)), some (.int (nI h)), some (.int (nI x)), some (.int (nI (tyR (A 71) one h (x, A 76) j).1)), some (.int (nI j))]) (A 71 7) ?_ (fun j hj => ?_)).trans ?_
  · show wd A = wd (sq A (A 76))
    rw [sq_self]
  · have ej := bO_g ho hj
    have hb := bd j
    have hl := rtB_le (A 71) one j
    show _ = zd scr 115 6 [_, _, _, _, some (.int (nI (tyR (A 71) one h (x, A 76) (j + 1)).1)), _] [] (wd (sq A (tyR (A 71) one h (x, A 76) (j + 1)).2))
    rw [tyR]
    generalize tyR (A 71) one h (x, A 76) j = s at hb
    have ho' : bOk (sq A s.2 71) := ho
    refine (b115_6 gR0 (aR (by omega))).trans ((i_lt hj (by omega)).trans ((b115_18 oR (r_own2 ho' hj)).trans ?_))
    rw [sq71]
    by_cases c1 : own (A 71) j = h
    · rw [i_eq c1]
      refine (b115_28 oR (r_rate ho' hg hj)).trans ?_
      rw [sq71]
      by_cases c2 : s.1 < rtB (A 71) one j
      · rw [i_lt c2 (by omega), if_pos ⟨c1, c2⟩]
        have hgr := gBI_nI (rtB_pos (Nat.lt_of_le_of_lt (Nat.zero_le _) c2)).1
        have hrt : zC scr 112 [.ref 70, .int (nI one), .int (nI j)] (wd (sq A s.2)) = some (some (.int (nI (rtB (A 71) one j))), wd (sq A s.2)) := r_rate ho' hg hj
        have how : ∀ c, zC scr 95 [.ref 70, .int (nI one)] (wd (sq A c)) = some (some (.int (nI (own (A 71) one))), wd (sq A c)) := fun c => r_own2 (A := sq A c) ho hg
        have hrk : ∀ c i, i < A 71 7 → zC scr 113 [.ref 70, .int (nI i)] (wd (sq A c)) = some (some (.int (nI (rk (A 71) (own (A 71) i) i))), wd (sq A c)) := fun c i hi => r_rankOf (A := sq A c) ho hi
        have hgw : ∀ c, zC scr 110 [.ref 70, .int (nI one), .int (nI j)] (wd (sq A c)) = some (some (.int (nI (gPl (A 71) one j - gMi (A 71) one j))), wd (sq A c)) := fun c => by
          rw [← hgr]; exact r_growth (A := sq A c) ho hg hj
        refine (b115_40 oR hrt gR8 oR (how _) (sBn _ (by omega)) gR8 oR (hrk _ _ hg) (sBn _ (by omega)) gR8 (sBn _ (by omega)) gR8 oR (hrk _ _ hj) (sBn _ (by omega)) gR8 oR (hgw _) (sBn _ (by omega)) gR8 (sBn _ (by omega)) gR8 (sBn _ (by omega))).trans ?_
        rw [n_add]
        refine congrArg (fun w => zd scr 115 6 _ [] (wd (sq A w))) ?_
        funext i
        simp only [ups, bst]
      · rw [i_nlt c2 (by omega), if_neg (fun q => c2 q.2)]
        refine b115_119.trans ?_
        rw [n_add]
    · rw [i_ne c1 (by omega) (by omega), if_neg (fun q => c1 q.1)]
      refine b115_119.trans ?_
      rw [n_add]
  · exact (b115_6 gR0 (aR (by omega))).trans ((i_nlt (by show ¬ A 71 7 < A 71 7; omega) (by omega)).trans b115_125)
theorem tyR_lt {s : Nat × (Nat → Nat)} (hs : s.1 < 100) : ∀ k, (tyR b one h s k).1 < 100
  | 0 => hs
  | k + 1 => by
    rw [tyR]
    have := rtB_le b one k
    have := tyR_lt hs k
    split
    · show rtB _ _ _ < 100
      omega
    · assumption
theorem lyG_lt {s : Nat × (Nat → Nat)} (hs : s.1 < 100) : ∀ k, (lyG b one h s k).1 < 100
  | 0 => hs
  | k + 1 => tyR_lt (lyG_lt hs k) _
theorem lyO_lt {s : Nat × (Nat → Nat)} (hs : s.1 < 100) : ∀ k, (lyO b h s k).1 < 100
  | 0 => hs
  | k + 1 => by
    rw [lyO]
    split
    · exact lyG_lt (lyO_lt hs k) _
    · exact lyO_lt hs k
theorem lyH_lt : ∀ k, (lyH b c k).1 < 100
  | 0 => by show 0 < 100; omega
  | k + 1 => lyO_lt (lyH_lt k) _
theorem r_layBest (ho : bOk (A 71)) : zC scr 114 [.ref 70] (wd A) = some (none, wd (sq A (lyB (A 71) (A 76)))) := by
  have h7 := bO_7 ho
  have h0 := ho.1
  rw [zC_of zh114]
  refine b114_0.trans ?_
  -- the partners of one marble
  have pG : ∀ (s : Nat × (Nat → Nat)) (h one : Nat), s.1 < 100 → one < A 71 7 → own (A 71) one = h → ∃ v4, zd scr 114 27 [some (.ref 70), some (.int (nI s.1)), some (.int (nI h)), some (.int (nI one)), v4] [] (wd (sq A s.2)) = zd scr 114 67 [some (.ref 70), some (.int (nI (lyG (A 71) one h s (A 71 0 - (h + 1))).1)), some (.int (nI h)), some (.int (nI one)), some (.int (nI (h + 1 + (A 71 0 - (h + 1)))))] [] (wd (sq A (lyG (A 71) one h s (A 71 0 - (h + 1))).2)) := by
    intro s h one hs hone how
    have eo := bO_g ho hone
    refine ⟨none, b114_27.trans ?_⟩
    rw [n_add]
    refine (zloopW (W := fun j => wd (sq A (lyG (A 71) one h s j).2)) (scr := scr) (mi := 114) (pc := 32) (st := []) (L := fun j => [some (.ref 70), some (.int (nI (lyG (A 71) one h s j).1)), some (.int (nI h)), some (.int (nI one)), some (.int (nI (h + 1 + j)))]) (A 71 0 - (h + 1)) rfl (fun j hj => ?_)).trans ?_
    · have hl := lyG_lt (b := A 71) (one := one) (h := h) hs j
      show _ = zd scr 114 32 [_, some (.int (nI (tyR (A 71) one (h + 1 + j) (lyG (A 71) one h s j) (A 71 7)).1)), _, _, _] [] (wd (sq A (tyR (A 71) one (h + 1 + j) (lyG (A 71) one h s j) (A 71 7)).2))
      generalize lyG (A 71) one h s j = t at hl
      have ht := r_tries (scr := scr) (A := sq A t.2) (one := one) (h := h + 1 + j) (x := t.1) ho hone (by omega) hl
      rw [sq71, sq76, sq_sq] at ht
      refine (b114_32 gR0 (aR (by omega))).trans ((i_lt (by show h + 1 + j < A 71 0; omega) (by rw [sq71]; omega)).trans ((b114_43 oR (r_own2 (A := sq A t.2) ho hone)).trans ?_))
      rw [sq71, i_eq how]
      refine (b114_52 oR ht).trans ?_
      rw [n_add]; rfl
    · exact (b114_32 gR0 (aR (by omega))).trans (i_nlt (by show ¬ h + 1 + (A 71 0 - (h + 1)) < A 71 0; omega) (by omega))
  -- an heir's marbles
  have pO : ∀ (h : Nat) (s : Nat × (Nat → Nat)) (v4 : Option Value), h < A 71 0 → s.1 < 100 → ∀ k, k ≤ A 71 7 → ∃ v4', zd scr 114 16 [some (.ref 70), some (.int (nI s.1)), some (.int (nI h)), some (.int (nI 0)), v4] [] (wd (sq A s.2)) = zd scr 114 16 [some (.ref 70), some (.int (nI (lyO (A 71) h s k).1)), some (.int (nI h)), some (.int (nI k)), v4'] [] (wd (sq A (lyO (A 71) h s k).2)) := by
    intro h s v4 hh hs k
    induction k with
    | zero => intro _; exact ⟨v4, rfl⟩
    | succ k ih =>
      intro hk
      obtain ⟨v, e⟩ := ih (by omega)
      have ek := bO_g ho (g := k) (by omega)
      have hl := lyO_lt (b := A 71) (h := h) hs k
      rw [lyO]
      generalize lyO (A 71) h s k = t at hl e
      have e2 : zd scr 114 16 [some (.ref 70), some (.int (nI t.1)), some (.int (nI h)), some (.int (nI k)), v] [] (wd (sq A t.2)) = zd scr 114 27 [some (.ref 70), some (.int (nI t.1)), some (.int (nI h)), some (.int (nI k)), v] [] (wd (sq A t.2)) := (b114_16 gR0 (aR (by omega))).trans (i_lt (by show k < A 71 7; omega) (by rw [sq71]; omega))
      by_cases c : own (A 71) k = h
      · rw [if_pos c]
        obtain ⟨v', e3⟩ := pG t h k hl (by omega) c
        refine ⟨some (.int (nI (h + 1 + (A 71 0 - (h + 1))))), e.trans (e2.trans ?_)⟩
        have e4 : zd scr 114 27 [some (.ref 70), some (.int (nI t.1)), some (.int (nI h)), some (.int (nI k)), v] [] (wd (sq A t.2)) = zd scr 114 27 [some (.ref 70), some (.int (nI t.1)), some (.int (nI h)), some (.int (nI k)), v'] [] (wd (sq A t.2)) := b114_27.trans b114_27.symm
        refine e4.trans (e3.trans (b114_67.trans ?_))
        rw [n_add]
      · rw [if_neg c]
        by_cases c2 : h + 1 < A 71 0
        · refine ⟨some (.int (nI (h + 1))), e.trans (e2.trans (b114_27.trans ?_))⟩
          rw [n_add]
          refine (b114_32 gR0 (aR (by omega))).trans ((i_lt (by show h + 1 < A 71 0; omega) (by rw [sq71]; omega)).trans ((b114_43 oR (r_own2 (A := sq A t.2) ho (by rw [sq71]; omega))).trans ?_))
          rw [sq71, i_ne c (by omega) (by omega)]
          refine b114_67.trans ?_
          rw [n_add]
        · refine ⟨some (.int (nI (h + 1))), e.trans (e2.trans (b114_27.trans ?_))⟩
          rw [n_add]
          refine (b114_32 gR0 (aR (by omega))).trans ((i_nlt (by show ¬ h + 1 < A 71 0; omega) (by omega)).trans (b114_67.trans ?_))
          rw [n_add]
  -- all heirs
  have pH : ∀ h, h ≤ A 71 0 → ∃ v3 v4, zd scr 114 4 [some (.ref 70), some (.int (nI 0)), some (.int (nI 0)), none, none] [] (wd A) = zd scr 114 4 [some (.ref 70), some (.int (nI (lyH (A 71) (A 76) h).1)), some (.int (nI h)), v3, v4] [] (wd (sq A (lyH (A 71) (A 76) h).2)) := by
    intro h
    induction h with
    | zero =>
      intro _
      refine ⟨none, none, ?_⟩
      rw [show (lyH (A 71) (A 76) 0).2 = A 76 from rfl, sq_self]; rfl
    | succ h ih =>
      intro hh
      obtain ⟨v3, v4, e⟩ := ih (by omega)
      have hl := lyH_lt (b := A 71) (c := A 76) h
      rw [lyH]
      generalize lyH (A 71) (A 76) h = t at hl e
      obtain ⟨v, e2⟩ := pO h t v4 (by omega) hl (A 71 7) (Nat.le_refl _)
      refine ⟨some (.int (nI (A 71 7))), v, e.trans ((b114_4 gR0 (aR (by omega))).trans ((i_lt (by show h < A 71 0; omega) (by rw [sq71]; omega)).trans (b114_14.trans (e2.trans ?_))))⟩
      refine (b114_16 gR0 (aR (by omega))).trans ((i_nlt (by show ¬ A 71 7 < A 71 7; omega) (by omega)).trans (b114_73.trans ?_))
      rw [n_add]
  obtain ⟨v3, v4, e⟩ := pH (A 71 0) (Nat.le_refl _)
  refine e.trans ((b114_4 gR0 (aR (by omega))).trans ((i_nlt (by show ¬ A 71 0 < A 71 0; omega) (by omega)).trans (b114_79.trans ?_)))
  have hl := lyH_lt (b := A 71) (c := A 76) (A 71 0)
  unfold lyB
  generalize lyH (A 71) (A 76) (A 71 0) = t at hl
  by_cases c : t.1 = 0
  · rw [i_eq0 c, if_pos c]
    refine b114_83.trans ?_
    refine (zloopW (W := fun j => wd (sq A (fun i => if i < j then 0 else t.2 i))) (scr := scr) (mi := 114) (pc := 85) (st := []) (L := fun j => [some (.ref 70), some (.int (nI t.1)), some (.int (nI j)), v3, v4]) 7 ?_ (fun j hj => ?_)).trans ?_
    · refine congrArg wd (congrArg (sq A) ?_)
      funext i
      rw [if_neg (by omega)]
    · refine b114_85.trans ((i_lt hj (by omega)).trans ((b114_91 gR8 (sB6 hj)).trans ?_))
      rw [n_add]
      refine congrArg (fun w => zd scr 114 85 _ [] (wd (sq A w))) ?_
      funext i
      simp only [ups]
      (repeat' split) <;> first | rfl | (exfalso; omega)
    · exact b114_85.trans ((i_nlt (by omega) (by omega)).trans b114_105)
  · rw [i_ne0 c (by omega), if_neg c]
    exact b114_105
end RK
