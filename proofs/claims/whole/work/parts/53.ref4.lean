/-! MarbleHeirsModel: divides, vetoer, swaps, growth, rate -/
def dvB : Nat → (Nat → Nat) → Nat × (Nat → Nat)
  | 0, b => (0, b)
  | n + 1, b => if mny b = 0 then (0, b) else ((dvB n (rdB b)).1 + 1, (dvB n (rdB b)).2)
def vtB (b : Nat → Nat) (g k : Nat) : Int32 := vto (b 2) (cod b g % 10) (cod b k % 10) (b (12 + 2 * own b g)) (b (12 + 2 * own b k)) (b (8 + b (12 + 2 * own b g))) (b (8 + b (12 + 2 * own b k)))
def swB (b : Nat → Nat) (g k : Nat) : Nat → Nat := fun i => if i = 4 then b 4 + 1 else if i = 70 + k then 100 * own b k + cod b g else if i = 70 + g then 100 * own b g + cod b k else b i
def gPl (b : Nat → Nat) (g k : Nat) : Nat := one1 (b (13 + 2 * own b g)) (cod b k / 10) + one1 (b (13 + 2 * own b k)) (cod b g / 10)
def gMi (b : Nat → Nat) (g k : Nat) : Nat := one1 (b (13 + 2 * own b g)) (cod b g / 10) + one1 (b (13 + 2 * own b k)) (cod b k / 10)
def gBI (b : Nat → Nat) (g k : Nat) : Int32 := (nI (gPl b g k) - nI (one1 (b (13 + 2 * own b g)) (cod b g / 10))) - nI (one1 (b (13 + 2 * own b k)) (cod b k / 10))
def rtB (b : Nat → Nat) (g k : Nat) : Nat := if gPl b g k ≤ gMi b g k ∨ vtB b g k ≠ -6 then 0 else 10 * (gPl b g k - gMi b g k) + 9 - dif (cod b g % 10) (cod b k % 10)
section RJ
variable {A B : Nat → Nat → Nat} {b c : Nat → Nat} {h k g n : Nat} {scr : List Int32}
theorem rdB_ok (ho : bOk b) (hp : bPm b) (hn : 0 < b 0) : bOk (rdB b) ∧ bPm (rdB b) ∧ rdB b 0 = b 0 ∧ rdB b 6 = b 6 - mny b ∧ (∀ i, i ≠ 3 → i ≠ 6 → i ≠ 7 → i < 24 → rdB b i = b i) := by
  have h0 := ho.1
  have hm := mny_le b
  unfold rdB
  by_cases c : mny b = 0
  · rw [if_pos c, c]
    exact ⟨ho, hp, rfl, rfl, fun _ _ _ _ _ => rfl⟩
  rw [if_neg c]
  obtain ⟨i1, i2, i3, i4, i5, -⟩ := gvS_ok ho hp (byw b) (mny b) hm.1 hm.2
  generalize (gvS b (byw b) (mny b)).1 = r at i1 i2 i3 i4 i5
  have r0 : r 0 = b 0 := i3 0 (by omega) (by omega) (by omega)
  have ro : ∀ i, i ≠ 3 → (i < 24 ∨ 24 + (b 0 - 1) < i) → roB r i = r i := fun i a1 a2 => by
    unfold roB
    rw [r0, if_neg (by omega), if_neg (by omega), if_neg a1]
  have rs : ∀ j, j < b 0 → roB r (24 + j) = r (24 + if j = b 0 - 1 then 0 else j + 1) := fun j hj => by
    unfold roB
    rw [r0]
    by_cases e : j = b 0 - 1
    · rw [if_neg (by omega), if_pos (by omega), if_pos e]
    · rw [if_pos (by omega), if_neg e]; rfl
  obtain ⟨a0, a1, a2, a6, a7, a8, a9, a10, a11⟩ := i1
  have q0 : roB r 0 = r 0 := ro 0 (by omega) (by omega)
  refine ⟨⟨?_, ?_, ?_, ?_, ?_, ?_, ?_, ?_, ?_⟩, ⟨?_, ?_⟩, q0.trans r0, ?_, ?_⟩
  · rw [q0]; exact a0
  · rw [ro 1 (by omega) (by omega)]; exact a1
  · rw [ro 2 (by omega) (by omega)]; exact a2
  · rw [ro 6 (by omega) (by omega)]; exact a6
  · rw [ro 6 (by omega) (by omega), ro 7 (by omega) (by omega)]; exact a7
  · intro m hm; rw [ro _ (by omega) (by omega)]; exact a8 m hm
  · intro h hh
    rw [q0, r0] at hh ⊢
    rw [ro _ (by omega) (by omega), ro _ (by omega) (by omega), rs h hh]
    have e1 := a9 h (by omega)
    have e2 := (a9 (if h = b 0 - 1 then 0 else h + 1) (by split <;> omega)).2.2
    exact ⟨e1.1, e1.2.1, by omega⟩
  · intro k hk
    rw [ro 6 (by omega) (by omega)] at hk
    rw [ro _ (by omega) (by omega)]
    exact a10 k hk
  · intro g hg
    rw [ro 7 (by omega) (by omega)] at hg
    rw [q0, ro _ (by omega) (by omega)]
    exact a11 g hg
  · intro i j hi hj he
    rw [q0, r0] at hi hj
    rw [rs i hi, rs j hj] at he
    have := i2.1 _ _ (by rw [r0]; split <;> omega) (by rw [r0]; split <;> omega) he
    split at this <;> split at this <;> omega
  · intro h hh
    rw [q0, r0] at hh
    obtain ⟨j, j1, j2⟩ := i2.2 h (by omega)
    rw [r0] at j1
    refine ⟨if j = 0 then b 0 - 1 else j - 1, by rw [q0, r0]; split <;> omega, ?_⟩
    rw [rs _ (by split <;> omega), ← j2]
    refine congrArg r ?_
    by_cases e : j = 0
    · rw [if_pos e, if_pos rfl]; omega
    · rw [if_neg e, if_neg (by omega)]; omega
  · rw [ro 6 (by omega) (by omega), i4]
  · intro i b3 b6 b7 b24
    rw [ro i b3 (by omega), i3 i b6 b7 (by omega)]
theorem mny_0 (h6 : b 6 = 0) : mny b = 0 := by
  have := mny_le b
  omega
theorem dvB_ok : ∀ n (b : Nat → Nat), bOk b → bPm b → 0 < b 0 → bOk (dvB n b).2 ∧ bPm (dvB n b).2 ∧ (dvB n b).2 0 = b 0
  | 0, b, h1, h2, _ => ⟨h1, h2, rfl⟩
  | n + 1, b, h1, h2, h3 => by
    rw [dvB]
    by_cases c : mny b = 0
    · rw [if_pos c]; exact ⟨h1, h2, rfl⟩
    · rw [if_neg c]
      have hr := rdB_ok h1 h2 h3
      have ih := dvB_ok n (rdB b) hr.1 hr.2.1 (by omega)
      exact ⟨ih.1, ih.2.1, by rw [ih.2.2]; exact hr.2.2.1⟩
theorem r_divides (ho : bOk (A 71)) (hp : bPm (A 71)) (hn : 0 < A 71 0) : zC scr 107 [.ref 70] (wd A) = some (some (.int (nI (dvB (A 71 6) (A 71)).1)), wd (sb A (dvB (A 71 6) (A 71)).2)) := by
  have key : ∀ n (b : Nat → Nat) (x : Nat), bOk b → bPm b → 0 < b 0 → b 6 ≤ n → zd scr 107 2 [some (.ref 70), some (.int (nI x))] [] (wd (sb A b)) = some (some (.int (nI (x + (dvB n b).1))), wd (sb A (dvB n b).2)) := by
    intro n
    induction n with
    | zero =>
      intro b x h1 h2 h3 h6
      have hr := r_rounds (scr := scr) (A := sb A b) h1 h2 h3
      rw [sb71] at hr
      refine (b107_2 oR hr).trans ?_
      have hm := mny_0 (b := b) (by omega)
      refine (i_npos hm).trans ?_
      unfold rdB
      rw [if_pos hm, sb_sb]
      exact b107_15
    | succ n ih =>
      intro b x h1 h2 h3 h6
      have hr := r_rounds (scr := scr) (A := sb A b) h1 h2 h3
      rw [sb71, sb_sb] at hr
      refine (b107_2 oR hr).trans ?_
      have hml := mny_le b
      have h0 := h1.1
      rw [dvB]
      by_cases hm : mny b = 0
      · refine (i_npos hm).trans ?_
        rw [if_pos hm]
        unfold rdB
        rw [if_pos hm]
        exact b107_15
      · refine (i_pos (by omega) (by omega)).trans (b107_9.trans ?_)
        rw [if_neg hm, n_add]
        have hk := rdB_ok h1 h2 h3
        refine (ih (rdB b) (x + 1) hk.1 hk.2.1 (by omega) (by omega)).trans ?_
        rw [show x + 1 + (dvB n (rdB b)).1 = x + ((dvB n (rdB b)).1 + 1) by omega]
  rw [zC_of zh107]
  refine b107_0.trans ?_
  have := key (A 71 6) (A 71) 0 ho hp hn (Nat.le_refl _)
  rw [sb_self, Nat.zero_add] at this
  exact this
theorem r_own2 (ho : bOk (A 71)) (hg : g < A 71 7) : zC scr 95 [.ref 70, .int (nI g)] (wd A) = some (some (.int (nI (own (A 71) g))), wd A) := by
  have := bO_g ho hg
  have := bO_7 ho
  exact r_owner (by omega) (by omega)
theorem r_col2 (ho : bOk (A 71)) (hg : g < A 71 7) : zC scr 96 [.ref 70, .int (nI g)] (wd A) = some (some (.int (nI (cod (A 71) g / 10))), wd A) := by
  have := bO_g ho hg
  have := bO_7 ho
  exact r_colour (by omega) (by omega)
theorem r_val2 (ho : bOk (A 71)) (hg : g < A 71 7) : zC scr 97 [.ref 70, .int (nI g)] (wd A) = some (some (.int (nI (cod (A 71) g % 10))), wd A) := by
  have := bO_g ho hg
  have := bO_7 ho
  exact r_value (by omega) (by omega)
theorem r_vetoer (ho : bOk (A 71)) (hg : g < A 71 7) (hk : k < A 71 7) : zC scr 108 [.ref 70, .int (nI g), .int (nI k)] (wd A) = some (some (.int (vtB (A 71) g k)), wd A) := by
  have h0 := ho.1
  have e1 := bO_g ho hg
  have e2 := bO_g ho hk
  have m1 := (ho.2.2.2.2.2.2.1 _ e1.1).1
  have m2 := (ho.2.2.2.2.2.2.1 _ e2.1).1
  have v1 := ho.2.2.2.2.2.1 _ m1
  have v2 := ho.2.2.2.2.2.1 _ m2
  have hpa := ho.2.2.1
  rw [zC_of zh108]
  refine (b108_0 oR (r_own2 ho hg) oR (r_of (w := 0) (by omega) (by omega)) oR (r_own2 ho hk) oR (r_of (w := 0) (by omega) (by omega)) oR (r_val2 ho hg) oR (r_val2 ho hk) gR0 (aR (by omega))).trans ?_
  rw [Nat.add_zero, Nat.add_zero]
  unfold vtB vto
  -- from the second mother on
  have sec : ¬ (A 71 2 + cod (A 71) k % 10 < cod (A 71) g % 10 ∧ 0 < A 71 (8 + A 71 (12 + 2 * own (A 71) g))) → zd scr 108 61 [some (.ref 70), some (.int (nI g)), some (.int (nI k)), some (.int (nI (A 71 (12 + 2 * own (A 71) g)))), some (.int (nI (A 71 (12 + 2 * own (A 71) k)))), some (.int (nI (cod (A 71) g % 10) - nI (cod (A 71) k % 10)))] [] (wd A) = some (some (.int (if A 71 2 + cod (A 71) k % 10 < cod (A 71) g % 10 ∧ 0 < A 71 (8 + A 71 (12 + 2 * own (A 71) g)) then nI (A 71 (12 + 2 * own (A 71) g)) else if A 71 2 + cod (A 71) g % 10 < cod (A 71) k % 10 ∧ 0 < A 71 (8 + A 71 (12 + 2 * own (A 71) k)) then nI (A 71 (12 + 2 * own (A 71) k)) else -6)), wd A) := by
    intro hn
    rw [if_neg hn]
    refine (b108_61 gR0 (aR (by omega))).trans ?_
    have hl := n_ltN (a := cod (A 71) g % 10) (b := cod (A 71) k % 10) (c := A 71 2) (by omega) (by omega) (by omega)
    by_cases c1 : A 71 2 + cod (A 71) g % 10 < cod (A 71) k % 10
    · rw [if_pos (by rw [hl]; exact c1)]
      refine (b108_73 gR0 (by rw [n_add]; exact aR (by omega))).trans ?_
      by_cases c2 : 0 < A 71 (8 + A 71 (12 + 2 * own (A 71) k))
      · rw [i_pos c2 (by omega), if_pos ⟨c1, c2⟩]; exact b108_86
      · rw [i_npos (by omega), if_neg (fun q => c2 q.2)]; exact b108_91
    · rw [if_neg (by rw [hl]; exact c1), if_neg (fun q => c1 q.1)]; exact b108_91
  have hl := n_ltS (a := cod (A 71) g % 10) (b := cod (A 71) k % 10) (c := A 71 2) (by omega) (by omega) (by omega)
  by_cases c1 : A 71 2 + cod (A 71) k % 10 < cod (A 71) g % 10
  · refine (if_pos (by rw [hl]; exact c1)).trans ?_
    refine (b108_47 gR0 (by rw [n_add]; exact aR (by omega))).trans ?_
    by_cases c2 : 0 < A 71 (8 + A 71 (12 + 2 * own (A 71) g))
    · refine (i_pos c2 (by omega)).trans ?_
      rw [if_pos ⟨c1, c2⟩]; exact b108_59
    · exact (i_npos (by omega)).trans (sec (fun q => c2 q.2))
  · refine (if_neg (by rw [hl]; exact c1)).trans (sec (fun q => c1 q.1))
theorem r_swaps (ho : bOk (A 71)) (hg : g < A 71 7) (hk : k < A 71 7) (hne : g ≠ k) : zC scr 109 [.ref 70, .int (nI g), .int (nI k)] (wd A) = some (none, wd (sb A (swB (A 71) g k))) := by
  have h0 := ho.1
  have h7 := bO_7 ho
  have e1 := bO_g ho hg
  have e2 := bO_g ho hk
  rw [zC_of zh109]
  refine (b109_0 (f2 := nI (A 71 (70 + g))) (f6 := nI (A 71 (70 + k))) (f8 := nI (own (A 71) k)) (f10 := nI (A 71 4)) (w2 := wd (sb A (ups (A 71) (70 + g) (100 * own (A 71) g + cod (A 71) k)))) (w3 := wd (sb A (ups (A 71) (70 + g) (100 * own (A 71) g + cod (A 71) k)))) (w4 := wd (sb A (ups (ups (A 71) (70 + g) (100 * own (A 71) g + cod (A 71) k)) (70 + k) (100 * own (A 71) k + cod (A 71) g)))) gR0 (by rw [n_add]; exact aR (by omega)) gR0 oR (r_own2 ho hg) gR0 (by rw [n_add]; exact aR (by omega)) (by rw [n_add, n_mul, n_rem (by omega) (by omega), n_add, sR _ (by omega), up71]; rfl) gR0 oR ?_ (by rw [n_add, n_mul, n_rem (by omega) (by omega), n_add, sR' (by omega)]; rfl) gR0 ?_ (by rw [n_add, sR' (by omega)])).trans ?_
  · have ek : ups (A 71) (70 + g) (100 * own (A 71) g + cod (A 71) k) (70 + k) = A 71 (70 + k) := by
      unfold ups
      rw [if_neg (by omega)]
    have := r_owner (scr := scr) (A := sb A (ups (A 71) (70 + g) (100 * own (A 71) g + cod (A 71) k))) (g := k) (by omega) (by rw [sb71, ek]; omega)
    rw [sb71] at this
    unfold own at this ⊢
    rw [← ek]
    exact this
  · rw [aR' (by omega)]
    unfold ups
    rw [if_neg (by omega), if_neg (by omega)]
  · refine congrArg (fun w => some (none, wd (sb A w))) ?_
    funext i
    simp only [ups, swB]
theorem n_sub0 (x : Int32) : x - nI 0 = x := Int32.sub_zero x
theorem r_growth (ho : bOk (A 71)) (hg : g < A 71 7) (hk : k < A 71 7) : zC scr 110 [.ref 70, .int (nI g), .int (nI k)] (wd A) = some (some (.int (gBI (A 71) g k)), wd A) := by
  have h0 := ho.1
  have e1 := bO_g ho hg
  have e2 := bO_g ho hk
  have m1 := (ho.2.2.2.2.2.2.1 _ e1.1).2.1
  have m2 := (ho.2.2.2.2.2.2.1 _ e2.1).2.1
  rw [zC_of zh110]
  refine (b110_0 oR (r_own2 ho hg) oR (r_of (w := 1) (by omega) (by omega)) oR (r_own2 ho hk) oR (r_of (w := 1) (by omega) (by omega)) oR (r_col2 ho hk)).trans ?_
  rw [show 12 + 2 * own (A 71) g + 1 = 13 + 2 * own (A 71) g by omega, show 12 + 2 * own (A 71) k + 1 = 13 + 2 * own (A 71) k by omega]
  unfold gBI gPl one1
  generalize A 71 (13 + 2 * own (A 71) g) = wg at m1
  generalize A 71 (13 + 2 * own (A 71) k) = wk at m2
  -- what is taken away
  have tk : ∀ y : Int32, ∀ x5 : Int32, (if nI wg = nI (cod (A 71) g / 10) then zd scr 110 66 [some (.ref 70), some (.int (nI g)), some (.int (nI k)), some (.int (nI wg)), some (.int (nI wk)), some (.int x5)] [.int y] (wd A) else zd scr 110 70 [some (.ref 70), some (.int (nI g)), some (.int (nI k)), some (.int (nI wg)), some (.int (nI wk)), some (.int x5)] [.int y] (wd A)) = some (some (.int ((y - nI (if wg = cod (A 71) g / 10 then 1 else 0)) - nI (if wk = cod (A 71) k / 10 then 1 else 0))), wd A) := by
    intro y x5
    by_cases c1 : wg = cod (A 71) g / 10
    · rw [i_eq c1, if_pos c1]
      refine (b110_66 oR (r_col2 ho hk)).trans ?_
      by_cases c2 : wk = cod (A 71) k / 10
      · rw [i_eq c2, if_pos c2]; exact b110_82
      · rw [i_ne c2 (by omega) (by omega), if_neg c2]; exact b110_86
    · rw [i_ne c1 (by omega) (by omega), if_neg c1]
      refine (b110_70 oR (r_col2 ho hk)).trans ?_
      by_cases c2 : wk = cod (A 71) k / 10
      · rw [i_eq c2, if_pos c2]; exact b110_82
      · rw [i_ne c2 (by omega) (by omega), if_neg c2]; exact b110_86
  -- what is won at the other
  have wn : ∀ y : Nat, (if nI wk = nI (cod (A 71) g / 10) then zd scr 110 47 [some (.ref 70), some (.int (nI g)), some (.int (nI k)), some (.int (nI wg)), some (.int (nI wk)), none] [.int (nI y)] (wd A) else zd scr 110 51 [some (.ref 70), some (.int (nI g)), some (.int (nI k)), some (.int (nI wg)), some (.int (nI wk)), none] [.int (nI y)] (wd A)) = some (some (.int ((nI (y + if wk = cod (A 71) g / 10 then 1 else 0) - nI (if wg = cod (A 71) g / 10 then 1 else 0)) - nI (if wk = cod (A 71) k / 10 then 1 else 0))), wd A) := by
    intro y
    by_cases c1 : wk = cod (A 71) g / 10
    · rw [i_eq c1, if_pos c1]
      refine (b110_47 oR (r_col2 ho hg)).trans ?_
      rw [n_add]
      exact tk _ _
    · rw [i_ne c1 (by omega) (by omega), if_neg c1]
      refine (b110_51 oR (r_col2 ho hg)).trans ?_
      rw [n_add]
      exact tk _ _
  by_cases c1 : wg = cod (A 71) k / 10
  · rw [if_pos c1]
    refine (i_eq c1).trans ((b110_32 oR (r_col2 ho hg)).trans ?_)
    exact wn 1
  · rw [if_neg c1]
    refine (i_ne c1 (by omega) (by omega)).trans ((b110_36 oR (r_col2 ho hg)).trans ?_)
    exact wn 0
theorem r_size {a d : Nat} (ha : a < 10000) (hd : d < 10000) : zC scr 111 [.int (nI a - nI d)] (wd A) = some (some (.int (nI (dif a d))), wd A) := by
  rw [zC_of zh111]
  refine b111_0.trans ?_
  unfold dif
  by_cases c : d ≤ a
  · rw [if_pos c, n_sub c, i_neg (by omega)]; exact b111_9
  · rw [if_neg c, if_pos (by rw [Int32.lt_iff_toInt_lt, n_subI ha hd, Int32.toInt_zero]; omega)]
    refine b111_4.trans ?_
    refine congrArg (fun x => some (some (Value.int x), wd A)) ?_
    apply Int32.toInt_inj.mp
    rw [n_toInt (by omega), n_negI ha hd]
    omega
theorem bits6 : ∀ a, a < 3 → ∀ c, c < 2 → ∀ d, d < 2 → ((((nI a - nI c) - nI d < nI 1) ↔ a ≤ c + d) ∧ (c + d ≤ a → (nI a - nI c) - nI d = nI (a - (c + d)))) := by decide +kernel
theorem gPl_le : gPl b g k ≤ 2 := by
  have h1 := one1_le (b (13 + 2 * own b g)) (cod b k / 10)
  have h2 := one1_le (b (13 + 2 * own b k)) (cod b g / 10)
  unfold gPl
  omega
theorem r_rate (ho : bOk (A 71)) (hg : g < A 71 7) (hk : k < A 71 7) : zC scr 112 [.ref 70, .int (nI g), .int (nI k)] (wd A) = some (some (.int (nI (rtB (A 71) g k))), wd A) := by
  have c1 := one1_le (A 71 (13 + 2 * own (A 71) g)) (cod (A 71) g / 10)
  have c2 := one1_le (A 71 (13 + 2 * own (A 71) k)) (cod (A 71) k / 10)
  have hb : (gBI (A 71) g k < nI 1 ↔ gPl (A 71) g k ≤ gMi (A 71) g k) ∧ (gMi (A 71) g k ≤ gPl (A 71) g k → gBI (A 71) g k = nI (gPl (A 71) g k - gMi (A 71) g k)) := bits6 (gPl (A 71) g k) (by have := gPl_le (b := A 71) (g := g) (k := k); omega) (one1 (A 71 (13 + 2 * own (A 71) g)) (cod (A 71) g / 10)) (by omega) (one1 (A 71 (13 + 2 * own (A 71) k)) (cod (A 71) k / 10)) (by omega)
  have hdf : dif (cod (A 71) g % 10) (cod (A 71) k % 10) ≤ 9 := by unfold dif; split <;> omega
  rw [zC_of zh112]
  refine (b112_0 oR (r_growth ho hg hk)).trans ?_
  unfold rtB
  by_cases d1 : gPl (A 71) g k ≤ gMi (A 71) g k
  · rw [if_pos (Or.inl d1), if_pos (hb.1.mpr d1)]; exact b112_23
  · rw [if_neg (fun q => d1 (hb.1.mp q))]
    refine (b112_12 oR (r_vetoer ho hg hk)).trans ?_
    by_cases d2 : vtB (A 71) g k = -6
    · rw [if_pos d2, if_neg (fun q => q.elim d1 (fun q => q d2))]
      refine (b112_27 oR (r_val2 ho hg) oR (r_val2 ho hk) (r_size (by omega) (by omega))).trans ?_
      have e : gBI (A 71) g k = nI (gPl (A 71) g k - gMi (A 71) g k) := hb.2 (by omega)
      rw [e, n_mul, n_add, n_sub (by omega)]
    · rw [if_neg d2, if_pos (Or.inr d2)]; exact b112_23
theorem r_rankOf (ho : bOk (A 71)) (hg : g < A 71 7) : zC scr 113 [.ref 70, .int (nI g)] (wd A) = some (some (.int (nI (rk (A 71) (own (A 71) g) g))), wd A) := by
  have h7 := bO_7 ho
  have h0 := ho.1
  have eg := bO_g ho hg
  rw [zC_of zh113]
  refine b113_0.trans ?_
  refine (zloop (W := fun _ => wd A) (scr := scr) (mi := 113) (pc := 4) (st := []) (L := fun j => [some (.ref 70), some (.int (nI g)), some (.int (nI (rk (A 71) (own (A 71) g) j))), some (.int (nI j))]) g (fun j hj => ?_)).trans ?_
  · have ej := bO_g ho (g := j) (by omega)
    refine b113_4.trans ((i_lt hj (by omega)).trans ((b113_9 oR (r_own2 ho (by omega)) oR (r_own2 ho hg)).trans ?_))
    show _ = zd scr 113 4 [_, _, some (.int (nI (rk (A 71) (own (A 71) g) (j + 1)))), _] [] _
    rw [rk_succ]
    by_cases e : own (A 71) j = own (A 71) g
    · rw [i_eq e, if_pos e]
      refine b113_23.trans ?_
      rw [n_add, n_add]
    · rw [i_ne e (by omega) (by omega), if_neg e]
      refine b113_27.trans ?_
      rw [n_add, n_add]
  · exact b113_4.trans ((i_nlt (by omega) (by omega)).trans b113_36)
end RJ
