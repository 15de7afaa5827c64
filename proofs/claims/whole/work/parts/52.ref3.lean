/-! MarbleHeirsModel: rounds -/
def mny (b : Nat → Nat) : Nat := if b 0 ≤ b 6 then b 0 else if b 1 = 2 then 0 else b 6
def byw (b : Nat → Nat) : Nat := if b 6 < b 0 ∧ b 1 = 1 then 1 else 0
def gvS (b : Nat → Nat) (w : Nat) : Nat → (Nat → Nat) × Nat
  | 0 => (b, 0)
  | k + 1 => (gvB (gvS b w k).1 (if w = 0 then (gvS b w k).1 (24 + k) else (po (gvS b w k).1 (gvS b w k).2 ((gvS b w k).1 0)).getD 0), bset (gvS b w k).2 (if w = 0 then (gvS b w k).1 (24 + k) else (po (gvS b w k).1 (gvS b w k).2 ((gvS b w k).1 0)).getD 0))
/-- the order turned -/
def roB (b : Nat → Nat) : Nat → Nat := fun i => if 24 ≤ i ∧ i < 24 + (b 0 - 1) then b (i + 1) else if i = 24 + (b 0 - 1) then b 24 else if i = 3 then b 3 + 1 else b i
def rdB (b : Nat → Nat) : Nat → Nat := if mny b = 0 then b else roB (gvS b (byw b) (mny b)).1
/-- each heir stands in one place -/
def bPm (b : Nat → Nat) : Prop := (∀ i j, i < b 0 → j < b 0 → b (24 + i) = b (24 + j) → i = j) ∧ ∀ h, h < b 0 → ∃ j, j < b 0 ∧ b (24 + j) = h
section RH
variable {A B : Nat → Nat → Nat} {b c : Nat → Nat} {h k g n : Nat} {scr : List Int32}
theorem gvB_ok (ho : bOk b) (hh : h < b 0) (h6 : 0 < b 6) : bOk (gvB b h) := by
  obtain ⟨a0, a1, a2, a6, a7, a8, a9, a10, a11⟩ := ho
  have e0 : ∀ i, i ≠ 6 → i ≠ 7 → i < 30 → gvB b h i = b i := fun i i6 i7 i30 => by
    unfold gvB
    rw [if_neg (by omega), if_neg i7, if_neg i6, if_neg (by omega), if_neg (by omega)]
  have e6 : gvB b h 6 = b 6 - 1 := by
    unfold gvB
    rw [if_neg (by omega), if_neg (by omega), if_pos rfl]
  have e7 : gvB b h 7 = b 7 + 1 := by
    unfold gvB
    rw [if_neg (by omega), if_pos rfl]
  refine ⟨?_, ?_, ?_, ?_, ?_, ?_, ?_, ?_, ?_⟩
  · rw [e0 0 (by omega) (by omega) (by omega)]; exact a0
  · rw [e0 1 (by omega) (by omega) (by omega)]; exact a1
  · rw [e0 2 (by omega) (by omega) (by omega)]; exact a2
  · rw [e6]; omega
  · rw [e6, e7]; omega
  · intro m hm
    rw [e0 _ (by omega) (by omega) (by omega)]; exact a8 m hm
  · intro x hx
    rw [e0 0 (by omega) (by omega) (by omega)] at hx ⊢
    rw [e0 _ (by omega) (by omega) (by omega), e0 _ (by omega) (by omega) (by omega), e0 _ (by omega) (by omega) (by omega)]
    exact a9 x hx
  · intro k hk
    rw [e6] at hk
    unfold gvB
    rw [if_neg (by omega), if_neg (by omega), if_neg (by omega), if_pos (by omega)]
    exact a10 (k + 1) (by omega)
  · intro g hg
    rw [e7] at hg
    rw [e0 0 (by omega) (by omega) (by omega)]
    by_cases e : g = b 7
    · have e1 : gvB b h (70 + g) = 100 * h + b 30 := by
        unfold gvB
        rw [if_pos (by omega)]
      have : b 30 < 60 := a10 0 h6
      rw [e1]
      omega
    · have e1 : gvB b h (70 + g) = b (70 + g) := by
        unfold gvB
        rw [if_neg (by omega), if_neg (by omega), if_neg (by omega), if_neg (by omega), if_neg (by omega)]
      rw [e1]
      exact a11 g (by omega)
theorem gvB_lo {i : Nat} (i6 : i ≠ 6) (i7 : i ≠ 7) (i30 : i < 30) : gvB b h i = b i := by
  unfold gvB
  rw [if_neg (by omega), if_neg i7, if_neg i6, if_neg (by omega), if_neg (by omega)]
theorem po_none {s : Nat} : ∀ d, po b s d = none → ∀ e, e < d → ¬ s / 2 ^ b (24 + (b 0 - 1 - e)) % 2 = 0 := by
  intro d
  induction d with
  | zero => intro _ e he; omega
  | succ d ih =>
    intro hn e he
    rw [po] at hn
    by_cases c : s / 2 ^ b (24 + (b 0 - 1 - d)) % 2 = 0 ∧ (po b s d = none ∨ wrt b (b (24 + (b 0 - 1 - d))) ≤ wrt b ((po b s d).getD 0))
    · rw [if_pos c] at hn; cases hn
    · rw [if_neg c] at hn
      by_cases e1 : e = d
      · subst e1
        exact fun q => c ⟨q, Or.inl hn⟩
      · exact ih hn e (by omega)
/-- how many of a set -/
def btc (s n : Nat) : Nat := zsum (fun h => s / 2 ^ h % 2) 0 n
theorem btc_free {s : Nat} : ∀ n, btc s n < n → ∃ h, h < n ∧ s / 2 ^ h % 2 = 0 := by
  intro n
  induction n with
  | zero => intro h; omega
  | succ n ih =>
    intro hb
    have e : btc s (n + 1) = btc s n + s / 2 ^ n % 2 := by
      show btc s n + s / 2 ^ (0 + n) % 2 = _
      rw [Nat.zero_add]
    by_cases c : s / 2 ^ n % 2 = 0
    · exact ⟨n, by omega, c⟩
    · obtain ⟨h, h1, h2⟩ := ih (by omega)
      exact ⟨h, by omega, h2⟩
theorem btc_set : ∀ s, s < 64 → ∀ h, h < 6 → ∀ n, n < 7 → btc (bset s h) n ≤ btc s n + 1 := by decide +kernel
theorem btc_0 : ∀ n, n < 7 → btc 0 n = 0 := by decide +kernel
/-- one who has none yet is found -/
theorem po_some {s : Nat} (ho : bOk b) (hp : bPm b) (hc : btc s (b 0) < b 0) : ∃ x, po b s (b 0) = some x ∧ x < b 0 := by
  obtain ⟨h, h1, h2⟩ := btc_free _ hc
  obtain ⟨j, j1, j2⟩ := hp.2 h h1
  rcases e : po b s (b 0) with _ | x
  · have := po_none _ e (b 0 - 1 - j) (by omega)
    rw [show b 0 - 1 - (b 0 - 1 - j) = j by omega, j2] at this
    exact absurd h2 this
  · exact ⟨x, rfl, po_lt ho s _ (Nat.le_refl _) x e⟩
theorem gvS_ok (ho : bOk b) (hp : bPm b) (w : Nat) : ∀ k, k ≤ b 0 → k ≤ b 6 → bOk (gvS b w k).1 ∧ bPm (gvS b w k).1 ∧ (∀ i, i ≠ 6 → i ≠ 7 → i < 30 → (gvS b w k).1 i = b i) ∧ (gvS b w k).1 6 = b 6 - k ∧ (gvS b w k).1 7 = b 7 + k ∧ (gvS b w k).2 < 64 ∧ btc (gvS b w k).2 (b 0) ≤ k ∧ (k < b 0 → (if w = 0 then (gvS b w k).1 (24 + k) else (po (gvS b w k).1 (gvS b w k).2 ((gvS b w k).1 0)).getD 0) < b 0) := by
  have h0 := ho.1
  intro k
  induction k with
  | zero =>
    intro _ _
    refine ⟨ho, hp, fun _ _ _ _ => rfl, rfl, rfl, by show 0 < 64; omega, by show btc 0 (b 0) ≤ 0; rw [btc_0 _ (by omega)]; omega, fun hk => ?_⟩
    by_cases c : w = 0
    · rw [if_pos c]; exact (ho.2.2.2.2.2.2.1 0 hk).2.2
    · rw [if_neg c]
      obtain ⟨x, x1, x2⟩ := po_some (s := 0) ho hp (by rw [btc_0 _ (by omega)]; exact hk)
      show (po b 0 (b 0)).getD 0 < b 0
      rw [x1]; exact x2
  | succ k ih =>
    intro k1 k2
    obtain ⟨i1, i2, i3, i4, i5, i6, i7, i8⟩ := ih (by omega) (by omega)
    have hh := i8 (by omega)
    generalize hx : (if w = 0 then (gvS b w k).1 (24 + k) else (po (gvS b w k).1 (gvS b w k).2 ((gvS b w k).1 0)).getD 0) = x at hh
    have e1 : (gvS b w (k + 1)).1 = gvB (gvS b w k).1 x := by rw [← hx]; rfl
    have e2 : (gvS b w (k + 1)).2 = bset (gvS b w k).2 x := by rw [← hx]; rfl
    have j0 : (gvS b w k).1 0 = b 0 := i3 0 (by omega) (by omega) (by omega)
    have k3 : ∀ i, i ≠ 6 → i ≠ 7 → i < 30 → (gvS b w (k + 1)).1 i = b i := fun i a1 a2 a3 => by rw [e1, gvB_lo a1 a2 a3, i3 i a1 a2 a3]
    have k4 : bOk (gvS b w (k + 1)).1 := by rw [e1]; exact gvB_ok i1 (by rw [j0]; exact hh) (by omega)
    have k5 : bPm (gvS b w (k + 1)).1 := by
      have c0 := k3 0 (by omega) (by omega) (by omega)
      refine ⟨fun i j a1 a2 a3 => ?_, fun h a1 => ?_⟩
      · rw [c0] at a1 a2
        rw [k3 _ (by omega) (by omega) (by omega), k3 _ (by omega) (by omega) (by omega)] at a3
        exact hp.1 i j a1 a2 a3
      · rw [c0] at a1
        obtain ⟨j, j1, j2⟩ := hp.2 h a1
        exact ⟨j, by rw [c0]; exact j1, by rw [k3 _ (by omega) (by omega) (by omega)]; exact j2⟩
    have k7 : (gvS b w (k + 1)).2 < 64 := by rw [e2]; exact (bit_set _ i6 _ (by omega)).2
    have k8 : btc (gvS b w (k + 1)).2 (b 0) ≤ k + 1 := by
      rw [e2]
      have := btc_set _ i6 x (by omega) (b 0) (by omega)
      omega
    refine ⟨k4, k5, k3, ?_, ?_, k7, k8, fun hk => ?_⟩
    · rw [e1]
      unfold gvB
      rw [if_neg (by omega), if_neg (by omega), if_pos rfl, i4]
      omega
    · rw [e1]
      unfold gvB
      rw [if_neg (by omega), if_pos rfl, i5]
      omega
    · have c0 := k3 0 (by omega) (by omega) (by omega)
      by_cases c : w = 0
      · rw [if_pos c]
        have := (k4.2.2.2.2.2.2.1 (k + 1) (by omega)).2.2
        omega
      · rw [if_neg c]
        obtain ⟨y, y1, y2⟩ := po_some (s := (gvS b w (k + 1)).2) k4 k5 (by rw [c0]; omega)
        rw [y1]
        show y < b 0
        omega
theorem mny_le (b : Nat → Nat) : mny b ≤ b 0 ∧ mny b ≤ b 6 := by
  unfold mny
  (repeat' split) <;> omega
theorem r_rounds (ho : bOk (A 71)) (hp : bPm (A 71)) (hn : 0 < A 71 0) : zC scr 106 [.ref 70] (wd A) = some (some (.int (nI (mny (A 71)))), wd (sb A (rdB (A 71)))) := by
  have h0 := ho.1
  have h7 := bO_7 ho
  have h6 := ho.2.2.2.1
  have h67 := ho.2.2.2.2.1
  have hm := mny_le (A 71)
  have hwb : byw (A 71) < 2 := by unfold byw; split <;> omega
  rw [zC_of zh106]
  -- how many, and how
  have s1 : zd scr 106 0 [some (.ref 70), none, none, none, none, none, none] [] (wd A) = zd scr 106 77 [some (.ref 70), some (.int (nI (A 71 0))), some (.int (nI (mny (A 71)))), some (.int (nI (byw (A 71)))), some (.int (nI 0)), some (.int (nI 0)), none] [] (wd A) := by
    refine (b106_0 gR0 (aR (by omega)) gR0 (aR (by omega))).trans ?_
    unfold mny byw
    by_cases c : A 71 6 < A 71 0
    · have t55 : ∀ x, zd scr 106 55 [some (.ref 70), some (.int (nI (A 71 0))), some (.int x), none, none, none, none] [] (wd A) = zd scr 106 77 [some (.ref 70), some (.int (nI (A 71 0))), some (.int x), some (.int (nI (if A 71 6 < A 71 0 ∧ A 71 1 = 1 then 1 else 0))), some (.int (nI 0)), some (.int (nI 0)), none] [] (wd A) := by
        intro x
        refine (b106_55 gR0 (aR (by omega))).trans ?_
        have := ho.2.1
        by_cases c2 : A 71 1 = 1
        · rw [i_eq c2, if_pos ⟨c, c2⟩]; exact b106_65
        · rw [i_ne c2 (by omega) (by omega), if_neg (fun q => c2 q.2)]; exact b106_69
      have := ho.2.1
      refine (i_lt c (by omega)).trans ((b106_22 gR0 (aR (by omega))).trans ?_)
      rw [if_neg (show ¬ A 71 0 ≤ A 71 6 by omega)]
      by_cases c2 : A 71 1 = 2
      · refine (i_eq c2).trans ((b106_32 gR0 (aR (by omega))).trans ((i_lt c (by omega)).trans ?_))
        rw [if_pos c2]
        exact t55 _
      · refine (i_ne c2 (by omega) (by omega)).trans ((b106_36 gR0 (aR (by omega)) gR0 (aR (by omega))).trans ((i_lt c (by omega)).trans ?_))
        rw [if_neg c2]
        exact t55 _
    · refine (i_nlt c (by omega)).trans ((b106_18 gR0 (aR (by omega))).trans ((i_nlt c (by omega)).trans ?_))
      rw [if_pos (show A 71 0 ≤ A 71 6 by omega), if_neg (fun q => c q.1)]
      exact b106_69
  -- they are given
  have s2 : ∀ k, k ≤ mny (A 71) → ∃ v6, zd scr 106 77 [some (.ref 70), some (.int (nI (A 71 0))), some (.int (nI (mny (A 71)))), some (.int (nI (byw (A 71)))), some (.int (nI 0)), some (.int (nI 0)), none] [] (wd A) = zd scr 106 77 [some (.ref 70), some (.int (nI (A 71 0))), some (.int (nI (mny (A 71)))), some (.int (nI (byw (A 71)))), some (.int (nI (gvS (A 71) (byw (A 71)) k).2)), some (.int (nI k)), v6] [] (wd (sb A (gvS (A 71) (byw (A 71)) k).1)) := by
    intro k
    induction k with
    | zero =>
      intro _
      exact ⟨none, by rw [show (gvS (A 71) (byw (A 71)) 0).1 = A 71 from rfl, sb_self]; rfl⟩
    | succ k ih =>
      intro hk
      obtain ⟨v6, e⟩ := ih (by omega)
      obtain ⟨i1, i2, i3, i4, i5, i6, i7, i8⟩ := gvS_ok ho hp (byw (A 71)) k (by omega) (by omega)
      have hh := i8 (by omega)
      have i0 : (gvS (A 71) (byw (A 71)) k).1 0 = A 71 0 := i3 0 (by omega) (by omega) (by omega)
      have e1 : (gvS (A 71) (byw (A 71)) (k + 1)).1 = gvB (gvS (A 71) (byw (A 71)) k).1 (if byw (A 71) = 0 then (gvS (A 71) (byw (A 71)) k).1 (24 + k) else (po (gvS (A 71) (byw (A 71)) k).1 (gvS (A 71) (byw (A 71)) k).2 ((gvS (A 71) (byw (A 71)) k).1 0)).getD 0) := rfl
      have e2 : (gvS (A 71) (byw (A 71)) (k + 1)).2 = bset (gvS (A 71) (byw (A 71)) k).2 (if byw (A 71) = 0 then (gvS (A 71) (byw (A 71)) k).1 (24 + k) else (po (gvS (A 71) (byw (A 71)) k).1 (gvS (A 71) (byw (A 71)) k).2 ((gvS (A 71) (byw (A 71)) k).1 0)).getD 0) := rfl
      rw [e1, e2]
      have give : ∀ x, zC scr 104 [.ref 70, .int (nI x)] (wd (sb A (gvS (A 71) (byw (A 71)) k).1)) = some (none, wd (sb A (gvB (gvS (A 71) (byw (A 71)) k).1 x))) := fun x => by
        have hg := r_gives (scr := scr) (A := sb A (gvS (A 71) (byw (A 71)) k).1) (h := x) (by rw [sb71, i4]; omega) (by rw [sb71, i4]; omega) (by rw [sb71, i5]; omega)
        rw [sb_sb, sb71] at hg
        exact hg
      by_cases c : byw (A 71) = 0
      · rw [if_pos c] at hh ⊢
        refine ⟨some (.int (nI ((gvS (A 71) (byw (A 71)) k).1 (24 + k)))), e.trans (b106_77.trans ((i_lt (by omega) (by omega)).trans (b106_83.trans ((i_eq0 c).trans ((b106_96 gR0 (by rw [n_add]; exact aR' (by omega)) oR (give _)).trans ?_)))))⟩
        rw [n_add, (bit_set _ i6 _ (by omega)).1]
      · rw [if_neg c] at hh ⊢
        obtain ⟨y, y1, y2⟩ := po_some (s := (gvS (A 71) (byw (A 71)) k).2) i1 i2 (by rw [i0]; omega)
        have hpo := r_poorest (scr := scr) (A := sb A (gvS (A 71) (byw (A 71)) k).1) (s := (gvS (A 71) (byw (A 71)) k).2) i1 i6 (by rw [sb71, i0]; exact hn)
        rw [sb71, y1] at hpo
        rw [y1] at hh ⊢
        refine ⟨some (.int (nI y)), e.trans (b106_77.trans ((i_lt (by omega) (by omega)).trans (b106_83.trans ((i_ne0 c (by omega)).trans ((b106_87 oR hpo oR (give _)).trans ?_)))))⟩
        show zd scr 106 77 [_, _, _, _, some (.int (_ ||| (nI 1 <<< (nI y &&& 31)))), _, some (.int (nI y))] [] _ = _
        rw [n_add, (bit_set _ i6 _ (by rw [i0] at y2; omega)).1]
        rfl
  obtain ⟨v6, e2⟩ := s2 (mny (A 71)) (Nat.le_refl _)
  obtain ⟨i1, i2, i3, i4, i5, i6, i7, -⟩ := gvS_ok ho hp (byw (A 71)) (mny (A 71)) hm.1 hm.2
  refine s1.trans (e2.trans (b106_77.trans ((i_nlt (by omega) (by omega)).trans (b106_129.trans ?_))))
  unfold rdB
  by_cases c : mny (A 71) = 0
  · rw [if_pos c]
    rw [i_npos c]
    refine b106_204.trans ?_
    rw [c]
    rfl
  · rw [if_neg c, i_pos (by omega) (by omega)]
    generalize (gvS (A 71) (byw (A 71)) (mny (A 71))).1 = r at i1 i2 i3 i4 i5
    generalize (gvS (A 71) (byw (A 71)) (mny (A 71))).2 = s
    have r0 : r 0 = A 71 0 := i3 0 (by omega) (by omega) (by omega)
    refine (b106_133 gR0 (aR' (by omega))).trans ?_
    refine (zloopW (W := fun j => wd (sb A (fun i => if 24 ≤ i ∧ i < 24 + j then r (i + 1) else r i))) (scr := scr) (mi := 106) (pc := 145) (st := []) (L := fun j => [some (.ref 70), some (.int (nI (A 71 0))), some (.int (nI (mny (A 71)))), some (.int (nI (byw (A 71)))), some (.int (nI s)), some (.int (nI (r 24))), some (.int (nI j))]) (A 71 0 - 1) ?_ (fun j hj => ?_)).trans ?_
    · refine congrArg wd (congrArg (sb A) ?_)
      funext i
      rw [if_neg (by omega)]
    · refine b106_145.trans ?_
      rw [n_sub (by omega), i_lt hj (by omega)]
      refine (b106_153 (f3 := nI (r (24 + j + 1))) gR0 gR0 (by
        rw [n_add, n_add, aR' (by omega), if_neg (by omega)]) (by rw [n_add, sR' (by omega)])).trans ?_
      rw [n_add]
      refine congrArg (fun w => zd scr 106 145 _ [] w) (congrArg wd (congrArg (sb A) ?_))
      funext i
      simp only [ups]
      (repeat' split) <;> first | rfl | (exfalso; omega) | (exact congrArg r (by omega))
    · refine b106_145.trans ?_
      rw [n_sub (by omega), i_nlt (by omega) (by omega)]
      refine (b106_181 (f3 := nI (r 3)) (w1 := wd (sb A (ups (fun i => if 24 ≤ i ∧ i < 24 + (A 71 0 - 1) then r (i + 1) else r i) (24 + (A 71 0 - 1)) (r 24)))) gR0 (by rw [n_add, n_sub (by omega), show 24 + A 71 0 - 1 = 24 + (A 71 0 - 1) by omega, sR' (by omega)]) gR0 (by
        rw [aR' (by omega)]
        unfold ups
        rw [if_neg (by omega)]
        show some (nI (if 24 ≤ 3 ∧ 3 < 24 + (A 71 0 - 1) then r (3 + 1) else r 3)) = _
        rw [if_neg (by omega)]) (by rw [n_add, sR' (by omega)])).trans ?_
      refine congrArg (fun w => some (some (Value.int (nI (mny (A 71)))), wd (sb A w))) ?_
      funext i
      simp only [ups, roB, r0]
      (repeat' split) <;> first | rfl | (exfalso; omega) | (exact congrArg r (by omega))
end RH
