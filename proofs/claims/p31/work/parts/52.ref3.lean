/-! MarbleHeirsModel: rounds -/
def mny (b : Nat → Nat) : Nat := if b 0 ≤ b 6 then b 0 else if b 1 = 2 then 0 else b 6
def byw (b : Nat → Nat) : Nat := if b 6 < b 0 ∧ b 1 = 1 then 1 else 0
def gvS (b : Nat → Nat) (w : Nat) : Nat → (Nat → Nat) × Nat
  | 0 => (b, 0)
  | k + 1 => (gvB (gvS b w k).1 (if w = 0 then (gvS b w k).1 (24 + k) else (po (gvS b w k).1 (gvS b w k).2 ((gvS b w k).1 0)).getD 0), bset (gvS b w k).2 (if w = 0 then (gvS b w k).1 (24 + k) else (po (gvS b w k).1 (gvS b w k).2 ((gvS b w k).1 0)).getD 0))
/-- the order turned -/
def roB (b : Nat → Nat) : Nat → Nat := fun i => if 24 ≤ i ∧ i < 24 + (b 0 - 1) then b (i + 1) else if i = 24 + (b 0 - 1) then b 24 else if i = 3 then b 3 + 1 else b i
def rdB (b : Nat → Nat) : Nat → Nat := if mny b = 0 then b else roB (gvS b (byw b) (mny b)).1
/-- each heir stands in one place -/
def bPm (b : Nat → Nat) : Prop := (∀ i j, i < b 0 → j < b 0 → b (24 + i) = b (24 + j) → i = j) ∧ ∀ h, h < b 0 → ∃ j, j < b 0 ∧ b (24 + j) = h
section RH
variable {A B : Nat → Nat → Nat} {b c : Nat → Nat} {h k g n : Nat} {scr : List Int32}
theorem gvB_ok (ho : bOk b) (hh : h < b 0) (h6 : 0 < b 6) : bOk (gvB b h) := by
  obtain ⟨a0, a1, a2, a6, a7, a8, a9, a10, a11⟩ := ho
  have e0 : ∀ i, i ≠ 6 → i ≠ 7 → i < 30 → gvB b h i = b i := fun i i6 i7 i30 => by
    unfold gvB
    rw [if_neg (by omega), if_neg i7, if_neg i6, if_neg (by omega), if_neg (by omega)]
  have e6 : gvB b h 6 = b 6 - 1 := by
    unfold gvB
    rw [if_neg (by omega), if_neg (by omega), if_pos rfl]
  have e7 : gvB b h 7 = b 7 + 1 := by
    unfold gvB
    rw [if_neg (by omega), if_pos rfl]
  refine ⟨?_, ?_, ?_, ?_, ?_, ?_, ?_, ?_, ?_⟩
  · rw [e0 0 (by omega) (by omega) (by omega)]; exact a0
  · rw [e0 1 (by omega) (by omega) (by omega)]; exact a1
  · rw [e0 2 (by omega) (by omega) (by omega)]; exact a2
  · rw [e6]; omega
  · rw [e6, e7]; omega
  · intro m hm
    rw [e0 _ (by omega) (by omega) (by omega)]; exact a8 m hm
  · intro x hx
    rw [e0 0 (by omega) (by omega) (by omega)] at hx ⊢
    rw [e0 _ (by omega) (by omega) (by omega), e0 _ (by omega) (by omega) (by omega), e0 _ (by omega) (by omega) (by omega)]
    exact a9 x hx
  · intro k hk
    rw [e6] at hk
    unfold gvB
    rw [if_neg (by omega), if_neg (by omega), if_neg (by omega), if_pos (by omega)]
    exact a10 (k + 1) (by omega)
  · intro g hg
    rw [e7] at hg
    rw [e0 0 (by omega) (by omega) (by omega)]
    by_cases e : g = b 7
    · have e1 : gvB b h (70 + g) = 100 * h + b 30 := by
        unfold gvB
        rw [if_pos (by omega)]
      have : b 30 < 60 := a10 0 h6
      rw [e1]
      omega
    · have e1 : gvB b h (70 + g) = b (70 + g) := by
        unfold gvB
        rw [if_neg (by omega), if_neg (by omega), if_neg (by omega), if_neg (by omega), if_neg (by omega)]
      rw [e1]
      exact a11 g (by omega)
theorem gvB_lo {i : Nat} (i6 : i ≠ 6) (i7 : i ≠ 7) (i30 : i < 30) : gvB b h i = b i := by
  unfold gvB
  rw [if_neg (by omega), if_neg i7, if_neg i6, if_neg (by omega), if_neg (by omega)]
theorem po_none {s : Nat} : ∀ d, po b s d = none → ∀ e, e < d → ¬ s / 2 ^ b (24 + (b 0 - 1 - e)) % 2 = 0 := by
  intro d
  induction d with
  | zero => intro _ e he; omega
  | succ d ih =>
    intro hn e he
    rw [po] at hn
    by_cases c : s / 2 ^ b (24 + (b 0 - 1 - d)) % 2 = 0 ∧ (po b s d = none ∨ wrt b (b (24 + (b 0 - 1 - d))) ≤ wrt b ((po b s d).getD 0))
    · rw [if_pos c] at hn; cases hn
    · rw [if_neg c] at hn
      by_cases e1 : e = d
      · subst e1
        exact fun q => c ⟨q, Or.inl hn⟩
      · exact ih hn e (by omega)
/-- how many of a set -/
def btc (s n : Nat) : Nat := zsum (fun h => s / 2 ^ h % 2) 0 n
theorem btc_free {s : Nat} : ∀ n, btc s n < n → ∃ h, h < n ∧ s / 2 ^ h % 2 = 0 := by
  intro n
  induction n with
  | zero => intro h; omega
  | succ n ih =>
    intro hb
    have e : btc s (n + 1) = btc s n + s / 2 ^ n % 2 := by
      show btc s n + s / 2 ^ (0 + n) % 2 = _
      rw [Nat.zero_add]
    by_cases c : s / 2 ^ n % 2 = 0
    · exact ⟨n, by omega, c⟩
    · obtain ⟨h, h1, h2⟩ := ih (by omega)
      exact ⟨h, by omega, h2⟩
theorem btc_set : ∀ s, s < 64 → ∀ h, h < 6 → ∀ n, n < 7 → btc (bset s h) n ≤ btc s n + 1 := by decide +kernel
theorem btc_0 : ∀ n, n < 7 → btc 0 n = 0 := by decide +kernel
/-- one who has none yet is found -/
theorem po_some {s : Nat} (ho : bOk b) (hp : bPm b) (hc : btc s (b 0) < b 0) : ∃ x, po b s (b 0) = some x ∧ x < b 0 := by
  obtain ⟨h, h1, h2⟩ := btc_free _ hc
  obtain ⟨j, j1, j2⟩ := hp.2 h h1
  rcases e : po b s (b 0) with _ | x
  · have := po_none _ e (b 0 - 1 - j) (by omega)
    rw [show b 0 - 1 - (b 0 - 1 - j) = j by omega, j2] at this
    exact absurd h2 this
  · exact ⟨x, rfl, po_lt ho s _ (Nat.le_refl _) x e⟩
theorem gvS_ok (ho : bOk b) (hp : bPm b) (w : Nat) : ∀ k, k ≤ b 0 → k ≤ b 6 → bOk (gvS b w k).1 ∧ bPm (gvS b w k).1 ∧ (∀ i, i ≠ 6 → i ≠ 7 → i < 30 → (gvS b w k).1 i = b i) ∧ (gvS b w k).1 6 = b 6 - k ∧ (gvS b w k).1 7 = b 7 + k ∧ (gvS b w k).2 < 64 ∧ btc (gvS b w k).2 (b 0) ≤ k ∧ (k < b 0 → (if w = 0 then (gvS b w k).1 (24 + k) else (po (gvS b w k).1 (gvS b w k).2 ((gvS b w k).1 0)).getD 0) < b 0) := by
  have h0 := ho.1
  intro k
  induction k with
  | zero =>
    intro _ _
    refine ⟨ho, hp, fun _ _ _ _ => rfl, rfl, rfl, by show 0 < 64; omega, by show btc 0 (b 0) ≤ 0; rw [btc_0 _ (by omega)]; omega, fun hk => ?_⟩
    by_cases c : w = 0
    · rw [if_pos c]; exact (ho.2.2.2.2.2.2.1 0 hk).2.2
    · rw [if_neg c]
      obtain ⟨x, x1, x2⟩ := po_some (s := 0) ho hp (by rw [btc_0 _ (by omega)]; exact hk)
      show (po b 0 (b 0)).getD 0 < b 0
      rw [x1]; exact x2
  | succ k ih =>
    intro k1 k2
    obtain ⟨i1, i2, i3, i4, i5, i6, i7, i8⟩ := ih (by omega) (by omega)
    have hh := i8 (by omega)
    generalize hx : (if w = 0 then (gvS b w k).1 (24 + k) else (po (gvS b w k).1 (gvS b w k).2 ((gvS b w k).1 0)).getD 0) = x at hh
    have e1 : (gvS b w (k + 1)).1 = gvB (gvS b w k).1 x := by rw [← hx]; rfl
    have e2 : (gvS b w (k + 1)).2 = bset (gvS b w k).2 x := by rw [← hx]; rfl
    have j0 : (gvS b w k).1 0 = b 0 := i3 0 (by omega) (by omega) (by omega)
    have k3 : ∀ i, i ≠ 6 → i ≠ 7 → i < 30 → (gvS b w (k + 1)).1 i = b i := fun i a1 a2 a3 => by rw [e1, gvB_lo a1 a2 a3, i3 i a1 a2 a3]
    have k4 : bOk (gvS b w (k + 1)).1 := by rw [e1]; exact gvB_ok i1 (by rw [j0]; exact hh) (by omega)
    have k5 : bPm (gvS b w (k + 1)).1 := by
      have c0 := k3 0 (by omega) (by omega) (by omega)
      refine ⟨fun i j a1 a2 a3 => ?_, fun h a1 => ?_⟩
      · rw [c0] at a1 a2
        rw [k3 _ (by omega) (by omega) (by omega), k3 _ (by omega) (by omega) (by omega)] at a3
        exact hp.1 i j a1 a2 a3
      · rw [c0] at a1
        obtain ⟨j, j1, j2⟩ := hp.2 h a1
        exact ⟨j, by rw [c0]; exact j1, by rw [k3 _ (by omega) (by omega) (by omega)]; exact j2⟩
    have k7 : (gvS b w (k + 1)).2 < 64 := by rw [e2]; exact (bit_set _ i6 _ (by omega)).2
    have k8 : btc (gvS b w (k + 1)).2 (b 0) ≤ k + 1 := by
      rw [e2]
      have := btc_set _ i6 x (by omega) (b 0) (by omega)
      omega
    refine ⟨k4, k5, k3, ?_, ?_, k7, k8, fun hk => ?_⟩
    · rw [e1]
      unfold gvB
      rw [if_neg (by omega), if_neg (by omega), if_pos rfl, i4]
      omega
    · rw [e1]
      unfold gvB
      rw [if_neg (by omega), if_pos rfl, i5]
      omega
    · have c0 := k3 0 (by omega) (by omega) (by omega)
      by_cases c : w = 0
      · rw [if_pos c]
        have := (k4.2.2.2.2.2.2.1 (k + 1) (by omega)).2.2
        omega
      · rw [if_neg c]
        obtain ⟨y, y1, y2⟩ := po_some (s := (gvS b w (k + 1)).2) k4 k5 (by rw [c0]; omega)
        rw [y1]
        show y < b 0
        omega
theorem mny_le (b : Nat → Nat) : mny b ≤ b 0 ∧ mny b ≤ b 6 := by
  unfold mny
  (repeat' split) <;> omega
end RH
