/-! MarbleHeirsModel: divides, vetoer, swaps, growth, rate -/
def dvB : Nat → (Nat → Nat) → Nat × (Nat → Nat)
  | 0, b => (0, b)
  | n + 1, b => if mny b = 0 then (0, b) else ((dvB n (rdB b)).1 + 1, (dvB n (rdB b)).2)
def vtB (b : Nat → Nat) (g k : Nat) : Int32 := vto (b 2) (cod b g % 10) (cod b k % 10) (b (12 + 2 * own b g)) (b (12 + 2 * own b k)) (b (8 + b (12 + 2 * own b g))) (b (8 + b (12 + 2 * own b k)))
def swB (b : Nat → Nat) (g k : Nat) : Nat → Nat := fun i => if i = 4 then b 4 + 1 else if i = 70 + k then 100 * own b k + cod b g else if i = 70 + g then 100 * own b g + cod b k else b i
def gPl (b : Nat → Nat) (g k : Nat) : Nat := one1 (b (13 + 2 * own b g)) (cod b k / 10) + one1 (b (13 + 2 * own b k)) (cod b g / 10)
def gMi (b : Nat → Nat) (g k : Nat) : Nat := one1 (b (13 + 2 * own b g)) (cod b g / 10) + one1 (b (13 + 2 * own b k)) (cod b k / 10)
def gBI (b : Nat → Nat) (g k : Nat) : Int32 := (nI (gPl b g k) - nI (one1 (b (13 + 2 * own b g)) (cod b g / 10))) - nI (one1 (b (13 + 2 * own b k)) (cod b k / 10))
def rtB (b : Nat → Nat) (g k : Nat) : Nat := if gPl b g k ≤ gMi b g k ∨ vtB b g k ≠ -6 then 0 else 10 * (gPl b g k - gMi b g k) + 9 - dif (cod b g % 10) (cod b k % 10)
section RJ
variable {A B : Nat → Nat → Nat} {b c : Nat → Nat} {h k g n : Nat} {scr : List Int32}
theorem rdB_ok (ho : bOk b) (hp : bPm b) (hn : 0 < b 0) : bOk (rdB b) ∧ bPm (rdB b) ∧ rdB b 0 = b 0 ∧ rdB b 6 = b 6 - mny b ∧ (∀ i, i ≠ 3 → i ≠ 6 → i ≠ 7 → i < 24 → rdB b i = b i) := by
  have h0 := ho.1
  have hm := mny_le b
  unfold rdB
  by_cases c : mny b = 0
  · rw [if_pos c, c]
    exact ⟨ho, hp, rfl, rfl, fun _ _ _ _ _ => rfl⟩
  rw [if_neg c]
  obtain ⟨i1, i2, i3, i4, i5, -⟩ := gvS_ok ho hp (byw b) (mny b) hm.1 hm.2
  generalize (gvS b (byw b) (mny b)).1 = r at i1 i2 i3 i4 i5
  have r0 : r 0 = b 0 := i3 0 (by omega) (by omega) (by omega)
  have ro : ∀ i, i ≠ 3 → (i < 24 ∨ 24 + (b 0 - 1) < i) → roB r i = r i := fun i a1 a2 => by
    unfold roB
    rw [r0, if_neg (by omega), if_neg (by omega), if_neg a1]
  have rs : ∀ j, j < b 0 → roB r (24 + j) = r (24 + if j = b 0 - 1 then 0 else j + 1) := fun j hj => by
    unfold roB
    rw [r0]
    by_cases e : j = b 0 - 1
    · rw [if_neg (by omega), if_pos (by omega), if_pos e]
    · rw [if_pos (by omega), if_neg e]; rfl
  obtain ⟨a0, a1, a2, a6, a7, a8, a9, a10, a11⟩ := i1
  have q0 : roB r 0 = r 0 := ro 0 (by omega) (by omega)
  refine ⟨⟨?_, ?_, ?_, ?_, ?_, ?_, ?_, ?_, ?_⟩, ⟨?_, ?_⟩, q0.trans r0, ?_, ?_⟩
  · rw [q0]; exact a0
  · rw [ro 1 (by omega) (by omega)]; exact a1
  · rw [ro 2 (by omega) (by omega)]; exact a2
  · rw [ro 6 (by omega) (by omega)]; exact a6
  · rw [ro 6 (by omega) (by omega), ro 7 (by omega) (by omega)]; exact a7
  · intro m hm; rw [ro _ (by omega) (by omega)]; exact a8 m hm
  · intro h hh
    rw [q0, r0] at hh ⊢
    rw [ro _ (by omega) (by omega), ro _ (by omega) (by omega), rs h hh]
    have e1 := a9 h (by omega)
    have e2 := (a9 (if h = b 0 - 1 then 0 else h + 1) (by split <;> omega)).2.2
    exact ⟨e1.1, e1.2.1, by omega⟩
  · intro k hk
    rw [ro 6 (by omega) (by omega)] at hk
    rw [ro _ (by omega) (by omega)]
    exact a10 k hk
  · intro g hg
    rw [ro 7 (by omega) (by omega)] at hg
    rw [q0, ro _ (by omega) (by omega)]
    exact a11 g hg
  · intro i j hi hj he
    rw [q0, r0] at hi hj
    rw [rs i hi, rs j hj] at he
    have := i2.1 _ _ (by rw [r0]; split <;> omega) (by rw [r0]; split <;> omega) he
    split at this <;> split at this <;> omega
  · intro h hh
    rw [q0, r0] at hh
    obtain ⟨j, j1, j2⟩ := i2.2 h (by omega)
    rw [r0] at j1
    refine ⟨if j = 0 then b 0 - 1 else j - 1, by rw [q0, r0]; split <;> omega, ?_⟩
    rw [rs _ (by split <;> omega), ← j2]
    refine congrArg r ?_
    by_cases e : j = 0
    · rw [if_pos e, if_pos rfl]; omega
    · rw [if_neg e, if_neg (by omega)]; omega
  · rw [ro 6 (by omega) (by omega), i4]
  · intro i b3 b6 b7 b24
    rw [ro i b3 (by omega), i3 i b6 b7 (by omega)]
theorem mny_0 (h6 : b 6 = 0) : mny b = 0 := by
  have := mny_le b
  omega
theorem dvB_ok : ∀ n (b : Nat → Nat), bOk b → bPm b → 0 < b 0 → bOk (dvB n b).2 ∧ bPm (dvB n b).2 ∧ (dvB n b).2 0 = b 0
  | 0, b, h1, h2, _ => ⟨h1, h2, rfl⟩
  | n + 1, b, h1, h2, h3 => by
    rw [dvB]
    by_cases c : mny b = 0
    · rw [if_pos c]; exact ⟨h1, h2, rfl⟩
    · rw [if_neg c]
      have hr := rdB_ok h1 h2 h3
      have ih := dvB_ok n (rdB b) hr.1 hr.2.1 (by omega)
      exact ⟨ih.1, ih.2.1, by rw [ih.2.2]; exact hr.2.2.1⟩
theorem n_sub0 (x : Int32) : x - nI 0 = x := Int32.sub_zero x
theorem bits6 : ∀ a, a < 3 → ∀ c, c < 2 → ∀ d, d < 2 → ((((nI a - nI c) - nI d < nI 1) ↔ a ≤ c + d) ∧ (c + d ≤ a → (nI a - nI c) - nI d = nI (a - (c + d)))) := by decide +kernel
theorem gPl_le : gPl b g k ≤ 2 := by
  have h1 := one1_le (b (13 + 2 * own b g)) (cod b k / 10)
  have h2 := one1_le (b (13 + 2 * own b k)) (cod b g / 10)
  unfold gPl
  omega
end RJ
