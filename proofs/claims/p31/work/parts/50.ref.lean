/-! MarbleHeirsModel: what its methods read -/
/-- the reference's row, as far as it is in use -/
def bOk (b : Nat → Nat) : Prop := b 0 ≤ 6 ∧ b 1 < 3 ∧ b 2 < 9 ∧ b 6 ≤ 40 ∧ b 6 + b 7 ≤ 120 ∧ (∀ m, m < 4 → b (8 + m) < 10) ∧ (∀ h, h < b 0 → b (12 + 2 * h) < 4 ∧ b (13 + 2 * h) < 6 ∧ b (24 + h) < b 0) ∧ (∀ k, k < b 6 → b (30 + k) < 60) ∧ ∀ g, g < b 7 → b (70 + g) / 100 < b 0 ∧ b (70 + g) % 100 < 60
def own (b : Nat → Nat) (g : Nat) : Nat := b (70 + g) / 100
def cod (b : Nat → Nat) (g : Nat) : Nat := b (70 + g) % 100
def rk (b : Nat → Nat) (h n : Nat) : Nat := zsum (fun g => if own b g = h then 1 else 0) 0 n
def rsm (b : Nat → Nat) (f : Nat → Nat) (h n : Nat) : Nat := zsum (fun g => if own b g = h then f (cod b g) else 0) 0 n
section RF
variable {A B : Nat → Nat → Nat} {h k g n : Nat} {scr : List Int32}
theorem rok2 (c : Prop) [Decidable c] : zrok (some .boolean) (if c then nI 1 else nI 0) = true := by
  by_cases h : c
  · rw [if_pos h]; decide
  · rw [if_neg h]; decide
theorem r_lt1 {x : Int32} (hn : n < 10000) : (¬ x < 0 ∧ x ≤ nI n - nI 1) ↔ (¬ x < 0 ∧ x < nI n) := by
  constructor
  · rintro ⟨h0, h1⟩
    refine ⟨h0, ?_⟩
    obtain ⟨k, hk, rfl⟩ := n_of h0
    rw [n_lt hk (by omega)]
    rw [Int32.le_iff_toInt_le, n_subI hn (by omega), n_toInt hk] at h1
    omega
  · rintro ⟨h0, h1⟩
    refine ⟨h0, ?_⟩
    obtain ⟨k, hk, rfl⟩ := n_of h0
    rw [n_lt hk (by omega)] at h1
    rw [Int32.le_iff_toInt_le, n_subI hn (by omega), n_toInt hk]
    omega
theorem ite_iff {α : Type} {p q : Prop} [Decidable p] [Decidable q] (h : p ↔ q) (x y : α) : (if p then x else y) = (if q then x else y) := by
  by_cases hp : p
  · rw [if_pos hp, if_pos (h.mp hp)]
  · rw [if_neg hp, if_neg (fun hq => hp (h.mpr hq))]
theorem bO_g {b : Nat → Nat} (ho : bOk b) (hg : g < b 7) : own b g < b 0 ∧ cod b g < 60 ∧ b (70 + g) < 1000 ∧ b (70 + g) = 100 * own b g + cod b g := by
  obtain ⟨h0, -, -, -, -, -, -, -, h9⟩ := ho
  have := h9 g hg
  unfold own cod
  omega
theorem bO_7 {b : Nat → Nat} (ho : bOk b) : b 7 ≤ 120 := by
  obtain ⟨-, -, -, -, h, -⟩ := ho
  omega
theorem rk_le {b : Nat → Nat} : ∀ n, rk b h n ≤ n
  | 0 => Nat.le_refl _
  | n + 1 => by
    show rk b h n + (if own b (0 + n) = h then 1 else 0) ≤ n + 1
    have := rk_le (b := b) n
    split <;> omega
theorem rk_succ {b : Nat → Nat} (n : Nat) : rk b h (n + 1) = rk b h n + if own b n = h then 1 else 0 := by
  show rk b h n + (if own b (0 + n) = h then 1 else 0) = _
  rw [Nat.zero_add]
theorem rsm_succ {b : Nat → Nat} (f : Nat → Nat) (n : Nat) : rsm b f h (n + 1) = rsm b f h n + if own b n = h then f (cod b n) else 0 := by
  show rsm b f h n + (if own b (0 + n) = h then f (cod b (0 + n)) else 0) = _
  rw [Nat.zero_add]
end RF
