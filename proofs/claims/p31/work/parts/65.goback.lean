/-! marbles of an heir who leaves -/
def gbR (b : Nat → Nat) (h : Nat) : Nat → Nat → Nat
  | 0 => b
  | k + 1 => if own b k = h then ups (ups (gbR b h k) (30 + gbR b h k 6) (cod b k)) 6 (gbR b h k 6 + 1) else ups (gbR b h k) (70 + (k - rk b h k)) (if h < own b k then b (70 + k) - 100 else b (70 + k))
def gbF (b : Nat → Nat) (h : Nat) : Nat → Nat := fun i => if i = 7 then b 7 - rk b h (b 7) else if 70 + (b 7 - rk b h (b 7)) ≤ i ∧ i < 70 + b 7 then 0 else gbR b h (b 7) i
/-- an heir's number when another has left -/
def lss (h o : Nat) : Nat := if h < o then o - 1 else o
section GB
variable {A B : Nat → Nat → Nat} {b c : Nat → Nat} {p q h k g n m i j : Nat} {scr : List Int32}
theorem lft_mono : ∀ d, k - rk b h k ≤ (k + d) - rk b h (k + d)
  | 0 => Nat.le_refl _
  | d + 1 => by
    have := lft_mono d
    have h2 := rk_le (b := b) (h := h) (k + d)
    rw [← Nat.add_assoc, rk_succ]
    split <;> omega
theorem gbR_ok (h40 : b 6 + rk b h (b 7) ≤ 40) : ∀ K, K ≤ b 7 → gbR b h K 6 = b 6 + rk b h K ∧ (∀ i, i < 30 → i ≠ 6 → gbR b h K i = b i) ∧ (∀ g, K ≤ g → gbR b h K (70 + g) = b (70 + g)) ∧ (∀ j, j < b 6 → gbR b h K (30 + j) = b (30 + j)) ∧ (∀ g, g < K → own b g = h → gbR b h K (30 + (b 6 + rk b h g)) = cod b g) ∧ (∀ g, g < K → own b g ≠ h → gbR b h K (70 + (g - rk b h g)) = (if h < own b g then b (70 + g) - 100 else b (70 + g))) := by
  intro K
  induction K with
  | zero =>
    intro _
    refine ⟨rfl, fun _ _ _ => rfl, fun _ _ => rfl, fun _ _ => rfl, fun g hg => by omega, fun g hg => by omega⟩
  | succ K ih =>
    intro hK
    obtain ⟨f6, flo, fun', fho, fgi, fke⟩ := ih (by omega)
    have hm := rk_mono (b := b) (h := h) (n := K + 1) (b 7 - (K + 1))
    rw [show K + 1 + (b 7 - (K + 1)) = b 7 by omega] at hm
    have hs := rk_succ (b := b) (h := h) K
    have hle := rk_le (b := b) (h := h) K
    rw [gbR]
    by_cases e : own b K = h
    · rw [if_pos e, f6]
      rw [if_pos e] at hs
      refine ⟨by rw [ups_eq, hs]; omega, fun i h1 h2 => by rw [ups_ne h2, ups_ne (by omega)]; exact flo i h1 h2, fun g hg => by rw [ups_ne (by omega), ups_ne (by omega)]; exact fun' g (by omega), fun j hj => by rw [ups_ne (by omega), ups_ne (by omega)]; exact fho j hj, fun g hg hgo => ?_, fun g hg hgo => ?_⟩
      · rw [ups_ne (by omega)]
        by_cases e2 : g = K
        · subst e2; rw [ups_eq]
        · have := rk_lt (b := b) (g := g) (n := K) (by omega)
          rw [hgo] at this
          rw [ups_ne (by omega)]
          exact fgi g (by omega) hgo
      · have e2 : g ≠ K := fun q => hgo (by rw [q]; exact e)
        rw [ups_ne (by omega), ups_ne (by omega)]
        exact fke g (by omega) hgo
    · rw [if_neg e]
      rw [if_neg e] at hs
      refine ⟨by rw [ups_ne (by omega), hs, f6]; omega, fun i h1 h2 => by rw [ups_ne (by omega)]; exact flo i h1 h2, fun g hg => by rw [ups_ne (by omega)]; exact fun' g (by omega), fun j hj => by rw [ups_ne (by omega)]; exact fho j hj, fun g hg hgo => ?_, fun g hg hgo => ?_⟩
      · have e2 : g ≠ K := fun q => e (by rw [← q]; exact hgo)
        have h1 := rk_lt (b := b) (g := g) (n := K) (by omega)
        rw [hgo] at h1
        rw [ups_ne (by omega)]
        exact fgi g (by omega) hgo
      · by_cases e2 : g = K
        · subst e2; rw [ups_eq]
        · have hmo := lft_mono (b := b) (h := h) (k := g + 1) (K - (g + 1))
          rw [show g + 1 + (K - (g + 1)) = K by omega, rk_succ, if_neg hgo] at hmo
          have hgl := rk_le (b := b) (h := h) g
          rw [ups_ne (by omega)]
          exact fke g (by omega) hgo
theorem gb_own (ho : bOk b) (hg : g < b 7) (hne : own b g ≠ h) (x : Nat) (hx : x = if h < own b g then b (70 + g) - 100 else b (70 + g)) : x / 100 = lss h (own b g) ∧ x % 100 = cod b g := by
  have e := bO_g ho hg
  unfold lss
  rw [hx]
  by_cases c : h < own b g
  · rw [if_pos c, if_pos c]; omega
  · rw [if_neg c, if_neg c]; omega
theorem lss_inj {x y : Nat} (hx : x ≠ h) (hy : y ≠ h) : lss h x = lss h y ↔ x = y := by
  unfold lss
  constructor
  · intro e
    split at e <;> split at e <;> omega
  · intro e; rw [e]
/-- ranks stay -/
theorem gbR_rk (ho : bOk b) (h40 : b 6 + rk b h (b 7) ≤ 40) : ∀ K, K ≤ b 7 → ∀ k, k ≤ K → ∀ o, o ≠ h → rk (gbR b h K) (lss h o) (k - rk b h k) = rk b o k := by
  intro K
  induction K with
  | zero =>
    intro _ k hk o _
    obtain rfl : k = 0 := by omega
    rfl
  | succ K ih =>
    intro hK k hk o hoh
    have ih := ih (by omega)
    obtain ⟨f6, -⟩ := gbR_ok h40 K (by omega)
    have hs := rk_succ (b := b) (h := h) K
    have hle := rk_le (b := b) (h := h) K
    have hm := rk_mono (b := b) (h := h) (n := K + 1) (b 7 - (K + 1))
    rw [show K + 1 + (b 7 - (K + 1)) = b 7 by omega] at hm
    -- what is laid does not touch the places ahead
    have same : ∀ k, k ≤ K → rk (gbR b h (K + 1)) (lss h o) (k - rk b h k) = rk b o k := by
      intro k hk
      rw [← ih k hk o hoh]
      have hmo := lft_mono (b := b) (h := h) (k := k) (K - k)
      rw [show k + (K - k) = K by omega] at hmo
      refine rk_congr (fun g hg => ?_)
      unfold own
      rw [gbR]
      by_cases e : own b K = h
      · rw [if_pos e] at hs
        rw [if_pos e, f6, ups_ne (by omega), ups_ne (by omega)]
      · rw [if_neg e, ups_ne (by omega)]
    by_cases e1 : k = K + 1
    · subst e1
      rw [rk_succ (h := o)]
      by_cases e : own b K = h
      · rw [if_pos e] at hs
        rw [hs, show K + 1 - (rk b h K + 1) = K - rk b h K by omega, same K (Nat.le_refl _), if_neg (fun q => hoh (by rw [← q]; exact e))]; rfl
      · rw [if_neg e] at hs
        rw [hs, show K + 1 - (rk b h K + 0) = K - rk b h K + 1 by omega, rk_succ, same K (Nat.le_refl _)]
        have hke := (gbR_ok h40 (K + 1) hK).2.2.2.2.2 K (by omega) e
        have hown : own (gbR b h (K + 1)) (K - rk b h K) = lss h (own b K) := by
          unfold own
          exact (gb_own ho (by omega) e _ hke).1
        rw [hown]
        by_cases c : own b K = o
        · rw [if_pos c, if_pos (by rw [c])]
        · rw [if_neg c, if_neg (fun q => c ((lss_inj e hoh).mp q))]
    · exact same k (by omega)
theorem gb_surj : ∀ K, ∀ x, x < K - rk b h K → ∃ g, g < K ∧ own b g ≠ h ∧ g - rk b h g = x
  | 0, x, hx => by omega
  | K + 1, x, hx => by
    have hle := rk_le (b := b) (h := h) K
    rw [rk_succ] at hx
    by_cases c : x < K - rk b h K
    · obtain ⟨g, h1, h2⟩ := gb_surj K x c
      exact ⟨g, by omega, h2⟩
    · by_cases e : own b K = h
      · rw [if_pos e] at hx; omega
      · rw [if_neg e] at hx
        exact ⟨K, by omega, e, by omega⟩
end GB
