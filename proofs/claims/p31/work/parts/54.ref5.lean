/-! MarbleHeirsModel: the best swap -/
def sq (A : Nat → Nat → Nat) (c : Nat → Nat) : Nat → Nat → Nat := fun k i => if k = 76 then c i else A k i
def bst (b : Nat → Nat) (one h k : Nat) (c : Nat → Nat) : Nat → Nat := fun i => if i = 6 then k + 1 else if i = 5 then one + 1 else if i = 4 then gPl b one k - gMi b one k + 1 else if i = 3 then rk b (own b k) k + 1 else if i = 2 then h + 1 else if i = 1 then rk b (own b one) one + 1 else if i = 0 then own b one + 1 else c i
def tyR (b : Nat → Nat) (one h : Nat) (s : Nat × (Nat → Nat)) : Nat → Nat × (Nat → Nat)
  | 0 => s
  | k + 1 => if own b k = h ∧ (tyR b one h s k).1 < rtB b one k then (rtB b one k, bst b one h k (tyR b one h s k).2) else tyR b one h s k
def lyG (b : Nat → Nat) (one h : Nat) (s : Nat × (Nat → Nat)) : Nat → Nat × (Nat → Nat)
  | 0 => s
  | k + 1 => tyR b one (h + 1 + k) (lyG b one h s k) (b 7)
def lyO (b : Nat → Nat) (h : Nat) (s : Nat × (Nat → Nat)) : Nat → Nat × (Nat → Nat)
  | 0 => s
  | k + 1 => if own b k = h then lyG b k h (lyO b h s k) (b 0 - (h + 1)) else lyO b h s k
def lyH (b : Nat → Nat) (c : Nat → Nat) : Nat → Nat × (Nat → Nat)
  | 0 => (0, c)
  | h + 1 => lyO b h (lyH b c h) (b 7)
def lyB (b : Nat → Nat) (c : Nat → Nat) : Nat → Nat := if (lyH b c (b 0)).1 = 0 then fun i => if i < 7 then 0 else (lyH b c (b 0)).2 i else (lyH b c (b 0)).2
section RK
variable {A B : Nat → Nat → Nat} {b c : Nat → Nat} {h k g n one : Nat} {scr : List Int32}
theorem sq76 : sq A c 76 = c := rfl
theorem sq_sq {d : Nat → Nat} : sq (sq A c) d = sq A d := by
  funext k i
  unfold sq
  by_cases e : k = 76
  · rw [if_pos e, if_pos e]
  · rw [if_neg e, if_neg e, if_neg e]
theorem bz_succ (x : Nat) : bz (x + 1) = nI x := by
  unfold bz
  rw [if_neg (by omega)]; rfl
theorem rtB_le (b : Nat → Nat) (g k : Nat) : rtB b g k ≤ 29 := by
  have := gPl_le (b := b) (g := g) (k := k)
  unfold rtB
  split <;> omega
theorem rtB_pos (h : 0 < rtB b g k) : gMi b g k < gPl b g k ∧ vtB b g k = -6 ∧ rtB b g k = 10 * (gPl b g k - gMi b g k) + 9 - dif (cod b g % 10) (cod b k % 10) := by
  unfold rtB at h ⊢
  by_cases c : gPl b g k ≤ gMi b g k ∨ vtB b g k ≠ -6
  · rw [if_pos c] at h; omega
  · rw [if_neg c]
    refine ⟨Nat.not_le.mp fun q => c (Or.inl q), Decidable.not_not.mp fun q => c (Or.inr q), rfl⟩
theorem gBI_nI (h : gMi b g k < gPl b g k) : gBI b g k = nI (gPl b g k - gMi b g k) := by
  have c1 := one1_le (b (13 + 2 * own b g)) (cod b g / 10)
  have c2 := one1_le (b (13 + 2 * own b k)) (cod b k / 10)
  have hb : (gBI b g k < nI 1 ↔ gPl b g k ≤ gMi b g k) ∧ (gMi b g k ≤ gPl b g k → gBI b g k = nI (gPl b g k - gMi b g k)) := bits6 (gPl b g k) (by have := gPl_le (b := b) (g := g) (k := k); omega) (one1 (b (13 + 2 * own b g)) (cod b g / 10)) (by omega) (one1 (b (13 + 2 * own b k)) (cod b k / 10)) (by omega)
  exact hb.2 (by omega)
theorem tyR_lt {s : Nat × (Nat → Nat)} (hs : s.1 < 100) : ∀ k, (tyR b one h s k).1 < 100
  | 0 => hs
  | k + 1 => by
    rw [tyR]
    have := rtB_le b one k
    have := tyR_lt hs k
    split
    · show rtB _ _ _ < 100
      omega
    · assumption
theorem lyG_lt {s : Nat × (Nat → Nat)} (hs : s.1 < 100) : ∀ k, (lyG b one h s k).1 < 100
  | 0 => hs
  | k + 1 => tyR_lt (lyG_lt hs k) _
theorem lyO_lt {s : Nat × (Nat → Nat)} (hs : s.1 < 100) : ∀ k, (lyO b h s k).1 < 100
  | 0 => hs
  | k + 1 => by
    rw [lyO]
    split
    · exact lyG_lt (lyO_lt hs k) _
    · exact lyO_lt hs k
theorem lyH_lt : ∀ k, (lyH b c k).1 < 100
  | 0 => by show 0 < 100; omega
  | k + 1 => lyO_lt (lyH_lt k) _
end RK
