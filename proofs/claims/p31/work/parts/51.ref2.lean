/-! MarbleHeirsModel: sums, spread, gives, poorest -/
/-- the reference's row laid anew -/
def sb (A : Nat → Nat → Nat) (b : Nat → Nat) : Nat → Nat → Nat := fun c i => if c = 71 then b i else A c i
def ups (b : Nat → Nat) (i x : Nat) : Nat → Nat := fun j => if j = i then x else b j
/-- the first marble of the hopper given -/
def gvB (b : Nat → Nat) (h : Nat) : Nat → Nat := fun i => if i = 70 + b 7 then 100 * h + b 30 else if i = 7 then b 7 + 1 else if i = 6 then b 6 - 1 else if 30 ≤ i ∧ i < 30 + (b 6 - 1) then b (i + 1) else if i = 30 + (b 6 - 1) then 0 else b i
def wsh (b : Nat → Nat) (n : Nat) : Nat := zsum (fun g => if b (13 + 2 * own b g) = cod b g / 10 then 1 else 0) 0 n
def sprB (b : Nat → Nat) (f : Nat → Nat) : Nat := if b 0 = 0 then 0 else zmax f (b 0 - 1) - zmin f (b 0 - 1)
def wrt (b : Nat → Nat) (h : Nat) : Nat := rsm b (fun c => c % 10) h (b 7)
/-- the poorest heir but those of a set, of the last d places -/
def po (b : Nat → Nat) (s : Nat) : Nat → Option Nat
  | 0 => none
  | d + 1 => if s / 2 ^ b (24 + (b 0 - 1 - d)) % 2 = 0 ∧ (po b s d = none ∨ wrt b (b (24 + (b 0 - 1 - d))) ≤ wrt b ((po b s d).getD 0)) then some (b (24 + (b 0 - 1 - d))) else po b s d
def enc : Option Nat → Int32
  | none => -6
  | some h => nI h
theorem zloopW {scr : List Int32} {mi pc : Nat} {st : List Value} {L : Nat → zLs} {W : Nat → zAW} {w0 : zAW} (N : Nat) (h0 : w0 = W 0) (h : ∀ k, k < N → zd scr mi pc (L k) st (W k) = zd scr mi pc (L (k + 1)) st (W (k + 1))) : zd scr mi pc (L 0) st w0 = zd scr mi pc (L N) st (W N) := by
  rw [h0]; exact zloop N h
section RG
variable {A B : Nat → Nat → Nat} {b c : Nat → Nat} {h k g n : Nat} {scr : List Int32}
theorem sb71 : sb A b 71 = b := rfl
theorem sb_sb : sb (sb A b) c = sb A c := by
  funext k i
  unfold sb
  by_cases e : k = 71
  · rw [if_pos e, if_pos e]
  · rw [if_neg e, if_neg e, if_neg e]
theorem sb_off {i : Nat} (hk : k ≠ 71) : sb A b k i = A k i := if_neg hk
/-- one of both measures -/
def msr (b : Nat → Nat) (w h : Nat) : Nat := if w = 0 then rk b h (b 7) else wrt b h
theorem rsm_le {f : Nat → Nat} {M : Nat} (hf : ∀ g, g < n → f (cod b g) ≤ M) : rsm b f h n ≤ n * M := by
  induction n with
  | zero => exact Nat.zero_le _
  | succ n ih =>
    rw [rsm_succ, Nat.succ_mul]
    have := ih (fun g hg => hf g (by omega))
    have := hf n (by omega)
    split <;> omega
theorem wrt_le (ho : bOk b) : wrt b h ≤ 1080 := by
  have h7 := bO_7 ho
  have := rsm_le (b := b) (h := h) (n := b 7) (f := fun c => c % 10) (M := 9) (fun g _ => by show cod b g % 10 ≤ 9; omega)
  unfold wrt
  omega
theorem msr_le (ho : bOk b) (w : Nat) : msr b w h ≤ 1080 := by
  unfold msr
  have h7 := bO_7 ho
  split
  · have := rk_le (b := b) (h := h) (b 7)
    omega
  · exact wrt_le ho
theorem enc_none {o : Option Nat} (hb : ∀ h, o = some h → h < 6) : enc o = -6 ↔ o = none := by
  cases o with
  | none => exact ⟨fun _ => rfl, fun _ => rfl⟩
  | some x => exact ⟨fun q => absurd q (nI_ne6 (by have := hb x rfl; omega)), fun q => by cases q⟩
theorem po_lt (ho : bOk b) (s : Nat) : ∀ d, d ≤ b 0 → ∀ h, po b s d = some h → h < b 0 := by
  intro d
  induction d with
  | zero => intro _ h e; cases e
  | succ d ih =>
    intro hd h e
    unfold po at e
    split at e
    · cases e
      exact (ho.2.2.2.2.2.2.1 _ (by omega)).2.2
    · exact ih (by omega) h e
end RG
