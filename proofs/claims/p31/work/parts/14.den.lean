/-! what a run comes to, without its length -/
theorem zx_up {scr : List Int32} : ∀ (n : Nat) {mi pc : Nat} {ls : zLs} {st : List Value} {w : zAW} {a : zRs}, zx scr n mi pc ls st w = some a → ∀ k, zx scr (n + k) mi pc ls st w = some a
  | 0, _, _, _, _, _, _, h => by cases h
  | n + 1, mi, pc, ls, st, w, a, h => by
    intro k
    rw [show n + 1 + k = (n + k) + 1 by omega]
    unfold zx at h ⊢
    split at h
    · cases h
    · split at h
      · cases h
      · rename_i d hd
        try rw [hd]
        try dsimp only
        split at h
        · cases h
        · rename_i q hq
          try rw [hq]
          exact zx_up n h k
        · rename_i q hq
          try rw [hq]
          try dsimp only
          split at h
          · cases h
          · rename_i rj hrj
            split at h
            · cases h
            · rename_i a1 ha
              rw [zx_up n ha k]
              exact zx_up n h k
        · rename_i rv hq
          try rw [hq]
          exact h
theorem zx_det {scr : List Int32} {n k mi pc : Nat} {ls : zLs} {st : List Value} {w : zAW} {a b : zRs} (h1 : zx scr n mi pc ls st w = some a) (h2 : zx scr k mi pc ls st w = some b) : a = b := by
  have e1 := zx_up n h1 k
  have e2 := zx_up k h2 n
  rw [show k + n = n + k by omega, e1] at e2
  exact Option.some.inj e2
/-- the run from here ends, with this answer and this heap -/
def zE1 (scr : List Int32) (mi pc : Nat) (ls : zLs) (st : List Value) (w : zAW) (a : zRs) : Prop := ∃ n, zx scr n mi pc ls st w = some a
noncomputable def zd (scr : List Int32) (mi pc : Nat) (ls : zLs) (st : List Value) (w : zAW) : Option zRs :=
  @dite _ (∃ a, zE1 scr mi pc ls st w a) (Classical.propDecidable _) (fun h => some (Classical.choose h)) (fun _ => none)
theorem zd_iff {scr : List Int32} {mi pc : Nat} {ls : zLs} {st : List Value} {w : zAW} {a : zRs} : zd scr mi pc ls st w = some a ↔ zE1 scr mi pc ls st w a := by
  unfold zd
  constructor
  · intro h
    split at h
    · rename_i hx
      rw [← Option.some.inj h]
      exact Classical.choose_spec hx
    · cases h
  · intro h
    rw [dif_pos ⟨a, h⟩]
    have h2 := Classical.choose_spec (⟨a, h⟩ : ∃ a, zE1 scr mi pc ls st w a)
    obtain ⟨n, hn⟩ := h
    obtain ⟨k, hk⟩ := h2
    exact congrArg some (zx_det hk hn)
theorem zd_ext {scr : List Int32} {mi pc mi' pc' : Nat} {ls ls' : zLs} {st st' : List Value} {w w' : zAW} (h : ∀ a, zE1 scr mi pc ls st w a ↔ zE1 scr mi' pc' ls' st' w' a) : zd scr mi pc ls st w = zd scr mi' pc' ls' st' w' := by
  apply Option.ext
  intro a
  rw [zd_iff, zd_iff]
  exact h a
/-- a method from its start -/
noncomputable def zC (scr : List Int32) (mj : Nat) (as : List Value) (w : zAW) : Option zRs := match zMs[mj]? with
  | none => none
  | some rj => zd scr mj 0 (zent rj as) [] w
/-- one instruction -/
theorem zd_step {scr : List Int32} {mi pc : Nat} {ls : zLs} {st : List Value} {w : zAW} {r : zRec} {d : Instr × Nat} {q : Nat × zLs × List Value × zAW} (hr : zMs[mi]? = some r) (hd : zfind r.2.2.2.2.1 pc = some d) (h : zI scr mi r pc ls st w d = some (.inl q)) : zd scr mi pc ls st w = zd scr mi q.1 q.2.1 q.2.2.1 q.2.2.2 := by
  refine zd_ext fun a => ⟨fun ⟨n, hn⟩ => ?_, fun ⟨n, hn⟩ => ⟨n + 1, ?_⟩⟩
  · cases n with
    | zero => cases hn
    | succ n =>
      unfold zx at hn
      rw [hr] at hn
      dsimp only at hn
      rw [hd] at hn
      dsimp only at hn
      rw [h] at hn
      exact ⟨n, hn⟩
  · unfold zx
    rw [hr]
    dsimp only
    rw [hd]
    dsimp only
    rw [h]
    exact hn
theorem zd_ret {scr : List Int32} {mi pc : Nat} {ls : zLs} {st : List Value} {w : zAW} {r : zRec} {d : Instr × Nat} {rv : Option Value} (hr : zMs[mi]? = some r) (hd : zfind r.2.2.2.2.1 pc = some d) (h : zI scr mi r pc ls st w d = some (.inr (.inr rv))) : zd scr mi pc ls st w = some (rv, w) := by
  refine zd_iff.mpr ⟨1, ?_⟩
  unfold zx
  rw [hr]
  dsimp only
  rw [hd]
  dsimp only
  rw [h]
theorem zd_call {scr : List Int32} {mi pc : Nat} {ls : zLs} {st : List Value} {w : zAW} {r : zRec} {d : Instr × Nat} {q : Nat × List Value × zLs × List Value} {rv : Option Value} {w1 : zAW} (hr : zMs[mi]? = some r) (hd : zfind r.2.2.2.2.1 pc = some d) (h : zI scr mi r pc ls st w d = some (.inr (.inl q))) (hc : zC scr q.1 q.2.1 w = some (rv, w1)) : zd scr mi pc ls st w = zd scr mi (pc + 3) q.2.2.1 (rv.toList ++ q.2.2.2) w1 := by
  unfold zC at hc
  split at hc
  · cases hc
  · rename_i rj hrj
    obtain ⟨k, hk⟩ := zd_iff.mp hc
    refine zd_ext fun a => ⟨fun ⟨n, hn⟩ => ?_, fun ⟨n, hn⟩ => ⟨k + n + 1, ?_⟩⟩
    · cases n with
      | zero => cases hn
      | succ n =>
        unfold zx at hn
        rw [hr] at hn
        dsimp only at hn
        rw [hd] at hn
        dsimp only at hn
        rw [h] at hn
        dsimp only at hn
        rw [hrj] at hn
        dsimp only at hn
        split at hn
        · cases hn
        · rename_i a1 ha
          cases zx_det hk ha
          exact ⟨n, hn⟩
    · unfold zx
      rw [hr]
      dsimp only
      rw [hd]
      dsimp only
      rw [h]
      dsimp only
      rw [hrj]
      dsimp only
      rw [zx_up k hk n]
      dsimp only
      rw [show k + n = n + k by omega]
      exact zx_up n hn k
theorem zC_of {scr : List Int32} {mj : Nat} {as : List Value} {w : zAW} {rj : zRec} (h : zMs[mj]? = some rj) : zC scr mj as w = zd scr mj 0 (zent rj as) [] w := by unfold zC; rw [h]
