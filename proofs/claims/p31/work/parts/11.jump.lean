/-! one instruction that stays in its method -/
/-- where the script stands -/
def zScr (scr : List Int32) (b0 b : Nat) (s : State) : Prop := ∃ xs : Nat → Int32, va_X b scr.length xs s s.heap ∧ b < b0 ∧ ∀ j x, scr[j]? = some x → xs j = x
def zFrm (b0 b : Nat) (D : va_G) (cI cS : Nat) (r : zRec) (p : Program) (s : State) (m : MethodId) (args : Array Value) (meth : Method) (c : Code) : Prop :=
  p.tables.exec = Jvm.exec ∧ c.code = r.2.1 ∧ c.maxLocals = r.2.2.1 ∧ s.vm.findClass (zcn r.2.2.2.2.2.1) = some m.cls ∧ (∀ w ∈ zGW, w.before args s = true) ∧ (va_K D zcl [(cI, .int), (cS, .object RX3)] s ∧ va_AO RX3 s ∧ ∀ w ∈ zNW, va_Nw w s) ∧ (r.1.name = "<init>" → meth.name = "<init>")
section ZJ
variable {p : Program} {l : Launch} {e : Env} {R : Room} {s : State} {m : MethodId} {args : Array Value} {below : List Frame} {meth : Method} {c : Code} {H : Heap} {locs : List Loc} {cells slots : Nat} {Q : State → Prop}
theorem z_sz {g : JFrame} (k : H.size ≤ s.heap.size + cells → W p l e R s m args below meth c H locs cells slots Q g) : W p l e R s m args below meth c H locs cells slots Q g := by
  intro T hT X
  refine k ?_ T hT X
  have h := X.same.2.2.1
  rw [← hT]
  exact h
variable {b0 b L0 S0 cI cS : Nat} {D : va_G} {r : zRec} {w : zAW}
/-- the heap is just so large -/
theorem z_size (hb0 : b0 + L0 = s.heap.size) (hL0 : L0 ≤ w.length) (hP : va_P D zcl (zW b0 b cI cS w) H) (hS : va_S (fun q => b0 ≤ q) s.heap H locs) (h : H.size ≤ s.heap.size + (w.length - L0)) : H.size = b0 + w.length := by
  have h1 : b0 + w.length ≤ H.size := by
    by_cases hz : w.length = 0
    · have := hS.1
      omega
    · have hlt : w.length - 1 < w.length := by omega
      have := (hP _ _ (zW_get (List.getElem?_eq_getElem hlt))).lt
      dsimp only at this
      omega
  omega
variable {scr : List Int32} {mi pc pc' : Nat} {ls ls' : zLs} {st st' : List Value} {w' : zAW} {d : Instr × Nat} {lsA : Array Slot}
theorem z_new_at {H1 : Heap} {q : Nat} {x : va_E} (hb0 : b0 + L0 = s.heap.size) (hL0 : L0 ≤ w.length) (hP : va_P D zcl (zW b0 b cI cS w ++ [(q, x)]) H1) (hD : va_D (fun q => b0 ≤ q) (zW b0 b cI cS w ++ [(q, x)])) (h : H1.size ≤ s.heap.size + (w.length - L0 + 1)) : q = b0 + w.length := by
  have hlen : (zW b0 b cI cS w).length = w.length := by simp [zW]
  have e1 : (zW b0 b cI cS w ++ [(q, x)])[w.length]? = some (q, x) := by
    rw [List.getElem?_append_right (by omega), hlen, Nat.sub_self]; rfl
  have h1 := (hP _ _ e1).lt
  have h2 : b0 ≤ q := hD.2 _ _ e1
  dsimp only at h1
  by_cases hq : q < b0 + w.length
  · have hlt : q - b0 < w.length := by omega
    have e2 : (zW b0 b cI cS w ++ [(q, x)])[q - b0]? = some (b0 + (q - b0), zE b0 b cI cS (w[q - b0])) := by
      rw [List.getElem?_append_left (by omega)]
      exact zW_get (List.getElem?_eq_getElem hlt)
    have := hD.1 _ _ _ _ e1 e2 (by show q = b0 + (q - b0); omega)
    omega
  · omega
theorem zgf_some {a ci k : Nat} {v : Value} (h : zgf w a ci k = some v) : ∃ fs, w[a]? = some (.inr (.inr (ci, fs))) ∧ fs[k]? = some v := by
  unfold zgf at h
  split at h
  · rename_i c fs hw
    split at h
    · rename_i hc
      subst hc
      exact ⟨fs, hw, h⟩
    · cases h
  · cases h
theorem zpf_some {a ci k : Nat} {v : Value} (h : zpf w a ci k v = some w') : ∃ fs, w[a]? = some (.inr (.inr (ci, fs))) ∧ k < fs.length ∧ w' = w.set a (.inr (.inr (ci, fs.set k v))) := by
  unfold zpf at h
  split at h
  · rename_i c fs hw
    split at h
    · rename_i hc
      obtain ⟨rfl, hk⟩ := hc
      exact ⟨fs, hw, hk, (Option.some.inj h).symm⟩
    · cases h
  · cases h
theorem zal_some {a : Nat} {i x : Int32} (h : zal w a i = some x) : ∃ f, w[a]? = some (.inl f) ∧ ¬ i < 0 ∧ f[i.toNatClampNeg]? = some x := by
  unfold zal at h
  split at h
  · rename_i f hw
    split at h
    · cases h
    · rename_i hi
      exact ⟨f, hw, hi, h⟩
  · cases h
theorem zas_some {a : Nat} {i x : Int32} (h : zas w a i x = some w') : ∃ f, w[a]? = some (.inl f) ∧ ¬ i < 0 ∧ i.toNatClampNeg < f.length ∧ w' = w.set a (.inl (f.set i.toNatClampNeg x)) := by
  unfold zas at h
  split at h
  · rename_i f hw
    split at h
    · cases h
    · rename_i hi
      simp only [not_or, Nat.not_le] at hi
      exact ⟨f, hw, hi.1, hi.2, (Option.some.inj h).symm⟩
  · cases h
theorem zql_some {a x : Nat} {i : Int32} (h : zql w a i = some x) : ∃ f, w[a]? = some (.inr (.inl f)) ∧ ¬ i < 0 ∧ f[i.toNatClampNeg]? = some (some x) := by
  unfold zql at h
  split at h
  · rename_i f hw
    split at h
    · cases h
    · rename_i hi
      split at h
      · rename_i y hy
        cases h
        exact ⟨f, hw, hi, hy⟩
      · cases h
  · cases h
theorem zqs_some {a x : Nat} {i : Int32} (h : zqs w a i x = some w') : ∃ f fs, w[a]? = some (.inr (.inl f)) ∧ ¬ i < 0 ∧ i.toNatClampNeg < f.length ∧ w[x]? = some (.inr (.inr (3, fs))) ∧ w' = w.set a (.inr (.inl (f.set i.toNatClampNeg (some x)))) := by
  unfold zqs at h
  split at h
  · rename_i f hw
    split at h
    · cases h
    · rename_i hi
      simp only [not_or, Nat.not_le] at hi
      split at h
      · rename_i fs hx
        exact ⟨f, fs, hw, hi.1, hi.2, hx, (Option.some.inj h).symm⟩
      · cases h
  · cases h
theorem zcp_some {a0 a1 : Nat} {sp dp n : Int32} (h : zcp w a0 sp a1 dp n = some w') : ∃ l0 l1, w[a0]? = some (.inl l0) ∧ w[a1]? = some (.inl l1) ∧ ¬ sp < 0 ∧ ¬ dp < 0 ∧ ¬ n < 0 ∧ sp.toNatClampNeg + n.toNatClampNeg ≤ l0.length ∧ dp.toNatClampNeg + n.toNatClampNeg ≤ l1.length ∧ w' = w.set a1 (.inl (zcpl l0 l1 sp.toNatClampNeg dp.toNatClampNeg n.toNatClampNeg)) := by
  unfold zcp at h
  split at h
  · rename_i l0 l1 h0 h1
    split at h
    · cases h
    · rename_i hi
      simp only [not_or, Nat.not_lt] at hi
      exact ⟨l0, l1, h0, h1, hi.1, hi.2.1, hi.2.2.1, hi.2.2.2.1, hi.2.2.2.2, (Option.some.inj h).symm⟩
  · cases h
theorem zjmp_some {off : Int} {nx : zNx} (h : zjmp pc off ls st w = some nx) : ∃ t : Nat, (pc : Int) + off = (t : Int) ∧ nx = .inl (t, ls, st, w) := by
  unfold zjmp at h
  split at h
  · rename_i h0
    exact ⟨((pc : Int) + off).toNat, (Int.toNat_of_nonneg h0).symm, (Option.some.inj h).symm⟩
  · cases h
theorem zcallV_some {mj : Nat} {nx : zNx} (h : zcallV r mj ls st w = some nx) : ∃ (rj : zRec) (a : Nat) (rest : List Value) (fs : List Value), zMs[mj]? = some rj ∧ st.drop rj.2.2.2.2.2.2.2 = .ref a :: rest ∧ rj.2.2.2.2.2.2.1 + 1 ≤ r.2.2.2.2.2.2.1 ∧ rest.length ≤ 8 ∧ mj < 95 ∧ rj.2.2.2.2.2.2.2 + 1 ≤ rj.2.2.1 ∧ w[a]? = some (.inr (.inr (rj.2.2.2.2.2.1, fs))) ∧ nx = .inr (.inl (mj, .ref a :: (st.take rj.2.2.2.2.2.2.2).reverse, ls, rest)) := by
  unfold zcallV at h
  split at h
  · rename_i rj hm
    split at h
    · rename_i a rest hd
      split at h
      · rename_i hc
        split at h
        · rename_i c fs hw
          split at h
          · rename_i hcc
            subst hcc
            exact ⟨rj, a, rest, fs, hm, hd, hc.1, hc.2.1, hc.2.2.1, hc.2.2.2, hw, (Option.some.inj h).symm⟩
          · cases h
        · cases h
      · cases h
    · cases h
  · cases h
theorem zcallS_some {mj : Nat} {nx : zNx} (h : zcallS mi r mj ls st = some nx) : ∃ (rj : zRec), zMs[mj]? = some rj ∧ rj.2.2.2.2.2.2.1 + 1 ≤ r.2.2.2.2.2.2.1 ∧ st.length ≤ 8 + rj.2.2.2.2.2.2.2 ∧ rj.2.2.2.2.2.2.2 ≤ st.length ∧ (mj < 95 ∨ (mj = 95 ∧ mi = 96)) ∧ rj.2.2.2.2.2.2.2 ≤ rj.2.2.1 ∧ nx = .inr (.inl (mj, (st.take rj.2.2.2.2.2.2.2).reverse, ls, st.drop rj.2.2.2.2.2.2.2)) := by
  unfold zcallS at h
  split at h
  · rename_i rj hm
    split at h
    · rename_i hc
      exact ⟨rj, hm, hc.1, hc.2.1, hc.2.2.1, hc.2.2.2.1, hc.2.2.2.2, (Option.some.inj h).symm⟩
    · cases h
  · cases h
/-- what an instruction that stays in its method asks of the walk behind it -/
def zNext (p : Program) (l : Launch) (e : Env) (R : Room) (s : State) (m : MethodId) (args : Array Value) (below : List Frame) (meth : Method) (c : Code) (Q : State → Prop) (b0 b cI cS : Nat) (D : va_G) (L0 S0 nL : Nat) (pc : Nat) (ls : zLs) (st : List Value) (w : zAW) : Prop :=
  ∀ (H : Heap) (locs : List Loc) (lsA : Array Slot), va_P D zcl (zW b0 b cI cS w) H → va_S (fun q => b0 ≤ q) s.heap H locs → lv_has lsA nL (zlv b0 b ls) → ls.length = nL →
    W p l e R s m args below meth c H locs (w.length - L0) (zsz w - S0) Q (F0 m pc lsA (st.map (zcv b0 b)))
theorem zI_mono (h : zI scr mi r pc ls st w d = some (.inl (pc', ls', st', w'))) : w.length ≤ w'.length ∧ zsz w ≤ zsz w' := by
  have key : ∀ {nx : zNx}, zI scr mi r pc ls st w d = some nx → ∀ q, nx = .inl q → w.length ≤ q.2.2.2.length ∧ zsz w ≤ zsz q.2.2.2 := by
    intro nx h q hq
    unfold zI at h
    repeat' split at h
    all_goals first
      | (cases h; cases hq; exact ⟨Nat.le_refl _, Nat.le_refl _⟩)
      | (cases h; done)
      | (unfold zbr at h; split at h <;> first | (split at h <;> first | (cases h; done) | (cases h; cases hq; exact ⟨Nat.le_refl _, Nat.le_refl _⟩)) | (obtain ⟨t, -, rfl⟩ := zjmp_some h; cases hq; exact ⟨Nat.le_refl _, Nat.le_refl _⟩))
      | (obtain ⟨t, -, rfl⟩ := zjmp_some h; cases hq; exact ⟨Nat.le_refl _, Nat.le_refl _⟩)
      | (obtain ⟨rj, a, rest, fs, -, -, -, -, -, -, -, rfl⟩ := zcallV_some h; cases hq)
      | (obtain ⟨rj, -, -, -, -, -, -, rfl⟩ := zcallS_some h; cases hq)
      | skip
    all_goals cases h; cases hq
    · rename_i hp
      obtain ⟨fs, h1, h2, rfl⟩ := zpf_some hp
      exact ⟨by simp, Nat.le_of_eq (zsz_set h1 (by simp [zc1s])).symm⟩
    · rename_i hp
      obtain ⟨f, h1, h2, h3, rfl⟩ := zas_some hp
      exact ⟨by simp, Nat.le_of_eq (zsz_set h1 (by simp [zc1s])).symm⟩
    · rename_i hp
      obtain ⟨f, fs, h1, h2, h3, h4, rfl⟩ := zqs_some hp
      exact ⟨by simp, Nat.le_of_eq (zsz_set h1 (by simp [zc1s])).symm⟩
    · exact ⟨by simp, by dsimp only; rw [zsz_app]; omega⟩
    · exact ⟨by simp, by dsimp only; rw [zsz_app]; omega⟩
    · exact ⟨by simp, by dsimp only; rw [zsz_app]; omega⟩
    · rename_i hp
      obtain ⟨l0, l1, h0, h1, -, -, -, h5, h6, rfl⟩ := zcp_some hp
      exact ⟨by simp, Nat.le_of_eq (zsz_set h1 (by simp [zc1s, zcpl_len h5 h6])).symm⟩
  exact key h _ rfl
end ZJ
