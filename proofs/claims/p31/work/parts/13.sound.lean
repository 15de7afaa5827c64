/-! a run of ours is a run of the machine -/
theorem zx_mono {scr : List Int32} : ∀ (n : Nat) {mi pc : Nat} {ls : zLs} {st : List Value} {w : zAW} {rv : Option Value} {w' : zAW}, zx scr n mi pc ls st w = some (rv, w') → w.length ≤ w'.length ∧ zsz w ≤ zsz w'
  | 0, _, _, _, _, _, _, _, h => by cases h
  | n + 1, mi, pc, ls, st, w, rv, w', h => by
    unfold zx at h
    split at h
    · cases h
    · split at h
      · cases h
      · split at h
        · cases h
        · rename_i q hq
          have h1 := zI_mono hq
          have h2 := zx_mono n h
          exact ⟨Nat.le_trans h1.1 h2.1, Nat.le_trans h1.2 h2.2⟩
        · split at h
          · cases h
          · split at h
            · cases h
            · rename_i a ha
              obtain ⟨rv1, w1⟩ := a
              have h1 := zx_mono n ha
              have h2 := zx_mono n h
              exact ⟨Nat.le_trans h1.1 h2.1, Nat.le_trans h1.2 h2.2⟩
        · cases h
          exact ⟨Nat.le_refl _, Nat.le_refl _⟩
def zws (r : zRec) : List Cond := Cond.code r.1 r.2.1 r.2.2.1 r.2.2.2.1 :: zGW
theorem zGW_good : ∀ w ∈ zGW, (w.onTables && w.keeps) = true ∨ ∃ ty, w = .arrayClass ty := fun w h => good_of_word (List.mem_filter.mp h).2
theorem zws_good {r : zRec} (h : zmOk r) : GoodIn zGW (zws r) := by
  intro w hw
  rcases List.mem_cons.mp hw with rfl | hw
  · exact ⟨h.2.1, zGW_good _ h.2.1⟩
  · exact ⟨hw, zGW_good _ hw⟩
def zrm (r : zRec) (mc ms : Nat) : Room := { frames := r.2.2.2.2.2.2.1, cells := mc, slots := ms, locals := 37 * r.2.2.2.2.2.2.1 }
def zPc (scr : List Int32) (mj : Nat) (b0 b cI cS : Nat) (D : va_G) (as : List Value) (w : zAW) : Array Value → State → Prop := va_Pc (as.map (zcv b0 b)) (fun U => (94 < mj → zScr scr b0 b U) ∧ U.heap.size = b0 + w.length ∧ va_P D zcl (zW b0 b cI cS w) U.heap ∧ (va_K D zcl [(cI, .int), (cS, .object RX3)] U ∧ va_AO RX3 U ∧ ∀ x ∈ zNW, va_Nw x U))
def zQc (b0 b cI cS : Nat) (D : va_G) (rv : Option Value) (w' : zAW) : Array Value → State → Outcome → State → Prop := fun _ st oc t => oc = .returned (rv.map (zcv b0 b)) ∧ va_P D zcl (zW b0 b cI cS w') t.heap ∧ va_F (fun q => b0 ≤ q) st t
theorem zNW_warm {s U : State} (hW : s.WarmedH U.vm) (h : ∀ x ∈ zNW, va_Nw x s) : ∀ x ∈ zNW, va_Nw x U := by
  intro x hx
  have h1 := h x hx
  unfold zNW at hx
  simp only [List.mem_cons, List.not_mem_nil, or_false] at hx
  rcases hx with rfl | rfl | rfl | rfl | rfl <;> exact va_Nw.warmM hW h1
theorem zNW_same {s U : State} (e : s.vm = U.vm) (h : ∀ x ∈ zNW, va_Nw x s) : ∀ x ∈ zNW, va_Nw x U := by
  intro x hx
  have h1 := h x hx
  unfold zNW at hx
  simp only [List.mem_cons, List.not_mem_nil, or_false] at hx
  rcases hx with rfl | rfl | rfl | rfl | rfl <;> exact va_Nw.same rfl e h1
theorem zI_call {scr : List Int32} {mi pc : Nat} {r : zRec} {ls : zLs} {st : List Value} {w : zAW} {d : Instr × Nat} {q : Nat × List Value × zLs × List Value} (h : zI scr mi r pc ls st w d = some (.inr (.inl q))) :
    (∃ i mj, d = (.invokevirtual i, 3) ∧ zfind2 zCt r.2.2.2.2.2.1 i = some (0, mj) ∧ zcallV r mj ls st w = some (.inr (.inl q))) ∨
    (∃ i mj k, d = (.invokespecial i, 3) ∧ (k = 2 ∨ k = 3) ∧ zfind2 zCt r.2.2.2.2.2.1 i = some (k, mj) ∧ zcallV r mj ls st w = some (.inr (.inl q))) ∨
    (∃ i mj k, d = (.invokestatic i, 3) ∧ (k = 1 ∨ k = 4) ∧ zfind2 zCt r.2.2.2.2.2.1 i = some (k, mj) ∧ zcallS mi r mj ls st = some (.inr (.inl q))) := by
  unfold zI at h
  repeat' split at h
  all_goals first
    | (cases h; done)
    | (exfalso; unfold zbr at h; repeat' split at h
       all_goals first | (cases h; done) | (obtain ⟨t, -, e1⟩ := zjmp_some h; cases e1))
    | (exfalso; obtain ⟨t, -, e1⟩ := zjmp_some h; cases e1)
    | (rename_i hq; exact Or.inl ⟨_, _, rfl, hq, h⟩)
    | (rename_i hq; exact Or.inr (Or.inl ⟨_, _, _, rfl, by first | exact Or.inl rfl | exact Or.inr rfl, hq, h⟩))
    | (rename_i hq; exact Or.inr (Or.inr ⟨_, _, _, rfl, by first | exact Or.inl rfl | exact Or.inr rfl, hq, h⟩))
theorem zI_ret {scr : List Int32} {mi pc : Nat} {r : zRec} {ls : zLs} {st : List Value} {w : zAW} {d : Instr × Nat} {rv : Option Value} (h : zI scr mi r pc ls st w d = some (.inr (.inr rv))) :
    (∃ x : Int32, rv = some (.int x) ∧ st = [.int x] ∧ zrok r.2.2.2.1 x = true ∧ d = (.ireturn, 1)) ∨ (rv = none ∧ st = [] ∧ r.2.2.2.1 = none ∧ d = (.return_, 1)) := by
  unfold zI at h
  repeat' split at h
  all_goals first
    | (cases h; done)
    | (exfalso; unfold zbr at h; repeat' split at h
       all_goals first | (cases h; done) | (obtain ⟨t, -, e1⟩ := zjmp_some h; cases e1))
    | (exfalso; obtain ⟨t, -, e1⟩ := zjmp_some h; cases e1)
    | (exfalso; obtain ⟨rj, a, rest, fs, -, -, -, -, -, -, -, e1⟩ := zcallV_some h; cases e1)
    | (exfalso; obtain ⟨rj, -, -, -, -, -, -, e1⟩ := zcallS_some h; cases e1)
    | (cases h; rename_i hx; exact Or.inl ⟨_, rfl, rfl, hx, rfl⟩)
    | (cases h; rename_i hx; exact Or.inr ⟨rfl, rfl, hx, rfl⟩)
section ZS
variable {p : Program} {l : Launch} {e : Env} {R : Room} {s : State} {m : MethodId} {args : Array Value} {below : List Frame} {meth : Method} {c : Code} {Q : State → Prop}
variable {b0 b L0 S0 cI cS : Nat} {D : va_G} {scr : List Int32}
/-- what the last instruction asks -/
def zRet (p : Program) (l : Launch) (e : Env) (R : Room) (s : State) (m : MethodId) (args : Array Value) (below : List Frame) (meth : Method) (c : Code) (Q : State → Prop) (b0 b cI cS : Nat) (D : va_G) (L0 S0 : Nat) (r : zRec) (rv : Option Value) (w : zAW) : Prop :=
  ∀ (H : Heap) (locs : List Loc) (pc : Nat) (lsA : Array Slot), va_P D zcl (zW b0 b cI cS w) H → va_S (fun q => b0 ≤ q) s.heap H locs →
    ((∃ x : Int32, rv = some (.int x) ∧ zrok r.2.2.2.1 x = true ∧ decode r.2.1 pc = .ok (.ireturn, 1)) ∨ (rv = none ∧ r.2.2.2.1 = none ∧ decode r.2.1 pc = .ok (.return_, 1))) →
    W p l e R s m args below meth c H locs (w.length - L0) (zsz w - S0) Q (F0 m pc lsA ((rv.toList).map (zcv b0 b)))
theorem zScr_go {scr : List Int32} {L0 : Nat} {H : Heap} {locs : List Loc} {U : State} (hS : va_S (fun q => b0 ≤ q) s.heap H locs) (hb0 : b0 + L0 = s.heap.size) (hA : s.vm.Alike U.vm) (hU : U.heap = H) (h : zScr scr b0 b s) : zScr scr b0 b U := by
  obtain ⟨xs, x1, x2, x3⟩ := h
  refine ⟨xs, va_X.moved hA ?_, x2, x3⟩
  rw [hU]
  exact x1.kept (hS.2.1 b (by omega) (by omega))
theorem zblind (scr : List Int32) (mj : Nat) (as : List Value) (w : zAW) : FrameBlind (zPc scr mj b0 b cI cS D as w) := by
  intro a U g mk q
  obtain ⟨q1, q0, q2, q3, q4, q5, q6⟩ := q
  refine ⟨q1, fun h => ?_, q2, q3, ?_⟩
  · obtain ⟨xs, x1, x2, x3⟩ := q0 h
    exact ⟨xs, va_X.moved (u := U) (U := U.calling g mk a) (Vm.Alike.refl U.vm) x1, x2, x3⟩
  exact ⟨ va_K.moved (u := U) (U := U.calling g mk a) (Vm.Alike.refl U.vm) q4, va_AO.moved (u := U) (U := U.calling g mk a) (Vm.Alike.refl U.vm) q5, zNW_same (s := U) rfl q6⟩
theorem zgo {H : Heap} {locs : List Loc} {cells slots mc ms : Nat} {g : JFrame} {rest : List Value} {Qa : State → Outcome → State → Prop} {free : Addr → Prop} (hr : va_Run p l e R s m args below meth c H locs cells slots mc ms g rest Qa free)
    (kk : ∀ (v : Option Value) (st₀ t : State) (H1 : Heap) (L : List Loc), st₀.heap = H → t.heap = H1 → (∀ q ∈ L, free q.base) → Qa st₀ (.returned v) t → W p l e R s m args below meth c H1 (locs ++ L) (cells + mc) (slots + ms) Q { g with pc := g.pc + 3, stack := v.toList ++ rest }) : W p l e R s m args below meth c H locs cells slots Q g := by
  intro T hT X
  obtain ⟨v, st₀, t, T', L, h0, X', hL, e1, e2, hq, st⟩ := hr T hT X
  obtain ⟨t2, a1, b1⟩ := kk v st₀ t T'.heap L h0 e1.symm hL hq T' rfl X'
  exact ⟨t2, st t2 a1, b1⟩
theorem lg_sl_len (b0 b : Nat) (as : List Value) : (lg_sl (as.map (zcv b0 b))).length = as.length := by
  induction as with
  | nil => rfl
  | cons a as ih =>
    unfold lg_sl at ih ⊢
    rw [List.map_cons, List.flatMap_cons, List.length_append, ih, zcv_cat, if_neg (by decide)]
    simp; omega
theorem zrok_ok {ty : Option FieldType} {x : Int32} (h : zrok ty x = true) : ∃ t, ty = some t ∧ narrow t (.int x) = .int x := by
  unfold zrok at h
  split at h
  · exact ⟨_, rfl, rfl⟩
  · simp only [Bool.or_eq_true, beq_iff_eq] at h
    rcases h with rfl | rfl <;> exact ⟨_, rfl, rfl⟩
  · cases h
/-- what the run of a callee gives: its contract -/
theorem zmet {scr : List Int32} {mj : Nat} {rj : zRec} (hok : zmOk rj) {as : List Value} {w w1 : zAW} {rv1 : Option Value} {l : Launch} (hlen : as.length ≤ rj.2.2.1) (hm : w.length ≤ w1.length ∧ zsz w ≤ zsz w1)
    (hrun : ∀ {p : Program} {e : Env} {R : Room} {s : State} {m : MethodId} {args : Array Value} {below : List Frame} {meth : Method} {c : Code} {Q : State → Prop} {L0 S0 : Nat},
      zFrm b0 b D cI cS rj p s m args meth c → b0 + L0 = s.heap.size → L0 ≤ w.length → S0 ≤ zsz w → (rj.2.2.2.2.2.2.1 ≤ R.frames ∧ 37 * rj.2.2.2.2.2.2.1 ≤ R.locals) → (94 < mj → zScr scr b0 b s) →
      (w1.length - L0 ≤ R.cells ∧ zsz w1 - S0 ≤ R.slots) → zRet p l e R s m args below meth c Q b0 b cI cS D L0 S0 rj rv1 w1 →
      zNext p l e R s m args below meth c Q b0 b cI cS D L0 S0 rj.2.2.1 0 (zent rj as) [] w) :
    Met l rj.1 (zws rj) (zrm rj (w1.length - w.length) (zsz w1 - zsz w)) (zPc scr mj b0 b cI cS D as w) (zQc b0 b cI cS D rv1 w1) (w1.length - w.length) (zsz w1 - zsz w) (fun q => b0 ≤ q) := by
  refine Met.ofW (cc := rj.2.1) (maxL := rj.2.2.1) (ret := rj.2.2.2.1) hok.1 rfl ?_
  intro p e s m args below meth c s₁ B hml hv
  obtain ⟨rfl, hsc, hsz, hP, hK⟩ := hv
  have hts := atoms_spec (ws := zws rj) B.pre
  have hown : s.vm.findClass (zcn rj.2.2.2.2.2.1) = some m.cls := by rw [hok.2.2.2.2.2.2.1]; exact findClass_of_methodNamed B.named
  have hlocks := B.notSynchronized
  have hr := B.returns
  have hin : rj.1.name = "<init>" → meth.name = "<init>" := fun h => (name_of_methodNamed B.named B.method).1.trans h
  have hl := lv_entry (as.map (zcv b0 b)) (n := rj.2.2.1) (by rw [lg_sl_len]; exact hlen)
  rw [lg_entry_eq]
  have hlent : (zent rj as).length = rj.2.2.1 := by simp [zent]; omega
  have := hrun (R := (headSpec (zws rj) (zrm rj (w1.length - w.length) (zsz w1 - zsz w))).room) (L0 := w.length) (S0 := zsz w) (Q := MQ below (zQc b0 b cI cS D rv1 w1) (as.map (zcv b0 b)).toArray s (w1.length - w.length) (zsz w1 - zsz w) (fun q => b0 ≤ q))
    ⟨B.exec, B.bytes, hml, hown, fun x hx => hts x (List.mem_cons_of_mem _ hx), hK, hin⟩ hsz.symm (Nat.le_refl _) (Nat.le_refl _) ⟨Nat.le_refl _, Nat.le_refl _⟩ hsc ⟨Nat.le_refl _, Nat.le_refl _⟩
    (below := below) (e := e) (fun H locs pc lsA hP1 hS1 hc => by
      rcases hc with ⟨x, rfl, hz, hdec⟩ | ⟨rfl, hz, hdec⟩
      · obtain ⟨ty, e1, e2⟩ := zrok_ok hz
        exact W.zret (ty := ty) B.exec B.bytes (hr.trans e1) e2 (fun t ht _ => ⟨rfl, by rw [ht]; exact hP1, hS1.F ht⟩) hS1.2.2 hdec hlocks
      · exact W.vret B.exec B.bytes (hr.trans hz) (fun t ht _ => ⟨rfl, by rw [ht]; exact hP1, hS1.F ht⟩) hS1.2.2 hdec hlocks) s.heap [] _ hP va_S.rf (zent_has hl) hlent
  rw [Nat.sub_self, Nat.sub_self] at this
  exact this
set_option maxHeartbeats 4000000 in
/-- a call of a method that has a contract so -/
theorem zcall_go {r rj : zRec} (hok : zmOk rj) {rest : List Value} {w w1 : zAW} {rv1 : Option Value} {L0 S0 : Nat} {H : Heap} {locs : List Loc} {pc : Nat} {lsA : Array Slot} {ls : zLs} {g : JFrame}
    (hb0 : b0 + L0 = s.heap.size) (hL0 : L0 ≤ w.length) (hS0 : S0 ≤ zsz w) (hm : w.length ≤ w1.length ∧ zsz w ≤ zsz w1) (hS : va_S (fun q => b0 ≤ q) s.heap H locs) {args2 : Array Value}
    (hg : g = F0 m pc lsA (g.stack))
    (hr : va_Run p l e R s m args below meth c H locs (w.length - L0) (zsz w - S0) (w1.length - w.length) (zsz w1 - zsz w) g (rest.map (zcv b0 b)) (zQc b0 b cI cS D rv1 w1 args2) (fun q => b0 ≤ q))
    (hL : lv_has lsA r.2.2.1 (zlv b0 b ls)) (hLen : ls.length = r.2.2.1)
    (k : zNext p l e R s m args below meth c Q b0 b cI cS D L0 S0 r.2.2.1 (pc + 3) ls (rv1.toList ++ rest) w1) : W p l e R s m args below meth c H locs (w.length - L0) (zsz w - S0) Q g := by
  refine zgo hr fun v st₀ t H1 L h0 ht hL1 hq => ?_
  obtain ⟨hv, hP1, hF1⟩ := hq
  have hv' : v = rv1.map (zcv b0 b) := by cases hv; rfl
  subst hv'
  rw [ht] at hP1
  have hS1 : va_S (fun q => b0 ≤ q) s.heap H1 (locs ++ L) := by
    have f1 := hF1.1
    have f2 := hF1.2
    rw [h0, ht] at f1 f2
    refine ⟨Nat.le_trans hS.1 f1, fun q h1 h2 => (f2 q (Nat.lt_of_lt_of_le h1 hS.1) h2).trans (hS.2.1 q h1 h2), fun q hq => ?_⟩
    rcases List.mem_append.mp hq with h | h
    · exact hS.2.2 q h
    · exact hL1 q h
  have := k H1 (locs ++ L) lsA hP1 hS1 hL hLen
  rw [show w1.length - L0 = w.length - L0 + (w1.length - w.length) by omega, show zsz w1 - S0 = zsz w - S0 + (zsz w1 - zsz w) by omega] at this
  rw [hg]
  cases rv1 <;> exact this
theorem zstackV {f : Value → Value} {n : Nat} {st rest : List Value} {x : Value} (h : st.drop n = x :: rest) : rest.length + n + 1 = st.length ∧ (st.take n).length = n ∧ st.map f = (((st.take n).reverse).map f).reverse ++ f x :: rest.map f := by
  have h1 := congrArg List.length h
  rw [List.length_drop, List.length_cons] at h1
  refine ⟨by omega, by rw [List.length_take]; omega, ?_⟩
  conv => lhs; rw [← List.take_append_drop n st, h]
  rw [List.map_append, List.map_reverse, List.reverse_reverse]
  rfl
theorem zstackS {f : Value → Value} {n : Nat} {st : List Value} : st.map f = (((st.take n).reverse).map f).reverse ++ (st.drop n).map f := by
  conv => lhs; rw [← List.take_append_drop n st]
  rw [List.map_append, List.map_reverse, List.reverse_reverse]
theorem zrecv {H : Heap} {w : zAW} {a ci : Nat} {fs : List Value} (hK : va_K D zcl [(cI, .int), (cS, .object RX3)] s) (hP : va_P D zcl (zW b0 b cI cS w) H) (hw : w[a]? = some (.inr (.inr (ci, fs)))) : ∃ cell : Cell, H[b0 + a]? = some cell ∧ cell.vm.isStatics = false ∧ s.vm.findClass (zcn ci) = some cell.cls := by
  obtain ⟨q, hq, -⟩ := hP _ _ (zW_get hw)
  have e := (zcl_ok hq).1
  have := va_recv hK hP hq (zW_get hw)
  rw [e] at this
  exact this
theorem zroom_ok {r rj : zRec} {mc ms : Nat} (hok : zmOk rj) (hdp : rj.2.2.2.2.2.2.1 + 1 ≤ r.2.2.2.2.2.2.1) (hdep : r.2.2.2.2.2.2.1 ≤ R.frames ∧ 37 * r.2.2.2.2.2.2.1 ≤ R.locals) : (zrm rj mc ms).frames + 1 ≤ R.frames ∧ 8 + (rj.2.2.1 + 11) + (zrm rj mc ms).locals ≤ R.locals := by
  have := hok.2.2.2.2.2.2.2.1
  show rj.2.2.2.2.2.2.1 + 1 ≤ _ ∧ 8 + (rj.2.2.1 + 11) + 37 * rj.2.2.2.2.2.2.1 ≤ _
  omega
set_option maxHeartbeats 4000000 in
theorem zx_sound : ∀ (n : Nat) {mi pc : Nat} {ls : zLs} {st : List Value} {w : zAW} {rv : Option Value} {w' : zAW}, zx scr n mi pc ls st w = some (rv, w') → ∀ (r : zRec), zMs[mi]? = some r → zdecs r.2.1 r.2.2.2.2.1 →
    ∀ {p : Program} {l : Launch} {e : Env} {R : Room} {s : State} {m : MethodId} {args : Array Value} {below : List Frame} {meth : Method} {c : Code} {Q : State → Prop} {L0 S0 : Nat},
    zFrm b0 b D cI cS r p s m args meth c → b0 + L0 = s.heap.size → L0 ≤ w.length → S0 ≤ zsz w → (r.2.2.2.2.2.2.1 ≤ R.frames ∧ 37 * r.2.2.2.2.2.2.1 ≤ R.locals) →
    (94 < mi → zScr scr b0 b s) →
    (w'.length - L0 ≤ R.cells ∧ zsz w' - S0 ≤ R.slots) → zRet p l e R s m args below meth c Q b0 b cI cS D L0 S0 r rv w' →
    zNext p l e R s m args below meth c Q b0 b cI cS D L0 S0 r.2.2.1 pc ls st w
  | 0, _, _, _, _, _, _, _, h => by cases h
  | n + 1, mi, pc, ls, st, w, rv, w', h => by
    intro r hr hdd p l e R s m args below meth c Q L0 S0 hF hb0 hL0 hS0 hdep hscr hroom hret
    unfold zx at h
    rw [hr] at h
    dsimp only at h
    split at h
    · cases h
    · rename_i d hd
      have hdec : decode r.2.1 pc = .ok d := hdd (pc, d) (zfind_mem hd)
      split at h
      · cases h
      · rename_i q hq
        obtain ⟨pc1, ls1, st1, w1⟩ := q
        have hm1 := zI_mono hq
        have hm2 := zx_mono n h
        dsimp only at hm1 hm2
        exact zI_jump hF hb0 hL0 hS0 hdec hdep hscr hq (by omega) (zx_sound n h r hr hdd hF hb0 (by dsimp only at hm1 ⊢; omega) (by dsimp only at hm1 ⊢; omega) hdep hscr hroom hret)
      · rename_i q hq
        obtain ⟨mj, as, ls1, rest⟩ := q
        dsimp only at h
        split at h
        · cases h
        · rename_i rj hrj
          split at h
          · cases h
          · rename_i a ha
            obtain ⟨rv1, w1⟩ := a
            have hm1 := zx_mono n ha
            have hm2 := zx_mono n h
            dsimp only at hm2
            have hcont := fun (hr2 : zRet p l e R s m args below meth c Q b0 b cI cS D L0 S0 r rv w') => zx_sound n h r hr hdd hF hb0 (by dsimp only; omega) (by dsimp only; omega) hdep hscr hroom hr2
            have hk := hcont hret
            intro H locs lsA hP hS hL hLen
            refine z_sz fun hsz => ?_
            have hHs := z_size hb0 hL0 hP hS hsz
            obtain ⟨hx, hb, hml, hown, hts, ⟨hK, hAO, hNW⟩, hname⟩ := hF
            have hfit : w.length - L0 + (w1.length - w.length) ≤ R.cells ∧ zsz w - S0 + (zsz w1 - zsz w) ≤ R.slots := by omega
            have hpre : (94 < mj → 94 < mi) → ∀ U : State, U.heap = H → s.WarmedH U.vm → zPc scr mj b0 b cI cS D as w ((as.map (zcv b0 b)).toArray) U := fun hmm U hU hW => ⟨rfl, fun h => zScr_go hS hb0 hW.alike hU (hscr (hmm h)), by rw [hU]; exact hHs, by rw [hU]; exact hP, va_K.moved hW.alike hK, va_AO.moved hW.alike hAO, zNW_warm hW hNW⟩
            rcases zI_call hq with ⟨i, mj', rfl, hf, hc⟩ | ⟨i, mj', kk, rfl, hkk, hf, hc⟩ | ⟨i, mj', kk, rfl, hkk, hf, hc⟩
            · obtain ⟨rj', aa, rest', fs, hrj', hdr, hdp, hrl, hlt, hnm, hw, e1⟩ := zcallV_some hc
              cases e1
              cases hrj.symm.trans hrj'
              have hok := zms_ok (by omega) hrj
              obtain ⟨rr, g1, g2, g3, g4⟩ := zCt_ok _ (zfind2_mem hf)
              cases g1.symm.trans hrj
              have hM := zmet (scr := scr) (mj := mj) (l := l) (D := D) (b0 := b0) (b := b) (cI := cI) (cS := cS) hok (by simp; omega) hm1 (fun hF1 a1 a2 a3 a4 a7 a5 a6 => zx_sound n ha rj hrj hok.2.2.2.2.2.2.2.2 hF1 a1 a2 a3 a4 a7 a5 a6)
              obtain ⟨hrest, hnl, hsk⟩ := zstackV (f := zcv b0 b) hdr
              have hrv := zrecv hK hP hw
              exact zcall_go (r := r) (rj := rj) hok hb0 hL0 hS0 hm1 hS rfl (va_runV (own := zcn r.2.2.2.2.2.1) (n := rj.2.2.2.2.2.2.2) (As := ((st.take rj.2.2.2.2.2.2.2).reverse).map (zcv b0 b)) (b := b0 + aa) (C := zcn rj.2.2.2.2.2.1) ⟨hx, hb, hml, hown, hts⟩ hM
                ⟨callB_of _ hts (zws_good hok) rfl rfl rfl (hts _ hok.2.2.1) (hts _ g2) ⟨hok.2.2.2.2.1, hok.2.2.2.2.2.1, hok.2.2.2.1⟩ (zroom_ok hok hdp hdep), hts _ g3, by rw [hok.2.2.2.2.2.2.1]; exact hts _ g4⟩
                ⟨zblind _ _ _ _, hrv, hpre (fun q => by omega)⟩ rfl (by rw [List.length_map, List.length_reverse, hnl]) hL.1 hsk (by show 2 * 0 + _ ≤ 8; rw [zrest]; omega) hdec hfit) hL hLen hk
            · obtain ⟨rj', aa, rest', fs, hrj', hdr, hdp, hrl, hlt, hnm, hw, e1⟩ := zcallV_some hc
              cases e1
              cases hrj.symm.trans hrj'
              have hok := zms_ok (by omega) hrj
              have hM := zmet (scr := scr) (mj := mj) (l := l) (D := D) (b0 := b0) (b := b) (cI := cI) (cS := cS) hok (by simp; omega) hm1 (fun hF1 a1 a2 a3 a4 a7 a5 a6 => zx_sound n ha rj hrj hok.2.2.2.2.2.2.2.2 hF1 a1 a2 a3 a4 a7 a5 a6)
              obtain ⟨hrest, hnl, hsk⟩ := zstackV (f := zcv b0 b) hdr
              rcases hkk with rfl | rfl
              · obtain ⟨rr, g1, g2, g3, g4, g5⟩ := zCt_ok _ (zfind2_mem hf)
                cases g1.symm.trans hrj
                exact zcall_go (r := r) (rj := rj) hok hb0 hL0 hS0 hm1 hS rfl (va_runI (own := zcn r.2.2.2.2.2.1) (n := rj.2.2.2.2.2.2.2) (As := ((st.take rj.2.2.2.2.2.2.2).reverse).map (zcv b0 b)) (b := b0 + aa) ⟨hx, hb, hml, hown, hts⟩ hM
                  ⟨callB_of _ hts (zws_good hok) (by unfold zws; rw [g5]) rfl rfl (hts _ hok.2.2.1) (hts _ g2) ⟨hok.2.2.2.2.1, hok.2.2.2.2.2.1, hok.2.2.2.1⟩ (zroom_ok hok hdp hdep), g4, hts _ g3⟩
                  ⟨zblind _ _ _ _, hpre (fun q => by omega)⟩ rfl (by rw [List.length_map, List.length_reverse, hnl]) hL.1 hsk (by show 2 * 0 + _ ≤ 8; rw [zrest]; omega) hdec hfit) hL hLen hk
              · obtain ⟨rr, g1, g2, g3, g4, g5⟩ := zCt_ok _ (zfind2_mem hf)
                cases g1.symm.trans hrj
                exact zcall_go (r := r) (rj := rj) hok hb0 hL0 hS0 hm1 hS rfl (va_runIN (own := zcn r.2.2.2.2.2.1) (host := RX5) (n := rj.2.2.2.2.2.2.2) (As := ((st.take rj.2.2.2.2.2.2.2).reverse).map (zcv b0 b)) (b := b0 + aa) ⟨hx, hb, hml, hown, hts⟩ hM
                  ⟨va_cnB _ hts (zws_good hok) (by unfold zws; rw [g5]) rfl rfl (hNW _ g2) (hts _ hok.2.2.1) ⟨hok.2.2.2.2.1, hok.2.2.2.2.2.1, hok.2.2.2.1⟩ (zroom_ok hok hdp hdep), g4, hts _ g3⟩
                  ⟨zblind _ _ _ _, hpre (fun q => by omega)⟩ rfl (by rw [List.length_map, List.length_reverse, hnl]) hL.1 hsk (by show 2 * 0 + _ ≤ 8; rw [zrest]; omega) hdec hfit) hL hLen hk
            · obtain ⟨rj', hrj', hdp, hrl, hnl, hlt, hnm, e1⟩ := zcallS_some hc
              cases e1
              cases hrj.symm.trans hrj'
              have hok := zms_ok (by omega) hrj
              have hM := zmet (scr := scr) (mj := mj) (l := l) (D := D) (b0 := b0) (b := b) (cI := cI) (cS := cS) hok (by simp; omega) hm1 (fun hF1 a1 a2 a3 a4 a7 a5 a6 => zx_sound n ha rj hrj hok.2.2.2.2.2.2.2.2 hF1 a1 a2 a3 a4 a7 a5 a6)
              have hsk := zstackS (f := zcv b0 b) (n := rj.2.2.2.2.2.2.2) (st := st)
              have hrl2 : (List.drop rj.2.2.2.2.2.2.2 st).length ≤ 8 := by rw [List.length_drop]; omega
              rcases hkk with rfl | rfl
              · obtain ⟨rr, g1, g2, g3⟩ := zCt_ok _ (zfind2_mem hf)
                cases g1.symm.trans hrj
                exact zcall_go (r := r) (rj := rj) hok hb0 hL0 hS0 hm1 hS rfl (va_runS (own := zcn r.2.2.2.2.2.1) (n := rj.2.2.2.2.2.2.2) (As := ((st.take rj.2.2.2.2.2.2.2).reverse).map (zcv b0 b)) ⟨hx, hb, hml, hown, hts⟩ hM
                  ⟨callB_of _ hts (zws_good hok) rfl rfl rfl (hts _ hok.2.2.1) (hts _ g2) ⟨hok.2.2.2.2.1, hok.2.2.2.2.2.1, hok.2.2.2.1⟩ (zroom_ok hok hdp hdep), hts _ g3⟩
                  ⟨zblind _ _ _ _, hpre (fun q => by omega)⟩ rfl (by rw [List.length_map, List.length_reverse, List.length_take]; omega) hL.1 hsk (by show 2 * 0 + _ ≤ 8; rw [zrest]; omega) hdec hfit) hL hLen hk
              · obtain ⟨rr, g1, g2, g3⟩ := zCt_ok _ (zfind2_mem hf)
                cases g1.symm.trans hrj
                exact zcall_go (r := r) (rj := rj) hok hb0 hL0 hS0 hm1 hS rfl (va_runSN (own := zcn r.2.2.2.2.2.1) (host := RX5) (n := rj.2.2.2.2.2.2.2) (As := ((st.take rj.2.2.2.2.2.2.2).reverse).map (zcv b0 b)) ⟨hx, hb, hml, hown, hts⟩ hM
                  ⟨va_cnB _ hts (zws_good hok) rfl rfl rfl (hNW _ g2) (hts _ hok.2.2.1) ⟨hok.2.2.2.2.1, hok.2.2.2.2.2.1, hok.2.2.2.1⟩ (zroom_ok hok hdp hdep), hts _ g3, trivial⟩
                  ⟨zblind _ _ _ _, hpre (fun q => by omega)⟩ rfl (by rw [List.length_map, List.length_reverse, List.length_take]; omega) hL.1 hsk (by show 2 * 0 + _ ≤ 8; rw [zrest]; omega) hdec hfit) hL hLen hk
      · rename_i rv1 hq
        cases h
        intro H locs lsA hP hS hL hLen
        rcases zI_ret hq with ⟨x, rfl, rfl, hz, rfl⟩ | ⟨rfl, rfl, hz, rfl⟩
        · exact hret H locs pc lsA hP hS (Or.inl ⟨x, rfl, hz, hdec⟩)
        · exact hret H locs pc lsA hP hS (Or.inr ⟨rfl, hz, hdec⟩)
end ZS
