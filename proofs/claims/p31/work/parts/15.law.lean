/-! THE CLAIM OUT OF ONE WALK OF THE LAW'S BODY. Your part is whole_start (and what it stands on); all else here is the same for every law, but numbers. -/
def R_law : String := "MarbleHeirsLaw"
def lw_P (b : Addr) (xs : List Int32) (args : Array Value) (s : State) : Prop := args = #[.ref b] ∧ s.IntsAt b xs ∧ xs.length ≤ 260 ∧ (Jvm.Cond.and given_1 narrow_1).before args s = true
def lw_Q (_ : Array Value) (s : State) (o : Outcome) (t : State) : Prop := o = .returned (some (.int 1)) ∧ Framed s o t [] 647660 7159269
def lw_Z (below : List Frame) (a : Array Value) (s : State) : State → Prop := fun t => ∃ o, t.status = .running ∧ Ended t below o ∧ lw_Q a s o t
/-- the law's own end, with 1 on the stack, nothing written that was there before, its room as the claim has it -/
theorem lw_ret {p : Program} {l : Launch} {e : Env} {s : State} {m : MethodId} {below : List Frame} {meth : Method} {c : Code} {b : Nat} (hx : p.tables.exec = Jvm.exec) (hb : c.code = code) (hr : meth.sig.returnType = ret) (hlocks : meth.locks = false) {pc : Nat} {H : Heap} {ls : Array Slot} (hdg : decode code pc = .ok (.ireturn, 1)) : W p l e room_1 s m #[Value.ref b] below meth c H [] 647660 7159269 (lw_Z below #[Value.ref b] s) (F0 m pc ls [.int 1]) := by
  intro T hT X
  obtain ⟨fs, hret, hrun, hended, hW, hframe⟩ := X.leave (v := some (.int 1)) (hlocks := hlocks) (fun h => by rw [hr] at h; cases h)
  have hmeth' : T.vm.method? m = some meth := X.method'
  refine ⟨T.setFrames fs, ?_, .returned (some (.int 1)), hrun, hended, rfl, ⟨_, rfl⟩, hW, hframe⟩
  jvm_step X.here [X.here.top, hx, hb, hdg, hmeth', hr, ret, narrow_b1]
  (try refine ⟨rfl, ?_⟩); (try refine ⟨rfl, ?_⟩)
  first | (intro acts; rw [hret _ acts rfl rfl rfl]) | rw [hret _ _ rfl rfl rfl]
  exact Steps.refl _
/-- what holds at the law's entry: the machine, the code, the tables' words (any of lw_tbl by 'hts w (by decide +kernel)'), the script of L ints xs at the cell b, what the Statement gives of the start (any of its parts by flat_of_before) -/
def lw_At (p : Program) (s : State) (m : MethodId) (meth : Method) (c : Code) (b L : Nat) (xs : Nat → Int32) : Prop :=
  p.tables.exec = Jvm.exec ∧ c.code = code ∧ meth.sig.returnType = ret ∧ c.maxLocals = 5 ∧ s.vm.findClass R_law = some m.cls ∧ (∀ w ∈ lw_tbl, w.before #[Value.ref b] s = true) ∧ va_X b L xs s s.heap ∧ b < s.heap.size ∧ meth.locks = false ∧ (Jvm.Cond.and given_1 narrow_1).before #[Value.ref b] s = true
/-- the law's answer, as a run of ours says it -/
def zLawRuns : Prop := ∀ (scr : List Int32), scr.length ≤ 260 → ∃ w', zE1 scr 96 0 [some (.retAddr 0), none, none, none, none] [] [] (some (.int 1), w') ∧ w'.length ≤ 647660 ∧ zsz w' ≤ 7159269
set_option maxRecDepth 20000 in
set_option maxHeartbeats 4000000 in
theorem whole_start_open (hrun : zLawRuns) {p : Program} {e : Env} {s : State} {m : MethodId} {below : List Frame} {meth : Method} {c : Code} (l : Launch) (hflags : l.flags = flags0) {b L : Nat} {xs : Nat → Int32} (hL : L ≤ 260) (C0 : lw_At p s m meth c b L xs) : W p l e room_1 s m #[Value.ref b] below meth c s.heap [] 0 0 (lw_Z below #[Value.ref b] s) (entryFrame m ([Value.ref b] : List Value).toArray 5) := by
  obtain ⟨hx, hb, hr, hml, hown, hts, hX, hbl, hlocks, hgv⟩ := id C0
  have hgw : ∀ w ∈ zGW, w.before #[Value.ref b] s = true := fun w h => hts w (List.mem_filter.mp h).1
  have hkn : ∀ (k : Nat), ∃ cI : ClassId × (Nat → Nat), ∀ (q : vw_C), zcl[k]? = some q → u_Kn s q.1 q.2.1 q.2.2 cI.1 cI.2 := by
    intro k
    by_cases hk : k < 6
    · obtain ⟨q, hq⟩ : ∃ q, zcl[k]? = some q := ⟨_, List.getElem?_eq_getElem hk⟩
      obtain ⟨e1, h2, -⟩ := zcl_ok hq
      have hi : ∃ n, Cond.instantiable q.1 n ∈ zGW := by
        rcases k with _ | _ | _ | _ | _ | _ | n
        · cases hq; exact ⟨_, (zz_g (zz_t1 (i := 112) rfl) rfl)⟩
        · cases hq; exact ⟨_, (zz_g (zz_t1 (i := 24) rfl) rfl)⟩
        · cases hq; exact ⟨_, (zz_g (zz_t1 (i := 82) rfl) rfl)⟩
        · cases hq; exact ⟨_, (zz_g (zz_t1 (i := 18) rfl) rfl)⟩
        · cases hq; exact ⟨_, (zz_g (zz_t1 (i := 99) rfl) rfl)⟩
        · cases hq; exact ⟨_, (zz_g (zz_t1 (i := 10) rfl) rfl)⟩
        · omega
      obtain ⟨n, hn⟩ := hi
      obtain ⟨cC, iS, h3⟩ := u_known (C := q.1) (T := q.2.1) (N := q.2.2) (n := n) hgw h2 (hgw _ hn)
      exact ⟨(cC, iS), fun q2 h => by cases hq.symm.trans h; exact h3⟩
    · exact ⟨(0, fun _ => 0), fun q h => absurd (List.getElem?_eq_some_iff.mp h).1 hk⟩
  have hD : ∃ D : va_G, ∀ (k : Nat) (q : vw_C), zcl[k]? = some q → u_Kn s q.1 q.2.1 q.2.2 (D.1 k) (D.2 k) :=
    ⟨(fun k => (Classical.choose (hkn k)).1, fun k => (Classical.choose (hkn k)).2), fun k q h => Classical.choose_spec (hkn k) q h⟩
  obtain ⟨D, hKD⟩ := hD
  obtain ⟨cI, kI, compI, hfI, hkI, hkindI⟩ := Cond.arrayClass_spec (hgw _ zarrc)
  obtain ⟨compS, cS, kS, hfC, hidx, hkS, hkindS, hfS⟩ := Cond.arrayOver_spec (hts _ zarro)
  have hK : va_K D zcl [(cI, .int), (cS, .object RX3)] s := by
    refine ⟨hKD, fun k q h => ?_⟩
    rcases k with _ | _ | k
    · cases h
      exact ⟨fun n z => ⟨(fun _ h => by cases h), kI, hkI, compI, hkindI⟩, hfI⟩
    · cases h
      exact ⟨fun n z => ⟨(fun _ h => by cases h), kS, hkS, compS, hkindS⟩, kS, compS, hkS, hkindS, hfC, hfS⟩
    · cases h
  have hAO : va_AO RX3 s := va_AO.of (hts _ zarro)
  have hNW : ∀ x ∈ zNW, va_Nw x s := fun x hx => by
    have h1 := hts x (zNW_in x hx)
    unfold zNW at hx
    simp only [List.mem_cons, List.not_mem_nil, or_false] at hx
    rcases hx with rfl | rfl | rfl | rfl | rfl <;> exact va_Nw.of rfl h1
  obtain ⟨w', ⟨n, hn⟩, hw1, hw2⟩ := hrun ((List.range L).map xs) (by simpa using hL)
  have hl := lv_entry ([.ref b]) (n := 5) (Nat.le_of_ble_eq_true rfl)
  have := zx_sound (b0 := s.heap.size) (b := b) (cI := cI) (cS := cS) (D := D) n hn _ rfl zcd96 (p := p) (l := l) (e := e) (R := room_1) (s := s) (m := m) (args := #[Value.ref b]) (below := below) (meth := meth) (c := c) (Q := lw_Z below #[Value.ref b] s) (L0 := 0) (S0 := 0)
    ⟨hx, hb, hml, hown, hgw, ⟨hK, hAO, hNW⟩, fun h => absurd h (by decide)⟩ (Nat.add_zero _) (Nat.zero_le _) (Nat.zero_le _) ⟨Nat.le_of_ble_eq_true rfl, Nat.le_of_ble_eq_true rfl⟩
    (fun _ => (⟨xs, by simpa using hX, hbl, fun j x hj => by
      rw [List.getElem?_map] at hj
      by_cases hjl : j < L
      · rw [List.getElem?_range hjl] at hj; cases hj; rfl
      · rw [List.getElem?_eq_none (by simpa using hjl)] at hj; cases hj⟩ : zScr ((List.range L).map xs) s.heap.size b s))
    ⟨by show w'.length - 0 ≤ 647660; omega, by show zsz w' - 0 ≤ 7159269; omega⟩
    (fun H locs pc lsA hP1 hS1 hc => by
      rcases hc with ⟨x, e1, -, hdec⟩ | ⟨e1, -, -⟩
      · cases e1
        refine va_forget (fun q hq => hS1.2.2 q hq) (W.widen (k := 647660) (n := 7159269) (by omega) (by omega) ?_)
        exact lw_ret hx hb hr hlocks hdec
      · cases e1) s.heap [] ((lg_sl ([.ref b]) ++ List.replicate (5 - (lg_sl ([.ref b])).length) Slot.unset).toArray) (fun k q h => by simp [zW] at h) va_S.rf hl rfl
  rw [lg_entry_eq]
  exact this
