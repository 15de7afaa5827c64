abbrev zRec : Type := MethodName × ByteArray × Nat × Option FieldType × zC1 × Nat × Nat × Nat
def zMs : List zRec := [
  (yX0_init, cX0_init, 1, none, zc0, 0, 1, 0),
  (yX0_tell, cX0_tell, 2, (some .int), zc1, 0, 0, 1),
  (yX0_searchIn, cX0_searchIn, 5, none, zc2, 0, 4, 1),
  (yX0_searchPartners, cX0_searchPartners, 13, none, zc3, 0, 3, 3),
  (yX0_one, cX0_one, 2, (some .int), zc4, 0, 0, 2),
  (yX0_weigh, cX0_weigh, 9, none, zc5, 0, 2, 6),
  (yX1_init, cX1_init, 1, none, zc6, 1, 1, 0),
  (yX1_copyFrom, cX1_copyFrom, 2, none, zc7, 1, 1, 1),
  (yX1_count, cX1_count, 2, (some .int), zc8, 1, 0, 1),
  (yX1_has, cX1_has, 3, (some .boolean), zc9, 1, 1, 2),
  (yX1_colour, cX1_colour, 3, (some .int), zc10, 1, 0, 2),
  (yX1_value, cX1_value, 3, (some .int), zc11, 1, 0, 2),
  (yX1_describe, cX1_describe, 4, (some .int), zc12, 1, 1, 3),
  (yX1_sum, cX1_sum, 4, (some .int), zc13, 1, 0, 1),
  (yX1_countOf, cX1_countOf, 5, (some .int), zc14, 1, 0, 2),
  (yX1_hasRoom, cX1_hasRoom, 1, (some .boolean), zc15, 1, 1, 0),
  (yX1_add, cX1_add, 3, (some .boolean), zc16, 1, 2, 2),
  (yX1_giveFirstTo, cX1_giveFirstTo, 6, none, zc17, 1, 1, 1),
  (yX1_trade, cX1_trade, 8, none, zc18, 1, 0, 4),
  (yX1_removeBag, cX1_removeBag, 4, none, zc19, 1, 1, 1),
  (yX2_init, cX2_init, 2, none, zc20, 2, 3, 0),
  (yX2_keep, cX2_keep, 2, none, zc21, 2, 3, 1),
  (yX2_discardOldest, cX2_discardOldest, 3, none, zc22, 2, 0, 0),
  (yX2_takeBack, cX2_takeBack, 2, none, zc23, 2, 3, 1),
  (yX3_init, cX3_init, 2, none, zc24, 3, 2, 0),
  (yX3_copyFrom, cX3_copyFrom, 2, none, zc25, 3, 2, 1),
  (yX3_hasHeir, cX3_hasHeir, 2, (some .boolean), zc26, 3, 0, 1),
  (yX3_hasMarble, cX3_hasMarble, 3, (some .boolean), zc27, 3, 2, 2),
  (yX3_addHeir, cX3_addHeir, 4, (some .int), zc28, 3, 0, 2),
  (yX3_removeHeir, cX3_removeHeir, 3, none, zc29, 3, 2, 1),
  (yX3_placeOf, cX3_placeOf, 3, (some .int), zc30, 3, 0, 1),
  (yX3_playAllRounds, cX3_playAllRounds, 3, (some .int), zc31, 3, 4, 0),
  (yX3_playRound, cX3_playRound, 3, (some .int), zc32, 3, 3, 0),
  (yX3_giveInOrder, cX3_giveInOrder, 3, none, zc33, 3, 2, 1),
  (yX3_giveToPoorest, cX3_giveToPoorest, 5, none, zc34, 3, 2, 1),
  (yX3_poorestBut, cX3_poorestBut, 7, (some .int), zc35, 3, 1, 1),
  (yX3_exchangeUnlessVetoed, cX3_exchangeUnlessVetoed, 6, (some .int), zc36, 3, 2, 4),
  (yX3_exchange, cX3_exchange, 5, none, zc37, 3, 1, 4),
  (yX3_vetoer, cX3_vetoer, 6, (some .int), zc38, 3, 1, 4),
  (yX3_objects, cX3_objects, 3, (some .boolean), zc39, 3, 0, 2),
  (yX3_about, cX3_about, 3, (some .int), zc40, 3, 1, 2),
  (yX3_figure, cX3_figure, 2, (some .int), zc41, 3, 3, 1),
  (yX3_overAll, cX3_overAll, 4, (some .int), zc42, 3, 2, 1),
  (yX3_spread, cX3_spread, 6, (some .int), zc43, 3, 2, 1),
  (yX4_init, cX4_init, 1, none, zc44, 4, 1, 0),
  (yX0_one, cX0_one, 2, (some .int), zc4, 0, 0, 2),
  (yX0_one, cX0_one, 2, (some .int), zc4, 0, 0, 2),
  (yX0_one, cX0_one, 2, (some .int), zc4, 0, 0, 2),
  (yX0_one, cX0_one, 2, (some .int), zc4, 0, 0, 2),
  (yX0_one, cX0_one, 2, (some .int), zc4, 0, 0, 2),
  (yX0_one, cX0_one, 2, (some .int), zc4, 0, 0, 2),
  (yX0_one, cX0_one, 2, (some .int), zc4, 0, 0, 2),
  (yX5_init, cX5_init, 1, none, zc52, 5, 4, 0),
  (yX5_come, cX5_come, 3, (some .int), zc53, 5, 4, 2),
  (yX5_leave, cX5_leave, 3, (some .int), zc54, 5, 4, 1),
  (yX5_wish, cX5_wish, 3, (some .int), zc55, 5, 4, 2),
  (yX5_setRule, cX5_setRule, 3, (some .int), zc56, 5, 4, 1),
  (yX5_setPatience, cX5_setPatience, 3, (some .int), zc57, 5, 4, 1),
  (yX5_grant, cX5_grant, 4, (some .int), zc58, 5, 4, 2),
  (yX5_drop, cX5_drop, 3, (some .int), zc59, 5, 4, 2),
  (yX5_round, cX5_round, 1, (some .int), zc60, 5, 4, 0),
  (yX5_divide, cX5_divide, 1, (some .int), zc61, 5, 5, 0),
  (yX5_swap, cX5_swap, 6, (some .int), zc62, 5, 4, 4),
  (yX5_settle, cX5_settle, 2, (some .int), zc63, 5, 5, 0),
  (yX5_heir, cX5_heir, 3, (some .int), zc64, 5, 2, 2),
  (yX5_bag, cX5_bag, 4, (some .int), zc65, 5, 3, 3),
  (yX5_hopper, cX5_hopper, 3, (some .int), zc66, 5, 2, 2),
  (yX5_vetoes, cX5_vetoes, 2, (some .int), zc67, 5, 1, 1),
  (yX5_at, cX5_at, 2, (some .int), zc68, 5, 0, 1),
  (yX5_total, cX5_total, 2, (some .int), zc69, 5, 4, 1),
  (yX5_ifDivided, cX5_ifDivided, 3, (some .int), zc70, 5, 5, 2),
  (yX5_fairestRule, cX5_fairestRule, 5, (some .int), zc71, 5, 6, 0),
  (yX5_whoVetoes, cX5_whoVetoes, 6, (some .int), zc72, 5, 4, 4),
  (yX5_bestSwap, cX5_bestSwap, 2, (some .int), zc73, 5, 5, 1),
  (yX0_one, cX0_one, 2, (some .int), zc4, 0, 0, 2),
  (yX0_one, cX0_one, 2, (some .int), zc4, 0, 0, 2),
  (yX0_one, cX0_one, 2, (some .int), zc4, 0, 0, 2),
  (yX0_one, cX0_one, 2, (some .int), zc4, 0, 0, 2),
  (yX5_undo, cX5_undo, 1, (some .int), zc78, 5, 4, 0),
  (yX0_one, cX0_one, 2, (some .int), zc4, 0, 0, 2),
  (yX5_restore, cX5_restore, 1, (some .int), zc80, 5, 4, 0),
  (yX5_isMother, cX5_isMother, 1, (some .boolean), zc81, 5, 0, 1),
  (yX5_isColour, cX5_isColour, 1, (some .boolean), zc82, 5, 0, 1),
  (yX5_moveBack, cX5_moveBack, 5, none, zc83, 5, 0, 3),
  (yX5_swapError, cX5_swapError, 5, (some .int), zc84, 5, 3, 4),
  (yX5_spreadUnder, cX5_spreadUnder, 2, (some .int), zc85, 5, 5, 1),
  (yL_low, cL_low, 2, (some .int), zc86, 7, 0, 2),
  (yL_drops, cL_drops, 7, (some .boolean), zc87, 7, 5, 3),
  (yL_rounds, cL_rounds, 11, (some .boolean), zc88, 7, 5, 2),
  (yL_divides, cL_divides, 9, (some .boolean), zc89, 7, 7, 2),
  (yL_swaps, cL_swaps, 18, (some .boolean), zc90, 7, 5, 5),
  (yL_isBest, cL_isBest, 15, (some .boolean), zc91, 7, 6, 1),
  (yL_isFair, cL_isFair, 6, (some .boolean), zc92, 7, 7, 1),
  (yL_holds, cL_holds, 16, (some .boolean), zc93, 7, 7, 1),
  (yL_change, cL_change, 15, (some .boolean), zc94, 7, 8, 4),
  (yL_cell, cL_cell, 2, (some .int), zc95, 7, 0, 2),
  (yL_law, cL_law, 5, (some .boolean), zc96, 7, 9, 1)]
def zFt : List (Nat × Nat × Nat × Nat) := [(1, 9, 1, 0), (1, 15, 1, 1), (3, 12, 3, 0), (5, 69, 3, 0), (0, 35, 3, 0), (3, 18, 3, 1), (5, 54, 3, 1), (0, 30, 3, 1), (3, 22, 3, 2), (3, 26, 3, 3), (0, 53, 3, 3), (5, 83, 3, 3), (3, 29, 3, 4), (5, 156, 3, 4), (3, 32, 3, 5), (5, 96, 3, 5), (3, 35, 3, 6), (5, 90, 3, 6), (3, 38, 3, 7), (5, 93, 3, 7), (3, 41, 3, 8), (3, 44, 3, 9), (3, 47, 3, 10), (2, 11, 2, 0), (2, 17, 2, 1), (5, 186, 2, 1), (4, 9, 4, 0), (4, 15, 4, 1), (0, 9, 0, 0), (5, 127, 0, 0), (0, 15, 0, 1), (5, 130, 0, 1), (0, 18, 0, 2), (5, 133, 0, 2), (0, 21, 0, 3), (5, 136, 0, 3), (0, 24, 0, 4), (5, 124, 0, 4), (0, 27, 0, 5), (5, 12, 5, 0), (5, 16, 5, 1), (5, 19, 5, 2), (5, 22, 5, 3), (5, 29, 5, 4), (5, 36, 5, 5), (5, 43, 5, 6)]
def zCt : List (Nat × Nat × Nat × Nat) := [(7, 106, 2, 52), (5, 3, 5, 0), (5, 11, 2, 24), (3, 3, 5, 0), (3, 11, 3, 6), (1, 3, 5, 0), (5, 28, 2, 20), (2, 3, 5, 0), (2, 21, 2, 24), (5, 35, 3, 44), (4, 3, 5, 0), (5, 42, 3, 0), (0, 3, 5, 0), (7, 9, 0, 69), (5, 159, 0, 41), (3, 80, 0, 8), (3, 128, 0, 42), (3, 134, 0, 40), (3, 105, 0, 13), (3, 125, 0, 14), (3, 72, 0, 30), (3, 131, 0, 43), (3, 87, 8, 0), (3, 137, 7, 0), (7, 103, 0, 78), (5, 188, 0, 23), (2, 25, 0, 25), (3, 50, 0, 7), (1, 18, 6, 0), (3, 54, 6, 0), (7, 110, 0, 80), (5, 58, 0, 21), (2, 22, 0, 22), (5, 162, 0, 25), (7, 113, 1, 95), (7, 15, 1, 86), (7, 117, 1, 94), (7, 21, 0, 53), (5, 47, 1, 81), (5, 51, 1, 82), (5, 62, 0, 28), (7, 24, 0, 64), (5, 66, 0, 26), (5, 143, 0, 40), (7, 27, 0, 54), (5, 73, 0, 8), (5, 79, 0, 29), (3, 68, 0, 19), (1, 24, 0, 8), (1, 39, 4, 83), (3, 76, 4, 83), (7, 30, 0, 55), (5, 87, 0, 14), (7, 33, 0, 56), (7, 36, 0, 57), (7, 39, 0, 67), (7, 42, 0, 58), (7, 45, 1, 87), (7, 67, 0, 59), (5, 99, 0, 15), (5, 103, 0, 16), (1, 35, 0, 15), (7, 70, 0, 66), (5, 153, 0, 9), (5, 149, 0, 12), (1, 28, 0, 10), (1, 32, 0, 11), (7, 49, 1, 88), (7, 73, 0, 60), (5, 107, 0, 32), (3, 93, 0, 34), (3, 102, 0, 35), (3, 99, 0, 17), (3, 96, 0, 33), (7, 76, 0, 68), (7, 79, 0, 65), (5, 146, 0, 27), (3, 60, 0, 26), (3, 64, 0, 9), (7, 53, 1, 89), (7, 83, 0, 61), (5, 111, 0, 31), (3, 83, 0, 32), (7, 86, 0, 71), (5, 165, 0, 85), (5, 191, 0, 43), (7, 89, 0, 70), (7, 56, 1, 90), (7, 92, 0, 72), (5, 114, 0, 84), (5, 168, 0, 38), (3, 119, 0, 11), (3, 122, 0, 39), (7, 96, 0, 62), (5, 118, 0, 36), (3, 108, 0, 38), (3, 112, 0, 37), (3, 116, 0, 18), (7, 60, 0, 63), (5, 121, 0, 2), (0, 39, 0, 8), (0, 45, 0, 3), (0, 49, 0, 10), (0, 57, 1, 4), (0, 60, 7, 0), (0, 65, 0, 5), (0, 69, 0, 11), (0, 72, 9, 0), (0, 75, 0, 38), (5, 139, 0, 37), (7, 64, 0, 73), (5, 171, 0, 1), (7, 107, 1, 93), (7, 99, 1, 91), (7, 121, 1, 92)]
def zNt : List (Nat × Nat × Nat × Nat) := [(7, 10, 5, 7), (5, 9, 3, 11), (3, 9, 1, 2), (5, 26, 2, 2), (2, 9, 3, 11), (5, 33, 4, 2), (5, 40, 0, 6)]
def zKt : List (Nat × Nat × Nat × Nat) := [(7, 7, 40503, 0), (7, 8, 2147483647, 0)]
def zDf : List (List Value) := [[.int 0, .int 0, .int 0, .int 0, .int 0, .int 0], [.null, .null], [.null, .int 0], [.null, .int 0, .null, .null, .null, .null, .int 0, .int 0, .int 0, .int 0, .int 0], [.null, .int 0], [.null, .null, .null, .int 0, .null, .null, .null]]
def zT : Nat → u_T
  | 0 => TX0
  | 1 => TX1
  | 2 => TX2
  | 3 => TX3
  | 4 => TX4
  | _ => TX5
def zTy : Nat → Nat → FieldType
  | 0 => tyX0
  | 1 => tyX1
  | 2 => tyX2
  | 3 => tyX3
  | 4 => tyX4
  | _ => tyX5
def zcn : Nat → String
  | 0 => RX0
  | 1 => RX1
  | 2 => RX2
  | 3 => RX3
  | 4 => RX4
  | 5 => RX5
  | _ => RL
def zcl : List vw_C := [(RX0, TX0, 6), (RX1, TX1, 2), (RX2, TX2, 2), (RX3, TX3, 11), (RX4, TX4, 2), (RX5, TX5, 7)]
/-! the meaning of the instructions that occur, over a heap as a list of cells: a row of ints, a row of references, an object (number of its class, its fields); a reference is a cell's number; '.retAddr' is the law's script -/
abbrev zAC : Type := List Int32 ⊕ (List (Option Nat) ⊕ (Nat × List Value))
abbrev zAW : Type := List zAC
abbrev zLs : Type := List (Option Value)
abbrev zRs : Type := Option Value × zAW
abbrev zNx : Type := (Nat × zLs × List Value × zAW) ⊕ ((Nat × List Value × zLs × List Value) ⊕ Option Value)
def zfind : zC1 → Nat → Option (Instr × Nat)
  | [], _ => none
  | e :: l, pc => if Nat.beq e.1 pc = true then some e.2 else zfind l pc
def zfind2 : List (Nat × Nat × Nat × Nat) → Nat → Nat → Option (Nat × Nat)
  | [], _, _ => none
  | e :: l, a, b => if Nat.beq e.1 a = true ∧ Nat.beq e.2.1 b = true then some e.2.2 else zfind2 l a b
theorem zfind_mem {l : zC1} {pc : Nat} {d : Instr × Nat} (h : zfind l pc = some d) : (pc, d) ∈ l := by
  induction l with
  | nil => cases h
  | cons e l ih =>
    unfold zfind at h
    split at h
    · rename_i hb
      cases h
      rw [← Nat.eq_of_beq_eq_true hb]
      exact List.mem_cons_self
    · exact List.mem_cons_of_mem _ (ih h)
theorem zfind2_mem {l : List (Nat × Nat × Nat × Nat)} {a b : Nat} {d : Nat × Nat} (h : zfind2 l a b = some d) : (a, b, d) ∈ l := by
  induction l with
  | nil => cases h
  | cons e l ih =>
    unfold zfind2 at h
    split at h
    · rename_i hb
      cases h
      rw [← Nat.eq_of_beq_eq_true hb.1, ← Nat.eq_of_beq_eq_true hb.2]
      exact List.mem_cons_self
    · exact List.mem_cons_of_mem _ (ih h)
def zgf (w : zAW) (a ci k : Nat) : Option Value := match w[a]? with
  | some (.inr (.inr (c, fs))) => if c = ci then fs[k]? else none
  | _ => none
def zpf (w : zAW) (a ci k : Nat) (v : Value) : Option zAW := match w[a]? with
  | some (.inr (.inr (c, fs))) => if c = ci ∧ k < fs.length then some (w.set a (.inr (.inr (c, fs.set k v)))) else none
  | _ => none
def zal (w : zAW) (a : Nat) (i : Int32) : Option Int32 := match w[a]? with
  | some (.inl l) => if i < 0 then none else l[i.toNatClampNeg]?
  | _ => none
def zas (w : zAW) (a : Nat) (i x : Int32) : Option zAW := match w[a]? with
  | some (.inl l) => if i < 0 ∨ l.length ≤ i.toNatClampNeg then none else some (w.set a (.inl (l.set i.toNatClampNeg x)))
  | _ => none
def zql (w : zAW) (a : Nat) (i : Int32) : Option Nat := match w[a]? with
  | some (.inr (.inl l)) => if i < 0 then none else match l[i.toNatClampNeg]? with
    | some (some r) => some r
    | _ => none
  | _ => none
def zqs (w : zAW) (a : Nat) (i : Int32) (r : Nat) : Option zAW := match w[a]? with
  | some (.inr (.inl l)) => if i < 0 ∨ l.length ≤ i.toNatClampNeg then none else match w[r]? with
    | some (.inr (.inr (3, _))) => some (w.set a (.inr (.inl (l.set i.toNatClampNeg (some r)))))
    | _ => none
  | _ => none
def zcpl (l0 l1 : List Int32) (sp dp n : Nat) : List Int32 := l1.take dp ++ ((l0.drop sp).take n ++ l1.drop (dp + n))
def zcp (w : zAW) (a0 : Nat) (sp : Int32) (a1 : Nat) (dp n : Int32) : Option zAW := match w[a0]?, w[a1]? with
  | some (.inl l0), some (.inl l1) => if sp < 0 ∨ dp < 0 ∨ n < 0 ∨ l0.length < sp.toNatClampNeg + n.toNatClampNeg ∨ l1.length < dp.toNatClampNeg + n.toNatClampNeg then none else some (w.set a1 (.inl (zcpl l0 l1 sp.toNatClampNeg dp.toNatClampNeg n.toNatClampNeg)))
  | _, _ => none
def zvfit : FieldType → Value → Bool
  | .int, .int _ => true
  | .boolean, .int x => x == 0 || x == 1
  | .object _, .ref _ => true
  | .array _, .ref _ => true
  | _, _ => false
def zrok : Option FieldType → Int32 → Bool
  | some .int, _ => true
  | some .boolean, x => x == 0 || x == 1
  | _, _ => false
def zpok (r : zRec) (ci k : Nat) (v : Value) : Bool := zvfit (zTy ci k) v && (!(zT ci k).2.2.2 || (decide (r.1.name = "<init>") && decide (r.2.2.2.2.2.1 = ci)))
def zjmp (pc : Nat) (off : Int) (ls : zLs) (st : List Value) (w : zAW) : Option zNx := if 0 ≤ (pc : Int) + off then some (.inl (((pc : Int) + off).toNat, ls, st, w)) else none
def zcallV (r : zRec) (mj : Nat) (ls : zLs) (st : List Value) (w : zAW) : Option zNx := match zMs[mj]? with
  | some rj => match st.drop rj.2.2.2.2.2.2.2 with
    | .ref a :: rest => if rj.2.2.2.2.2.2.1 + 1 ≤ r.2.2.2.2.2.2.1 ∧ rest.length ≤ 8 ∧ mj < 95 ∧ rj.2.2.2.2.2.2.2 + 1 ≤ rj.2.2.1 then match w[a]? with
        | some (.inr (.inr (c, _))) => if c = rj.2.2.2.2.2.1 then some (.inr (.inl (mj, .ref a :: (st.take rj.2.2.2.2.2.2.2).reverse, ls, rest))) else none
        | _ => none
      else none
    | _ => none
  | none => none
def zcallS (mi : Nat) (r : zRec) (mj : Nat) (ls : zLs) (st : List Value) : Option zNx := match zMs[mj]? with
  | some rj => if rj.2.2.2.2.2.2.1 + 1 ≤ r.2.2.2.2.2.2.1 ∧ st.length ≤ 8 + rj.2.2.2.2.2.2.2 ∧ rj.2.2.2.2.2.2.2 ≤ st.length ∧ (mj < 95 ∨ (mj = 95 ∧ mi = 96)) ∧ rj.2.2.2.2.2.2.2 ≤ rj.2.2.1 then some (.inr (.inl (mj, (st.take rj.2.2.2.2.2.2.2).reverse, ls, st.drop rj.2.2.2.2.2.2.2))) else none
  | none => none
def zcmp0 (c : ClassFile.Cond) (x : Int32) : Bool := match c with
  | .eq => decide (x = 0)
  | .ne => decide (¬ x = 0)
  | .lt => decide (x < 0)
  | .ge => decide (0 ≤ x)
  | .gt => decide (0 < x)
  | .le => decide (x ≤ 0)
def zcmp2 (c : ClassFile.Cond) (x y : Int32) : Bool := match c with
  | .eq => decide (x = y)
  | .ne => decide (¬ x = y)
  | .lt => decide (x < y)
  | .ge => decide (y ≤ x)
  | .gt => decide (y < x)
  | .le => decide (x ≤ y)
def zld (ls : zLs) (i : Nat) : Option Value := match ls[i]? with
  | some (some v) => some v
  | _ => none
def zbr (b : Bool) (pc : Nat) (off : Int) (ls : zLs) (st : List Value) (w : zAW) : Option zNx := match b with
  | true => zjmp pc off ls st w
  | false => if 0 ≤ (pc : Int) + off then some (.inl (pc + 3, ls, st, w)) else none
/-- one instruction d = (instruction, its length) of method mi (its record r) at pc -/
def zI (scr : List Int32) (mi : Nat) (r : zRec) (pc : Nat) (ls : zLs) (st : List Value) (w : zAW) (d : Instr × Nat) : Option zNx := match d with
  | (.iconst n, 1) => some (.inl (pc + 1, ls, .int (Int32.ofInt n) :: st, w))
  | (.bipush n, 2) => some (.inl (pc + 2, ls, .int (Int8.ofInt n).toInt32 :: st, w))
  | (.sipush n, 3) => some (.inl (pc + 3, ls, .int (Int16.ofInt n).toInt32 :: st, w))
  | (.iload_n k, 1) => match zld ls k with
    | some (.int x) => some (.inl (pc + 1, ls, .int x :: st, w))
    | _ => none
  | (.iload k, 2) => match zld ls k with
    | some (.int x) => some (.inl (pc + 2, ls, .int x :: st, w))
    | _ => none
  | (.aload_n k, 1) => match zld ls k with
    | some (.ref a) => some (.inl (pc + 1, ls, .ref a :: st, w))
    | some (.retAddr a) => some (.inl (pc + 1, ls, .retAddr a :: st, w))
    | _ => none
  | (.aload k, 2) => match zld ls k with
    | some (.ref a) => some (.inl (pc + 2, ls, .ref a :: st, w))
    | _ => none
  | (.ldc i, 2) => match zfind2 zKt r.2.2.2.2.2.1 i with
    | some q => some (.inl (pc + 2, ls, .int (Int32.ofNat q.1) :: st, w))
    | none => none
  | (.istore_n k, 1) => match st with
    | .int x :: t => if (k : Nat) < ls.length then some (.inl (pc + 1, ls.set k (some (.int x)), t, w)) else none
    | _ => none
  | (.istore k, 2) => match st with
    | .int x :: t => if k < ls.length then some (.inl (pc + 2, ls.set k (some (.int x)), t, w)) else none
    | _ => none
  | (.astore_n k, 1) => match st with
    | .ref x :: t => if (k : Nat) < ls.length then some (.inl (pc + 1, ls.set k (some (.ref x)), t, w)) else none
    | _ => none
  | (.astore k, 2) => match st with
    | .ref x :: t => if k < ls.length then some (.inl (pc + 2, ls.set k (some (.ref x)), t, w)) else none
    | _ => none
  | (.iinc k n, 3) => match zld ls k with
    | some (.int x) => some (.inl (pc + 3, ls.set k (some (.int (x + Int32.ofInt n))), st, w))
    | _ => none
  | (.iadd, 1) => match st with
    | .int y :: .int x :: t => some (.inl (pc + 1, ls, .int (x + y) :: t, w))
    | _ => none
  | (.isub, 1) => match st with
    | .int y :: .int x :: t => some (.inl (pc + 1, ls, .int (x - y) :: t, w))
    | _ => none
  | (.imul, 1) => match st with
    | .int y :: .int x :: t => some (.inl (pc + 1, ls, .int (x * y) :: t, w))
    | _ => none
  | (.iand, 1) => match st with
    | .int y :: .int x :: t => some (.inl (pc + 1, ls, .int (x &&& y) :: t, w))
    | _ => none
  | (.ior, 1) => match st with
    | .int y :: .int x :: t => some (.inl (pc + 1, ls, .int (x ||| y) :: t, w))
    | _ => none
  | (.ishl, 1) => match st with
    | .int y :: .int x :: t => some (.inl (pc + 1, ls, .int (x <<< (y &&& 31)) :: t, w))
    | _ => none
  | (.ishr, 1) => match st with
    | .int y :: .int x :: t => some (.inl (pc + 1, ls, .int (x >>> (y &&& 31)) :: t, w))
    | _ => none
  | (.idiv, 1) => match st with
    | .int y :: .int x :: t => if y = 0 then none else some (.inl (pc + 1, ls, .int (x / y) :: t, w))
    | _ => none
  | (.irem, 1) => match st with
    | .int y :: .int x :: t => if y = 0 then none else some (.inl (pc + 1, ls, .int (x - x / y * y) :: t, w))
    | _ => none
  | (.ineg, 1) => match st with
    | .int x :: t => some (.inl (pc + 1, ls, .int (-x) :: t, w))
    | _ => none
  | (.dup, 1) => match st with
    | x :: t => some (.inl (pc + 1, ls, x :: x :: t, w))
    | _ => none
  | (.dup2, 1) => match st with
    | x :: y :: t => some (.inl (pc + 1, ls, x :: y :: x :: y :: t, w))
    | _ => none
  | (.pop, 1) => match st with
    | _ :: t => some (.inl (pc + 1, ls, t, w))
    | _ => none
  | (.ifCond c off, 3) => match st with
    | .int x :: t => zbr (zcmp0 c x) pc off ls t w
    | _ => none
  | (.if_icmp c off, 3) => match st with
    | .int y :: .int x :: t => zbr (zcmp2 c x y) pc off ls t w
    | _ => none
  | (.goto off, 3) => zjmp pc off ls st w
  | (.getfield i, 3) => match st with
    | .ref a :: t => match zfind2 zFt r.2.2.2.2.2.1 i with
      | some q => match zgf w a q.1 q.2 with
        | some v => some (.inl (pc + 3, ls, v :: t, w))
        | none => none
      | none => none
    | _ => none
  | (.putfield i, 3) => match st with
    | v :: .ref a :: t => match zfind2 zFt r.2.2.2.2.2.1 i with
      | some q => if zpok r q.1 q.2 v = true then match zpf w a q.1 q.2 v with
          | some w' => some (.inl (pc + 3, ls, t, w'))
          | none => none
        else none
      | none => none
    | _ => none
  | (.iaload, 1) => match st with
    | .int i :: .ref a :: t => match zal w a i with
      | some x => some (.inl (pc + 1, ls, .int x :: t, w))
      | none => none
    | .int i :: .retAddr _ :: t => if 94 < mi ∧ ¬ i < 0 then match scr[i.toNatClampNeg]? with
        | some x => some (.inl (pc + 1, ls, .int x :: t, w))
        | none => none
      else none
    | _ => none
  | (.arraylength, 1) => match st with
    | .retAddr _ :: t => if 94 < mi then some (.inl (pc + 1, ls, .int (Int32.ofNat scr.length) :: t, w)) else none
    | _ => none
  | (.iastore, 1) => match st with
    | .int x :: .int i :: .ref a :: t => match zas w a i x with
      | some w' => some (.inl (pc + 1, ls, t, w'))
      | none => none
    | _ => none
  | (.aaload, 1) => match st with
    | .int i :: .ref a :: t => match zql w a i with
      | some x => some (.inl (pc + 1, ls, .ref x :: t, w))
      | none => none
    | _ => none
  | (.aastore, 1) => match st with
    | .ref x :: .int i :: .ref a :: t => match zqs w a i x with
      | some w' => some (.inl (pc + 1, ls, t, w'))
      | none => none
    | _ => none
  | (.new i, 3) => match zfind2 zNt r.2.2.2.2.2.1 i with
    | some q => match zDf[q.1]? with
      | some fs => some (.inl (pc + 3, ls, .ref w.length :: st, w ++ [.inr (.inr (q.1, fs))]))
      | none => none
    | none => none
  | (.newarray .int, 2) => match st with
    | .int n :: t => if ¬ n < 0 ∧ n.toNatClampNeg ≤ 1000 then some (.inl (pc + 2, ls, .ref w.length :: t, w ++ [.inl (List.replicate n.toNatClampNeg 0)])) else none
    | _ => none
  | (.anewarray i, 3) => match st with
    | .int n :: t => match zfind2 zNt r.2.2.2.2.2.1 i with
      | some (3, _) => if ¬ n < 0 ∧ n.toNatClampNeg ≤ 1000 then some (.inl (pc + 3, ls, .ref w.length :: t, w ++ [.inr (.inl (List.replicate n.toNatClampNeg none))])) else none
      | _ => none
    | _ => none
  | (.invokevirtual i, 3) => match zfind2 zCt r.2.2.2.2.2.1 i with
    | some (0, mj) => zcallV r mj ls st w
    | _ => none
  | (.invokespecial i, 3) => match zfind2 zCt r.2.2.2.2.2.1 i with
    | some (2, mj) => zcallV r mj ls st w
    | some (3, mj) => zcallV r mj ls st w
    | some (5, _) => match st with
      | .ref _ :: t => if t.length ≤ 8 ∧ 1 ≤ r.2.2.2.2.2.2.1 then some (.inl (pc + 3, ls, t, w)) else none
      | _ => none
    | _ => none
  | (.invokestatic i, 3) => match zfind2 zCt r.2.2.2.2.2.1 i with
    | some (1, mj) => zcallS mi r mj ls st
    | some (4, mj) => zcallS mi r mj ls st
    | some (6, _) => match st with
      | .int n :: .int dp :: .ref a1 :: .int sp :: .ref a0 :: t => if t.length ≤ 8 ∧ 1 ≤ r.2.2.2.2.2.2.1 then match zcp w a0 sp a1 dp n with
          | some w' => some (.inl (pc + 3, ls, t, w'))
          | none => none
        else none
      | _ => none
    | some (7, _) => match st with
      | .int y :: .int x :: t => if t.length ≤ 8 ∧ 1 ≤ r.2.2.2.2.2.2.1 then some (.inl (pc + 3, ls, .int (if x < y then y else x) :: t, w)) else none
      | _ => none
    | some (8, _) => match st with
      | .int y :: .int x :: t => if t.length ≤ 8 ∧ 1 ≤ r.2.2.2.2.2.2.1 then some (.inl (pc + 3, ls, .int (if y < x then y else x) :: t, w)) else none
      | _ => none
    | some (9, _) => match st with
      | .int x :: t => if t.length ≤ 8 ∧ 1 ≤ r.2.2.2.2.2.2.1 then some (.inl (pc + 3, ls, .int (if 0 ≤ x then x else 0 - x) :: t, w)) else none
      | _ => none
    | _ => none
  | (.ireturn, 1) => match st with
    | [.int x] => if zrok r.2.2.2.1 x = true then some (.inr (.inr (some (.int x)))) else none
    | _ => none
  | (.return_, 1) => match st with
    | [] => if r.2.2.2.1 = none then some (.inr (.inr none)) else none
    | _ => none
  | (.tableswitch dflt lo hi offs, _) => match st with
    | .int x :: t => if x.toInt < lo ∨ hi < x.toInt then zjmp pc dflt ls t w else match offs[(x.toInt - lo).toNat]? with
      | some off => zjmp pc off ls t w
      | none => none
    | _ => none
  | (.lookupswitch dflt ps, _) => match st with
    | .int x :: t => if (ps.toList.zip (ps.toList.drop 1)).all (fun (a, next) => a.1 < next.1) = true then zjmp pc (Op.lookupswitch.offset ps.toList dflt x.toInt) ls t w else none
    | _ => none
  | _ => none
def zent (r : zRec) (as : List Value) : zLs := as.map some ++ List.replicate (r.2.2.1 - as.length) none
def zx (scr : List Int32) : Nat → Nat → Nat → zLs → List Value → zAW → Option zRs
  | 0, _, _, _, _, _ => none
  | n + 1, mi, pc, ls, st, w => match zMs[mi]? with
    | none => none
    | some r => match zfind r.2.2.2.2.1 pc with
      | none => none
      | some d => match zI scr mi r pc ls st w d with
        | none => none
        | some (.inl q) => zx scr n mi q.1 q.2.1 q.2.2.1 q.2.2.2
        | some (.inr (.inl q)) => match zMs[q.1]? with
          | none => none
          | some rj => match zx scr n q.1 0 (zent rj q.2.1) [] w with
            | none => none
            | some a => zx scr n mi (pc + 3) q.2.2.1 (a.1.toList ++ q.2.2.2) a.2
        | some (.inr (.inr rv)) => some (rv, w)

