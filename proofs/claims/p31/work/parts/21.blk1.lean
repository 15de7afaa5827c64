/-! yX3_playRound: 32, MarbleHeirs$State.playRound()I -/
set_option maxRecDepth 20000 in
theorem b32_0 {scr : List Int32} {w : zAW} {a0 : Nat} {f1 : Int32} (h1 : zgf w a0 3 1 = some (.int f1)) {g2 : Nat} (h2 : zgf w a0 3 0 = some (.ref g2)) (h3 : zob w g2 1 = true) {f3 : Int32} {w1 : zAW} (h4 : zC scr 8 [.ref g2, .int (nI 6)] w = some (some (.int f3), w1)) {f4 : Int32} (h5 : zgf w1 a0 3 1 = some (.int f4)) : zd scr 32 0 [some (.ref a0), none, none] [] w = if (if f3 < f1 then f3 else f1) < f4 then zd scr 32 25 [some (.ref a0), some (.int (if f3 < f1 then f3 else f1)), none] [] w1 else zd scr 32 29 [some (.ref a0), some (.int (if f3 < f1 then f3 else f1)), none] [] w1 := by
  refine Eq.trans (zd_aload_n zh32 rfl rfl) ?_
  refine Eq.trans (zd_getfield zh32 (ci := 3) (k := 1) rfl h1 rfl) ?_
  refine Eq.trans (zd_aload_n zh32 rfl rfl) ?_
  refine Eq.trans (zd_getfield zh32 (ci := 3) (k := 0) rfl h2 rfl) ?_
  refine Eq.trans (zd_bipush zh32 (v := (nI 6)) rfl rfl) ?_
  refine Eq.trans (zd_invVi zh32 zh8 rfl rfl ⟨Nat.le_of_ble_eq_true rfl, Nat.le_of_ble_eq_true rfl, Nat.le_of_ble_eq_true rfl, Nat.le_of_ble_eq_true rfl⟩ rfl h3 h4 rfl) ?_
  refine Eq.trans (zd_min zh32 rfl ⟨Nat.le_of_ble_eq_true rfl, Nat.le_of_ble_eq_true rfl⟩ rfl) ?_
  refine Eq.trans (zd_istore_n zh32 (ls' := [some (.ref a0), some (.int (if f3 < f1 then f3 else f1)), none]) (Nat.le_of_ble_eq_true rfl) rfl rfl) ?_
  refine Eq.trans (zd_iload_n zh32 rfl rfl) ?_
  refine Eq.trans (zd_aload_n zh32 rfl rfl) ?_
  refine Eq.trans (zd_getfield zh32 (ci := 3) (k := 1) rfl h5 rfl) ?_
  exact zd_icmpge zh32 (t := 29) (by decide) rfl
theorem b32_25 {scr : List Int32} {w : zAW} {a0 : Nat} {x1 : Int32}  : zd scr 32 25 [some (.ref a0), some (.int x1), none] [] w = if (nI 1) = 0 then zd scr 32 45 [some (.ref a0), some (.int x1), some (.int (nI 1))] [] w else zd scr 32 35 [some (.ref a0), some (.int x1), some (.int (nI 1))] [] w := by
  refine Eq.trans (zd_iconst zh32 (v := (nI 1)) rfl rfl) ?_
  refine Eq.trans (zd_goto zh32 (t := 30) (by decide) rfl) ?_
  refine Eq.trans (zd_istore_n zh32 (ls' := [some (.ref a0), some (.int x1), some (.int (nI 1))]) (Nat.le_of_ble_eq_true rfl) rfl rfl) ?_
  refine Eq.trans (zd_iload_n zh32 rfl rfl) ?_
  exact zd_ifeq zh32 (t := 45) (by decide) rfl
theorem b32_29 {scr : List Int32} {w : zAW} {a0 : Nat} {x1 : Int32}  : zd scr 32 29 [some (.ref a0), some (.int x1), none] [] w = if (nI 0) = 0 then zd scr 32 45 [some (.ref a0), some (.int x1), some (.int (nI 0))] [] w else zd scr 32 35 [some (.ref a0), some (.int x1), some (.int (nI 0))] [] w := by
  refine Eq.trans (zd_iconst zh32 (v := (nI 0)) rfl rfl) ?_
  refine Eq.trans (zd_istore_n zh32 (ls' := [some (.ref a0), some (.int x1), some (.int (nI 0))]) (Nat.le_of_ble_eq_true rfl) rfl rfl) ?_
  refine Eq.trans (zd_iload_n zh32 rfl rfl) ?_
  exact zd_ifeq zh32 (t := 45) (by decide) rfl
theorem b32_45 {scr : List Int32} {w : zAW} {a0 : Nat} {x1 : Int32} {x2 : Int32}  : zd scr 32 45 [some (.ref a0), some (.int x1), some (.int x2)] [] w = if x2 = 0 then zd scr 32 65 [some (.ref a0), some (.int x1), some (.int x2)] [] w else zd scr 32 49 [some (.ref a0), some (.int x1), some (.int x2)] [] w := by
  refine Eq.trans (zd_iload_n zh32 rfl rfl) ?_
  exact zd_ifeq zh32 (t := 65) (by decide) rfl
theorem b32_35 {scr : List Int32} {w : zAW} {a0 : Nat} {x1 : Int32} {x2 : Int32} {f1 : Int32} (h1 : zgf w a0 3 6 = some (.int f1)) : zd scr 32 35 [some (.ref a0), some (.int x1), some (.int x2)] [] w = if f1 = (nI 2) then zd scr 32 43 [some (.ref a0), some (.int x1), some (.int x2)] [] w else zd scr 32 45 [some (.ref a0), some (.int x1), some (.int x2)] [] w := by
  refine Eq.trans (zd_aload_n zh32 rfl rfl) ?_
  refine Eq.trans (zd_getfield zh32 (ci := 3) (k := 6) rfl h1 rfl) ?_
  refine Eq.trans (zd_iconst zh32 (v := (nI 2)) rfl rfl) ?_
  exact zd_icmpne zh32 (t := 45) (by decide) rfl
set_option maxRecDepth 20000 in
theorem b32_65 {scr : List Int32} {w : zAW} {a0 : Nat} {x1 : Int32} {x2 : Int32} (h1 : zob w a0 3 = true) {w1 : zAW} (h2 : zC scr 33 [.ref a0, .int x1] w = some (none, w1)) : zd scr 32 65 [some (.ref a0), some (.int x1), some (.int x2)] [] w = if 0 < x1 then zd scr 32 74 [some (.ref a0), some (.int x1), some (.int x2)] [] w1 else zd scr 32 98 [some (.ref a0), some (.int x1), some (.int x2)] [] w1 := by
  refine Eq.trans (zd_aload_n zh32 rfl rfl) ?_
  refine Eq.trans (zd_iload_n zh32 rfl rfl) ?_
  refine Eq.trans (zd_invVv zh32 zh33 rfl rfl ⟨Nat.le_of_ble_eq_true rfl, Nat.le_of_ble_eq_true rfl, Nat.le_of_ble_eq_true rfl, Nat.le_of_ble_eq_true rfl⟩ rfl h1 h2 rfl) ?_
  refine Eq.trans (zd_iload_n zh32 rfl rfl) ?_
  exact zd_ifle zh32 (t := 98) (by decide) rfl
theorem b32_49 {scr : List Int32} {w : zAW} {a0 : Nat} {x1 : Int32} {x2 : Int32} {f1 : Int32} (h1 : zgf w a0 3 6 = some (.int f1)) : zd scr 32 49 [some (.ref a0), some (.int x1), some (.int x2)] [] w = if f1 = (nI 1) then zd scr 32 57 [some (.ref a0), some (.int x1), some (.int x2)] [] w else zd scr 32 65 [some (.ref a0), some (.int x1), some (.int x2)] [] w := by
  refine Eq.trans (zd_aload_n zh32 rfl rfl) ?_
  refine Eq.trans (zd_getfield zh32 (ci := 3) (k := 6) rfl h1 rfl) ?_
  refine Eq.trans (zd_iconst zh32 (v := (nI 1)) rfl rfl) ?_
  exact zd_icmpne zh32 (t := 65) (by decide) rfl
theorem b32_43 {scr : List Int32} {w : zAW} {a0 : Nat} {x1 : Int32} {x2 : Int32}  : zd scr 32 43 [some (.ref a0), some (.int x1), some (.int x2)] [] w = some (some (.int (nI 0)), w) := by
  refine Eq.trans (zd_iconst zh32 (v := (nI 0)) rfl rfl) ?_
  exact zd_iret zh32 rfl rfl
set_option maxRecDepth 20000 in
theorem b32_74 {scr : List Int32} {w : zAW} {a0 : Nat} {x1 : Int32} {x2 : Int32} {g1 : Nat} (h1 : zgf w a0 3 4 = some (.ref g1)) {f2 : Int32} (h2 : zgf w a0 3 1 = some (.int f2)) {w1 : zAW} (h3 : zC scr 83 [.ref g1, .int (nI 0), .int (f2 - (nI 1))] w = some (none, w1)) {f3 : Int32} (h4 : zgf w1 a0 3 8 = some (.int f3)) {w2 : zAW} (h5 : zpf w1 a0 3 8 (.int (f3 + (nI 1))) = some w2) : zd scr 32 74 [some (.ref a0), some (.int x1), some (.int x2)] [] w = some (some (.int x1), w2) := by
  refine Eq.trans (zd_aload_n zh32 rfl rfl) ?_
  refine Eq.trans (zd_getfield zh32 (ci := 3) (k := 4) rfl h1 rfl) ?_
  refine Eq.trans (zd_iconst zh32 (v := (nI 0)) rfl rfl) ?_
  refine Eq.trans (zd_aload_n zh32 rfl rfl) ?_
  refine Eq.trans (zd_getfield zh32 (ci := 3) (k := 1) rfl h2 rfl) ?_
  refine Eq.trans (zd_iconst zh32 (v := (nI 1)) rfl rfl) ?_
  refine Eq.trans (zd_isub zh32 rfl) ?_
  refine Eq.trans (zd_invTv zh32 zh83 rfl rfl ⟨Nat.le_of_ble_eq_true rfl, Nat.le_of_ble_eq_true rfl, Nat.le_of_ble_eq_true rfl, Or.inl (Nat.le_of_ble_eq_true rfl), Nat.le_of_ble_eq_true rfl⟩ rfl h3 rfl) ?_
  refine Eq.trans (zd_aload_n zh32 rfl rfl) ?_
  refine Eq.trans (zd_dup zh32 rfl) ?_
  refine Eq.trans (zd_getfield zh32 (ci := 3) (k := 8) rfl h4 rfl) ?_
  refine Eq.trans (zd_iconst zh32 (v := (nI 1)) rfl rfl) ?_
  refine Eq.trans (zd_iadd zh32 rfl) ?_
  refine Eq.trans (zd_putfield zh32 (ci := 3) (k := 8) rfl rfl h5 rfl) ?_
  refine Eq.trans (zd_iload_n zh32 rfl rfl) ?_
  exact zd_iret zh32 rfl rfl
theorem b32_98 {scr : List Int32} {w : zAW} {a0 : Nat} {x1 : Int32} {x2 : Int32}  : zd scr 32 98 [some (.ref a0), some (.int x1), some (.int x2)] [] w = some (some (.int x1), w) := by
  refine Eq.trans (zd_iload_n zh32 rfl rfl) ?_
  exact zd_iret zh32 rfl rfl
set_option maxRecDepth 20000 in
theorem b32_57 {scr : List Int32} {w : zAW} {a0 : Nat} {x1 : Int32} {x2 : Int32} (h1 : zob w a0 3 = true) {w1 : zAW} (h2 : zC scr 34 [.ref a0, .int x1] w = some (none, w1)) : zd scr 32 57 [some (.ref a0), some (.int x1), some (.int x2)] [] w = if 0 < x1 then zd scr 32 74 [some (.ref a0), some (.int x1), some (.int x2)] [] w1 else zd scr 32 98 [some (.ref a0), some (.int x1), some (.int x2)] [] w1 := by
  refine Eq.trans (zd_aload_n zh32 rfl rfl) ?_
  refine Eq.trans (zd_iload_n zh32 rfl rfl) ?_
  refine Eq.trans (zd_invVv zh32 zh34 rfl rfl ⟨Nat.le_of_ble_eq_true rfl, Nat.le_of_ble_eq_true rfl, Nat.le_of_ble_eq_true rfl, Nat.le_of_ble_eq_true rfl⟩ rfl h1 h2 rfl) ?_
  refine Eq.trans (zd_goto zh32 (t := 70) (by decide) rfl) ?_
  refine Eq.trans (zd_iload_n zh32 rfl rfl) ?_
  exact zd_ifle zh32 (t := 98) (by decide) rfl
/-! yX3_giveInOrder: 33, MarbleHeirs$State.giveInOrder(I)V -/
theorem b33_0 {scr : List Int32} {w : zAW} {a0 : Nat} {x1 : Int32}  : zd scr 33 0 [some (.ref a0), some (.int x1), none] [] w = zd scr 33 2 [some (.ref a0), some (.int x1), some (.int (nI 0))] [] w := by
  refine Eq.trans (zd_iconst zh33 (v := (nI 0)) rfl rfl) ?_
  refine Eq.trans (zd_istore_n zh33 (ls' := [some (.ref a0), some (.int x1), some (.int (nI 0))]) (Nat.le_of_ble_eq_true rfl) rfl rfl) ?_
  exact rfl
theorem b33_2 {scr : List Int32} {w : zAW} {a0 : Nat} {x1 : Int32} {x2 : Int32}  : zd scr 33 2 [some (.ref a0), some (.int x1), some (.int x2)] [] w = if x2 < x1 then zd scr 33 7 [some (.ref a0), some (.int x1), some (.int x2)] [] w else zd scr 33 26 [some (.ref a0), some (.int x1), some (.int x2)] [] w := by
  refine Eq.trans (zd_iload_n zh33 rfl rfl) ?_
  refine Eq.trans (zd_iload_n zh33 rfl rfl) ?_
  exact zd_icmpge zh33 (t := 26) (by decide) rfl
set_option maxRecDepth 20000 in
theorem b33_7 {scr : List Int32} {w : zAW} {a0 : Nat} {x1 : Int32} {x2 : Int32} {g1 : Nat} (h1 : zgf w a0 3 0 = some (.ref g1)) {g2 : Nat} (h2 : zgf w a0 3 4 = some (.ref g2)) {f3 : Int32} (h3 : zal w g2 x2 = some f3) (h4 : zob w g1 1 = true) {w1 : zAW} (h5 : zC scr 17 [.ref g1, .int f3] w = some (none, w1)) : zd scr 33 7 [some (.ref a0), some (.int x1), some (.int x2)] [] w = zd scr 33 2 [some (.ref a0), some (.int x1), some (.int (x2 + (nI 1)))] [] w1 := by
  refine Eq.trans (zd_aload_n zh33 rfl rfl) ?_
  refine Eq.trans (zd_getfield zh33 (ci := 3) (k := 0) rfl h1 rfl) ?_
  refine Eq.trans (zd_aload_n zh33 rfl rfl) ?_
  refine Eq.trans (zd_getfield zh33 (ci := 3) (k := 4) rfl h2 rfl) ?_
  refine Eq.trans (zd_iload_n zh33 rfl rfl) ?_
  refine Eq.trans (zd_iaload zh33 h3 rfl) ?_
  refine Eq.trans (zd_invVv zh33 zh17 rfl rfl ⟨Nat.le_of_ble_eq_true rfl, Nat.le_of_ble_eq_true rfl, Nat.le_of_ble_eq_true rfl, Nat.le_of_ble_eq_true rfl⟩ rfl h4 h5 rfl) ?_
  refine Eq.trans (zd_iinc zh33 (ls' := [some (.ref a0), some (.int x1), some (.int (x2 + (nI 1)))]) (v := (x2 + (nI 1))) rfl rfl rfl rfl) ?_
  refine Eq.trans (zd_goto zh33 (t := 2) (by decide) rfl) ?_
  exact rfl
theorem b33_26 {scr : List Int32} {w : zAW} {a0 : Nat} {x1 : Int32} {x2 : Int32}  : zd scr 33 26 [some (.ref a0), some (.int x1), some (.int x2)] [] w = some (none, w) := by
  exact zd_vret zh33 rfl rfl
/-! yX3_giveToPoorest: 34, MarbleHeirs$State.giveToPoorest(I)V -/
theorem b34_0 {scr : List Int32} {w : zAW} {a0 : Nat} {x1 : Int32}  : zd scr 34 0 [some (.ref a0), some (.int x1), none, none, none] [] w = zd scr 34 4 [some (.ref a0), some (.int x1), some (.int (nI 0)), some (.int (nI 0)), none] [] w := by
  refine Eq.trans (zd_iconst zh34 (v := (nI 0)) rfl rfl) ?_
  refine Eq.trans (zd_istore_n zh34 (ls' := [some (.ref a0), some (.int x1), some (.int (nI 0)), none, none]) (Nat.le_of_ble_eq_true rfl) rfl rfl) ?_
  refine Eq.trans (zd_iconst zh34 (v := (nI 0)) rfl rfl) ?_
  refine Eq.trans (zd_istore_n zh34 (ls' := [some (.ref a0), some (.int x1), some (.int (nI 0)), some (.int (nI 0)), none]) (Nat.le_of_ble_eq_true rfl) rfl rfl) ?_
  exact rfl
theorem b34_4 {scr : List Int32} {w : zAW} {a0 : Nat} {x1 : Int32} {x2 : Int32} {x3 : Int32} {v4 : Option Value}  : zd scr 34 4 [some (.ref a0), some (.int x1), some (.int x2), some (.int x3), v4] [] w = if x3 < x1 then zd scr 34 9 [some (.ref a0), some (.int x1), some (.int x2), some (.int x3), v4] [] w else zd scr 34 38 [some (.ref a0), some (.int x1), some (.int x2), some (.int x3), v4] [] w := by
  refine Eq.trans (zd_iload_n zh34 rfl rfl) ?_
  refine Eq.trans (zd_iload_n zh34 rfl rfl) ?_
  exact zd_icmpge zh34 (t := 38) (by decide) rfl
set_option maxRecDepth 20000 in
theorem b34_9 {scr : List Int32} {w : zAW} {a0 : Nat} {x1 : Int32} {x2 : Int32} {x3 : Int32} {v4 : Option Value} (h1 : zob w a0 3 = true) {f1 : Int32} {w1 : zAW} (h2 : zC scr 35 [.ref a0, .int x2] w = some (some (.int f1), w1)) {g2 : Nat} (h3 : zgf w1 a0 3 0 = some (.ref g2)) (h4 : zob w1 g2 1 = true) {w2 : zAW} (h5 : zC scr 17 [.ref g2, .int f1] w1 = some (none, w2)) : zd scr 34 9 [some (.ref a0), some (.int x1), some (.int x2), some (.int x3), v4] [] w = zd scr 34 4 [some (.ref a0), some (.int x1), some (.int (x2 ||| ((nI 1) <<< (f1 &&& 31)))), some (.int (x3 + (nI 1))), some (.int f1)] [] w2 := by
  refine Eq.trans (zd_aload_n zh34 rfl rfl) ?_
  refine Eq.trans (zd_iload_n zh34 rfl rfl) ?_
  refine Eq.trans (zd_invVi zh34 zh35 rfl rfl ⟨Nat.le_of_ble_eq_true rfl, Nat.le_of_ble_eq_true rfl, Nat.le_of_ble_eq_true rfl, Nat.le_of_ble_eq_true rfl⟩ rfl h1 h2 rfl) ?_
  refine Eq.trans (zd_istore zh34 (ls' := [some (.ref a0), some (.int x1), some (.int x2), some (.int x3), some (.int f1)]) (Nat.le_of_ble_eq_true rfl) rfl rfl) ?_
  refine Eq.trans (zd_aload_n zh34 rfl rfl) ?_
  refine Eq.trans (zd_getfield zh34 (ci := 3) (k := 0) rfl h3 rfl) ?_
  refine Eq.trans (zd_iload zh34 rfl rfl) ?_
  refine Eq.trans (zd_invVv zh34 zh17 rfl rfl ⟨Nat.le_of_ble_eq_true rfl, Nat.le_of_ble_eq_true rfl, Nat.le_of_ble_eq_true rfl, Nat.le_of_ble_eq_true rfl⟩ rfl h4 h5 rfl) ?_
  refine Eq.trans (zd_iload_n zh34 rfl rfl) ?_
  refine Eq.trans (zd_iconst zh34 (v := (nI 1)) rfl rfl) ?_
  refine Eq.trans (zd_iload zh34 rfl rfl) ?_
  refine Eq.trans (zd_ishl zh34 rfl) ?_
  refine Eq.trans (zd_ior zh34 rfl) ?_
  refine Eq.trans (zd_istore_n zh34 (ls' := [some (.ref a0), some (.int x1), some (.int (x2 ||| ((nI 1) <<< (f1 &&& 31)))), some (.int x3), some (.int f1)]) (Nat.le_of_ble_eq_true rfl) rfl rfl) ?_
  refine Eq.trans (zd_iinc zh34 (ls' := [some (.ref a0), some (.int x1), some (.int (x2 ||| ((nI 1) <<< (f1 &&& 31)))), some (.int (x3 + (nI 1))), some (.int f1)]) (v := (x3 + (nI 1))) rfl rfl rfl rfl) ?_
  refine Eq.trans (zd_goto zh34 (t := 4) (by decide) rfl) ?_
  exact rfl
theorem b34_38 {scr : List Int32} {w : zAW} {a0 : Nat} {x1 : Int32} {x2 : Int32} {x3 : Int32} {v4 : Option Value}  : zd scr 34 38 [some (.ref a0), some (.int x1), some (.int x2), some (.int x3), v4] [] w = some (none, w) := by
  exact zd_vret zh34 rfl rfl
/-! yX3_poorestBut: 35, MarbleHeirs$State.poorestBut(I)I -/
theorem b35_0 {scr : List Int32} {w : zAW} {a0 : Nat} {x1 : Int32}  : zd scr 35 0 [some (.ref a0), some (.int x1), none, none, none, none, none] [] w = zd scr 35 9 [some (.ref a0), some (.int x1), some (.int (nI 0)), some (.int (nI 1081)), some (.int (nI 0)), none, none] [] w := by
  refine Eq.trans (zd_iconst zh35 (v := (nI 0)) rfl rfl) ?_
  refine Eq.trans (zd_istore_n zh35 (ls' := [some (.ref a0), some (.int x1), some (.int (nI 0)), none, none, none, none]) (Nat.le_of_ble_eq_true rfl) rfl rfl) ?_
  refine Eq.trans (zd_sipush zh35 (v := (nI 1081)) rfl rfl) ?_
  refine Eq.trans (zd_istore_n zh35 (ls' := [some (.ref a0), some (.int x1), some (.int (nI 0)), some (.int (nI 1081)), none, none, none]) (Nat.le_of_ble_eq_true rfl) rfl rfl) ?_
  refine Eq.trans (zd_iconst zh35 (v := (nI 0)) rfl rfl) ?_
  refine Eq.trans (zd_istore zh35 (ls' := [some (.ref a0), some (.int x1), some (.int (nI 0)), some (.int (nI 1081)), some (.int (nI 0)), none, none]) (Nat.le_of_ble_eq_true rfl) rfl rfl) ?_
  exact rfl
theorem b35_9 {scr : List Int32} {w : zAW} {a0 : Nat} {x1 : Int32} {x2 : Int32} {x3 : Int32} {x4 : Int32} {v5 : Option Value} {v6 : Option Value} {f1 : Int32} (h1 : zgf w a0 3 1 = some (.int f1)) : zd scr 35 9 [some (.ref a0), some (.int x1), some (.int x2), some (.int x3), some (.int x4), v5, v6] [] w = if x4 < f1 then zd scr 35 18 [some (.ref a0), some (.int x1), some (.int x2), some (.int x3), some (.int x4), v5, v6] [] w else zd scr 35 65 [some (.ref a0), some (.int x1), some (.int x2), some (.int x3), some (.int x4), v5, v6] [] w := by
  refine Eq.trans (zd_iload zh35 rfl rfl) ?_
  refine Eq.trans (zd_aload_n zh35 rfl rfl) ?_
  refine Eq.trans (zd_getfield zh35 (ci := 3) (k := 1) rfl h1 rfl) ?_
  exact zd_icmpge zh35 (t := 65) (by decide) rfl
set_option maxRecDepth 20000 in
theorem b35_18 {scr : List Int32} {w : zAW} {a0 : Nat} {x1 : Int32} {x2 : Int32} {x3 : Int32} {x4 : Int32} {v5 : Option Value} {v6 : Option Value} {g1 : Nat} (h1 : zgf w a0 3 4 = some (.ref g1)) {f2 : Int32} (h2 : zal w g1 x4 = some f2) {g3 : Nat} (h3 : zgf w a0 3 0 = some (.ref g3)) (h4 : zob w g3 1 = true) {f4 : Int32} {w1 : zAW} (h5 : zC scr 13 [.ref g3, .int f2] w = some (some (.int f4), w1)) : zd scr 35 18 [some (.ref a0), some (.int x1), some (.int x2), some (.int x3), some (.int x4), v5, v6] [] w = if ((x1 >>> (f2 &&& 31)) &&& (nI 1)) = 0 then zd scr 35 47 [some (.ref a0), some (.int x1), some (.int x2), some (.int x3), some (.int x4), some (.int f2), some (.int f4)] [] w1 else zd scr 35 59 [some (.ref a0), some (.int x1), some (.int x2), some (.int x3), some (.int x4), some (.int f2), some (.int f4)] [] w1 := by
  refine Eq.trans (zd_aload_n zh35 rfl rfl) ?_
  refine Eq.trans (zd_getfield zh35 (ci := 3) (k := 4) rfl h1 rfl) ?_
  refine Eq.trans (zd_iload zh35 rfl rfl) ?_
  refine Eq.trans (zd_iaload zh35 h2 rfl) ?_
  refine Eq.trans (zd_istore zh35 (ls' := [some (.ref a0), some (.int x1), some (.int x2), some (.int x3), some (.int x4), some (.int f2), v6]) (Nat.le_of_ble_eq_true rfl) rfl rfl) ?_
  refine Eq.trans (zd_aload_n zh35 rfl rfl) ?_
  refine Eq.trans (zd_getfield zh35 (ci := 3) (k := 0) rfl h3 rfl) ?_
  refine Eq.trans (zd_iload zh35 rfl rfl) ?_
  refine Eq.trans (zd_invVi zh35 zh13 rfl rfl ⟨Nat.le_of_ble_eq_true rfl, Nat.le_of_ble_eq_true rfl, Nat.le_of_ble_eq_true rfl, Nat.le_of_ble_eq_true rfl⟩ rfl h4 h5 rfl) ?_
  refine Eq.trans (zd_istore zh35 (ls' := [some (.ref a0), some (.int x1), some (.int x2), some (.int x3), some (.int x4), some (.int f2), some (.int f4)]) (Nat.le_of_ble_eq_true rfl) rfl rfl) ?_
  refine Eq.trans (zd_iload_n zh35 rfl rfl) ?_
  refine Eq.trans (zd_iload zh35 rfl rfl) ?_
  refine Eq.trans (zd_ishr zh35 rfl) ?_
  refine Eq.trans (zd_iconst zh35 (v := (nI 1)) rfl rfl) ?_
  refine Eq.trans (zd_iand zh35 rfl) ?_
  exact zd_ifne zh35 (t := 59) (by decide) rfl
theorem b35_65 {scr : List Int32} {w : zAW} {a0 : Nat} {x1 : Int32} {x2 : Int32} {x3 : Int32} {x4 : Int32} {v5 : Option Value} {v6 : Option Value}  : zd scr 35 65 [some (.ref a0), some (.int x1), some (.int x2), some (.int x3), some (.int x4), v5, v6] [] w = some (some (.int x2), w) := by
  refine Eq.trans (zd_iload_n zh35 rfl rfl) ?_
  exact zd_iret zh35 rfl rfl
theorem b35_47 {scr : List Int32} {w : zAW} {a0 : Nat} {x1 : Int32} {x2 : Int32} {x3 : Int32} {x4 : Int32} {x5 : Int32} {x6 : Int32}  : zd scr 35 47 [some (.ref a0), some (.int x1), some (.int x2), some (.int x3), some (.int x4), some (.int x5), some (.int x6)] [] w = if x6 < x3 then zd scr 35 53 [some (.ref a0), some (.int x1), some (.int x2), some (.int x3), some (.int x4), some (.int x5), some (.int x6)] [] w else zd scr 35 59 [some (.ref a0), some (.int x1), some (.int x2), some (.int x3), some (.int x4), some (.int x5), some (.int x6)] [] w := by
  refine Eq.trans (zd_iload zh35 rfl rfl) ?_
  refine Eq.trans (zd_iload_n zh35 rfl rfl) ?_
  exact zd_icmpge zh35 (t := 59) (by decide) rfl
theorem b35_59 {scr : List Int32} {w : zAW} {a0 : Nat} {x1 : Int32} {x2 : Int32} {x3 : Int32} {x4 : Int32} {x5 : Int32} {x6 : Int32}  : zd scr 35 59 [some (.ref a0), some (.int x1), some (.int x2), some (.int x3), some (.int x4), some (.int x5), some (.int x6)] [] w = zd scr 35 9 [some (.ref a0), some (.int x1), some (.int x2), some (.int x3), some (.int (x4 + (nI 1))), some (.int x5), some (.int x6)] [] w := by
  refine Eq.trans (zd_iinc zh35 (ls' := [some (.ref a0), some (.int x1), some (.int x2), some (.int x3), some (.int (x4 + (nI 1))), some (.int x5), some (.int x6)]) (v := (x4 + (nI 1))) rfl rfl rfl rfl) ?_
  refine Eq.trans (zd_goto zh35 (t := 9) (by decide) rfl) ?_
  exact rfl
theorem b35_53 {scr : List Int32} {w : zAW} {a0 : Nat} {x1 : Int32} {x2 : Int32} {x3 : Int32} {x4 : Int32} {x5 : Int32} {x6 : Int32}  : zd scr 35 53 [some (.ref a0), some (.int x1), some (.int x2), some (.int x3), some (.int x4), some (.int x5), some (.int x6)] [] w = zd scr 35 9 [some (.ref a0), some (.int x1), some (.int x5), some (.int x6), some (.int (x4 + (nI 1))), some (.int x5), some (.int x6)] [] w := by
  refine Eq.trans (zd_iload zh35 rfl rfl) ?_
  refine Eq.trans (zd_istore_n zh35 (ls' := [some (.ref a0), some (.int x1), some (.int x5), some (.int x3), some (.int x4), some (.int x5), some (.int x6)]) (Nat.le_of_ble_eq_true rfl) rfl rfl) ?_
  refine Eq.trans (zd_iload zh35 rfl rfl) ?_
  refine Eq.trans (zd_istore_n zh35 (ls' := [some (.ref a0), some (.int x1), some (.int x5), some (.int x6), some (.int x4), some (.int x5), some (.int x6)]) (Nat.le_of_ble_eq_true rfl) rfl rfl) ?_
  refine Eq.trans (zd_iinc zh35 (ls' := [some (.ref a0), some (.int x1), some (.int x5), some (.int x6), some (.int (x4 + (nI 1))), some (.int x5), some (.int x6)]) (v := (x4 + (nI 1))) rfl rfl rfl rfl) ?_
  refine Eq.trans (zd_goto zh35 (t := 9) (by decide) rfl) ?_
  exact rfl
/-! yX3_exchangeUnlessVetoed: 36, MarbleHeirs$State.exchangeUnlessVetoed(IIII)I -/
set_option maxRecDepth 20000 in
theorem b36_0 {scr : List Int32} {w : zAW} {a0 : Nat} {x1 : Int32} {x2 : Int32} {x3 : Int32} {x4 : Int32} (h1 : zob w a0 3 = true) {f1 : Int32} {w1 : zAW} (h2 : zC scr 38 [.ref a0, .int x1, .int x2, .int x3, .int x4] w = some (some (.int f1), w1)) : zd scr 36 0 [some (.ref a0), some (.int x1), some (.int x2), some (.int x3), some (.int x4), none] [] w = if f1 = (-6) then zd scr 36 18 [some (.ref a0), some (.int x1), some (.int x2), some (.int x3), some (.int x4), some (.int f1)] [] w1 else zd scr 36 30 [some (.ref a0), some (.int x1), some (.int x2), some (.int x3), some (.int x4), some (.int f1)] [] w1 := by
  refine Eq.trans (zd_aload_n zh36 rfl rfl) ?_
  refine Eq.trans (zd_iload_n zh36 rfl rfl) ?_
  refine Eq.trans (zd_iload_n zh36 rfl rfl) ?_
  refine Eq.trans (zd_iload_n zh36 rfl rfl) ?_
  refine Eq.trans (zd_iload zh36 rfl rfl) ?_
  refine Eq.trans (zd_invVi zh36 zh38 rfl rfl ⟨Nat.le_of_ble_eq_true rfl, Nat.le_of_ble_eq_true rfl, Nat.le_of_ble_eq_true rfl, Nat.le_of_ble_eq_true rfl⟩ rfl h1 h2 rfl) ?_
  refine Eq.trans (zd_istore zh36 (ls' := [some (.ref a0), some (.int x1), some (.int x2), some (.int x3), some (.int x4), some (.int f1)]) (Nat.le_of_ble_eq_true rfl) rfl rfl) ?_
  refine Eq.trans (zd_iload zh36 rfl rfl) ?_
  refine Eq.trans (zd_bipush zh36 (v := (-6)) rfl rfl) ?_
  exact zd_icmpne zh36 (t := 30) (by decide) rfl
set_option maxRecDepth 20000 in
theorem b36_18 {scr : List Int32} {w : zAW} {a0 : Nat} {x1 : Int32} {x2 : Int32} {x3 : Int32} {x4 : Int32} {x5 : Int32} (h1 : zob w a0 3 = true) {w1 : zAW} (h2 : zC scr 37 [.ref a0, .int x1, .int x2, .int x3, .int x4] w = some (none, w1)) : zd scr 36 18 [some (.ref a0), some (.int x1), some (.int x2), some (.int x3), some (.int x4), some (.int x5)] [] w = some (some (.int x5), w1) := by
  refine Eq.trans (zd_aload_n zh36 rfl rfl) ?_
  refine Eq.trans (zd_iload_n zh36 rfl rfl) ?_
  refine Eq.trans (zd_iload_n zh36 rfl rfl) ?_
  refine Eq.trans (zd_iload_n zh36 rfl rfl) ?_
  refine Eq.trans (zd_iload zh36 rfl rfl) ?_
  refine Eq.trans (zd_invVv zh36 zh37 rfl rfl ⟨Nat.le_of_ble_eq_true rfl, Nat.le_of_ble_eq_true rfl, Nat.le_of_ble_eq_true rfl, Nat.le_of_ble_eq_true rfl⟩ rfl h1 h2 rfl) ?_
  refine Eq.trans (zd_goto zh36 (t := 51) (by decide) rfl) ?_
  refine Eq.trans (zd_iload zh36 rfl rfl) ?_
  exact zd_iret zh36 rfl rfl
theorem b36_30 {scr : List Int32} {w : zAW} {a0 : Nat} {x1 : Int32} {x2 : Int32} {x3 : Int32} {x4 : Int32} {x5 : Int32} {g1 : Nat} (h1 : zgf w a0 3 5 = some (.ref g1)) {f2 : Int32} (h2 : zal w g1 x5 = some f2) {w1 : zAW} (h3 : zas w g1 x5 (f2 - (nI 1)) = some w1) {f3 : Int32} (h4 : zgf w1 a0 3 10 = some (.int f3)) {w2 : zAW} (h5 : zpf w1 a0 3 10 (.int (f3 + (nI 1))) = some w2) : zd scr 36 30 [some (.ref a0), some (.int x1), some (.int x2), some (.int x3), some (.int x4), some (.int x5)] [] w = some (some (.int x5), w2) := by
  refine Eq.trans (zd_aload_n zh36 rfl rfl) ?_
  refine Eq.trans (zd_getfield zh36 (ci := 3) (k := 5) rfl h1 rfl) ?_
  refine Eq.trans (zd_iload zh36 rfl rfl) ?_
  refine Eq.trans (zd_dup2 zh36 rfl) ?_
  refine Eq.trans (zd_iaload zh36 h2 rfl) ?_
  refine Eq.trans (zd_iconst zh36 (v := (nI 1)) rfl rfl) ?_
  refine Eq.trans (zd_isub zh36 rfl) ?_
  refine Eq.trans (zd_iastore zh36 h3 rfl) ?_
  refine Eq.trans (zd_aload_n zh36 rfl rfl) ?_
  refine Eq.trans (zd_dup zh36 rfl) ?_
  refine Eq.trans (zd_getfield zh36 (ci := 3) (k := 10) rfl h4 rfl) ?_
  refine Eq.trans (zd_iconst zh36 (v := (nI 1)) rfl rfl) ?_
  refine Eq.trans (zd_iadd zh36 rfl) ?_
  refine Eq.trans (zd_putfield zh36 (ci := 3) (k := 10) rfl rfl h5 rfl) ?_
  refine Eq.trans (zd_iload zh36 rfl rfl) ?_
  exact zd_iret zh36 rfl rfl
/-! yX3_exchange: 37, MarbleHeirs$State.exchange(IIII)V -/
set_option maxRecDepth 20000 in
theorem b37_0 {scr : List Int32} {w : zAW} {a0 : Nat} {x1 : Int32} {x2 : Int32} {x3 : Int32} {x4 : Int32} {g1 : Nat} (h1 : zgf w a0 3 0 = some (.ref g1)) (h2 : zob w g1 1 = true) {w1 : zAW} (h3 : zC scr 18 [.ref g1, .int x1, .int x2, .int x3, .int x4] w = some (none, w1)) {f2 : Int32} (h4 : zgf w1 a0 3 9 = some (.int f2)) {w2 : zAW} (h5 : zpf w1 a0 3 9 (.int (f2 + (nI 1))) = some w2) : zd scr 37 0 [some (.ref a0), some (.int x1), some (.int x2), some (.int x3), some (.int x4)] [] w = some (none, w2) := by
  refine Eq.trans (zd_aload_n zh37 rfl rfl) ?_
  refine Eq.trans (zd_getfield zh37 (ci := 3) (k := 0) rfl h1 rfl) ?_
  refine Eq.trans (zd_iload_n zh37 rfl rfl) ?_
  refine Eq.trans (zd_iload_n zh37 rfl rfl) ?_
  refine Eq.trans (zd_iload_n zh37 rfl rfl) ?_
  refine Eq.trans (zd_iload zh37 rfl rfl) ?_
  refine Eq.trans (zd_invVv zh37 zh18 rfl rfl ⟨Nat.le_of_ble_eq_true rfl, Nat.le_of_ble_eq_true rfl, Nat.le_of_ble_eq_true rfl, Nat.le_of_ble_eq_true rfl⟩ rfl h2 h3 rfl) ?_
  refine Eq.trans (zd_aload_n zh37 rfl rfl) ?_
  refine Eq.trans (zd_dup zh37 rfl) ?_
  refine Eq.trans (zd_getfield zh37 (ci := 3) (k := 9) rfl h4 rfl) ?_
  refine Eq.trans (zd_iconst zh37 (v := (nI 1)) rfl rfl) ?_
  refine Eq.trans (zd_iadd zh37 rfl) ?_
  refine Eq.trans (zd_putfield zh37 (ci := 3) (k := 9) rfl rfl h5 rfl) ?_
  exact zd_vret zh37 rfl rfl
/-! yX3_vetoer: 38, MarbleHeirs$State.vetoer(IIII)I -/
set_option maxRecDepth 20000 in
theorem b38_0 {scr : List Int32} {w : zAW} {a0 : Nat} {x1 : Int32} {x2 : Int32} {x3 : Int32} {x4 : Int32} {g1 : Nat} (h1 : zgf w a0 3 0 = some (.ref g1)) (h2 : zob w g1 1 = true) {f2 : Int32} {w1 : zAW} (h3 : zC scr 11 [.ref g1, .int x1, .int x2] w = some (some (.int f2), w1)) {g3 : Nat} (h4 : zgf w1 a0 3 0 = some (.ref g3)) (h5 : zob w1 g3 1 = true) {f4 : Int32} {w2 : zAW} (h6 : zC scr 11 [.ref g3, .int x3, .int x4] w1 = some (some (.int f4), w2)) {g5 : Nat} (h7 : zgf w2 a0 3 2 = some (.ref g5)) {f6 : Int32} (h8 : zal w2 g5 x1 = some f6) (h9 : zob w2 a0 3 = true) {f7 : Int32} {w3 : zAW} (h10 : zC scr 39 [.ref a0, .int f6, .int (f2 - f4)] w2 = some (some (.int f7), w3)) : zd scr 38 0 [some (.ref a0), some (.int x1), some (.int x2), some (.int x3), some (.int x4), none] [] w = if f7 = 0 then zd scr 38 44 [some (.ref a0), some (.int x1), some (.int x2), some (.int x3), some (.int x4), some (.int (f2 - f4))] [] w3 else zd scr 38 37 [some (.ref a0), some (.int x1), some (.int x2), some (.int x3), some (.int x4), some (.int (f2 - f4))] [] w3 := by
  refine Eq.trans (zd_aload_n zh38 rfl rfl) ?_
  refine Eq.trans (zd_getfield zh38 (ci := 3) (k := 0) rfl h1 rfl) ?_
  refine Eq.trans (zd_iload_n zh38 rfl rfl) ?_
  refine Eq.trans (zd_iload_n zh38 rfl rfl) ?_
  refine Eq.trans (zd_invVi zh38 zh11 rfl rfl ⟨Nat.le_of_ble_eq_true rfl, Nat.le_of_ble_eq_true rfl, Nat.le_of_ble_eq_true rfl, Nat.le_of_ble_eq_true rfl⟩ rfl h2 h3 rfl) ?_
  refine Eq.trans (zd_aload_n zh38 rfl rfl) ?_
  refine Eq.trans (zd_getfield zh38 (ci := 3) (k := 0) rfl h4 rfl) ?_
  refine Eq.trans (zd_iload_n zh38 rfl rfl) ?_
  refine Eq.trans (zd_iload zh38 rfl rfl) ?_
  refine Eq.trans (zd_invVi zh38 zh11 rfl rfl ⟨Nat.le_of_ble_eq_true rfl, Nat.le_of_ble_eq_true rfl, Nat.le_of_ble_eq_true rfl, Nat.le_of_ble_eq_true rfl⟩ rfl h5 h6 rfl) ?_
  refine Eq.trans (zd_isub zh38 rfl) ?_
  refine Eq.trans (zd_istore zh38 (ls' := [some (.ref a0), some (.int x1), some (.int x2), some (.int x3), some (.int x4), some (.int (f2 - f4))]) (Nat.le_of_ble_eq_true rfl) rfl rfl) ?_
  refine Eq.trans (zd_aload_n zh38 rfl rfl) ?_
  refine Eq.trans (zd_aload_n zh38 rfl rfl) ?_
  refine Eq.trans (zd_getfield zh38 (ci := 3) (k := 2) rfl h7 rfl) ?_
  refine Eq.trans (zd_iload_n zh38 rfl rfl) ?_
  refine Eq.trans (zd_iaload zh38 h8 rfl) ?_
  refine Eq.trans (zd_iload zh38 rfl rfl) ?_
  refine Eq.trans (zd_invVi zh38 zh39 rfl rfl ⟨Nat.le_of_ble_eq_true rfl, Nat.le_of_ble_eq_true rfl, Nat.le_of_ble_eq_true rfl, Nat.le_of_ble_eq_true rfl⟩ rfl h9 h10 rfl) ?_
  exact zd_ifeq zh38 (t := 44) (by decide) rfl
set_option maxRecDepth 20000 in
theorem b38_44 {scr : List Int32} {w : zAW} {a0 : Nat} {x1 : Int32} {x2 : Int32} {x3 : Int32} {x4 : Int32} {x5 : Int32} {g1 : Nat} (h1 : zgf w a0 3 2 = some (.ref g1)) {f2 : Int32} (h2 : zal w g1 x3 = some f2) (h3 : zob w a0 3 = true) {f3 : Int32} {w1 : zAW} (h4 : zC scr 39 [.ref a0, .int f2, .int (-x5)] w = some (some (.int f3), w1)) : zd scr 38 44 [some (.ref a0), some (.int x1), some (.int x2), some (.int x3), some (.int x4), some (.int x5)] [] w = if f3 = 0 then zd scr 38 69 [some (.ref a0), some (.int x1), some (.int x2), some (.int x3), some (.int x4), some (.int x5)] [] w1 else zd scr 38 60 [some (.ref a0), some (.int x1), some (.int x2), some (.int x3), some (.int x4), some (.int x5)] [] w1 := by
  refine Eq.trans (zd_aload_n zh38 rfl rfl) ?_
  refine Eq.trans (zd_aload_n zh38 rfl rfl) ?_
  refine Eq.trans (zd_getfield zh38 (ci := 3) (k := 2) rfl h1 rfl) ?_
  refine Eq.trans (zd_iload_n zh38 rfl rfl) ?_
  refine Eq.trans (zd_iaload zh38 h2 rfl) ?_
  refine Eq.trans (zd_iload zh38 rfl rfl) ?_
  refine Eq.trans (zd_ineg zh38 rfl) ?_
  refine Eq.trans (zd_invVi zh38 zh39 rfl rfl ⟨Nat.le_of_ble_eq_true rfl, Nat.le_of_ble_eq_true rfl, Nat.le_of_ble_eq_true rfl, Nat.le_of_ble_eq_true rfl⟩ rfl h3 h4 rfl) ?_
  exact zd_ifeq zh38 (t := 69) (by decide) rfl
theorem b38_37 {scr : List Int32} {w : zAW} {a0 : Nat} {x1 : Int32} {x2 : Int32} {x3 : Int32} {x4 : Int32} {x5 : Int32} {g1 : Nat} (h1 : zgf w a0 3 2 = some (.ref g1)) {f2 : Int32} (h2 : zal w g1 x1 = some f2) : zd scr 38 37 [some (.ref a0), some (.int x1), some (.int x2), some (.int x3), some (.int x4), some (.int x5)] [] w = some (some (.int f2), w) := by
  refine Eq.trans (zd_aload_n zh38 rfl rfl) ?_
  refine Eq.trans (zd_getfield zh38 (ci := 3) (k := 2) rfl h1 rfl) ?_
  refine Eq.trans (zd_iload_n zh38 rfl rfl) ?_
  refine Eq.trans (zd_iaload zh38 h2 rfl) ?_
  exact zd_iret zh38 rfl rfl
theorem b38_69 {scr : List Int32} {w : zAW} {a0 : Nat} {x1 : Int32} {x2 : Int32} {x3 : Int32} {x4 : Int32} {x5 : Int32}  : zd scr 38 69 [some (.ref a0), some (.int x1), some (.int x2), some (.int x3), some (.int x4), some (.int x5)] [] w = some (some (.int (-6)), w) := by
  refine Eq.trans (zd_bipush zh38 (v := (-6)) rfl rfl) ?_
  exact zd_iret zh38 rfl rfl
theorem b38_60 {scr : List Int32} {w : zAW} {a0 : Nat} {x1 : Int32} {x2 : Int32} {x3 : Int32} {x4 : Int32} {x5 : Int32} {g1 : Nat} (h1 : zgf w a0 3 2 = some (.ref g1)) {f2 : Int32} (h2 : zal w g1 x3 = some f2) : zd scr 38 60 [some (.ref a0), some (.int x1), some (.int x2), some (.int x3), some (.int x4), some (.int x5)] [] w = some (some (.int f2), w) := by
  refine Eq.trans (zd_aload_n zh38 rfl rfl) ?_
  refine Eq.trans (zd_getfield zh38 (ci := 3) (k := 2) rfl h1 rfl) ?_
  refine Eq.trans (zd_iload_n zh38 rfl rfl) ?_
  refine Eq.trans (zd_iaload zh38 h2 rfl) ?_
  refine Eq.trans (zd_goto zh38 (t := 71) (by decide) rfl) ?_
  exact zd_iret zh38 rfl rfl
/-! yX3_objects: 39, MarbleHeirs$State.objects(II)Z -/
theorem b39_0 {scr : List Int32} {w : zAW} {a0 : Nat} {x1 : Int32} {x2 : Int32} {f1 : Int32} (h1 : zgf w a0 3 7 = some (.int f1)) : zd scr 39 0 [some (.ref a0), some (.int x1), some (.int x2)] [] w = if f1 < x2 then zd scr 39 8 [some (.ref a0), some (.int x1), some (.int x2)] [] w else zd scr 39 21 [some (.ref a0), some (.int x1), some (.int x2)] [] w := by
  refine Eq.trans (zd_iload_n zh39 rfl rfl) ?_
  refine Eq.trans (zd_aload_n zh39 rfl rfl) ?_
  refine Eq.trans (zd_getfield zh39 (ci := 3) (k := 7) rfl h1 rfl) ?_
  exact zd_icmple zh39 (t := 21) (by decide) rfl
theorem b39_8 {scr : List Int32} {w : zAW} {a0 : Nat} {x1 : Int32} {x2 : Int32} {g1 : Nat} (h1 : zgf w a0 3 5 = some (.ref g1)) {f2 : Int32} (h2 : zal w g1 x1 = some f2) : zd scr 39 8 [some (.ref a0), some (.int x1), some (.int x2)] [] w = if 0 < f2 then zd scr 39 17 [some (.ref a0), some (.int x1), some (.int x2)] [] w else zd scr 39 21 [some (.ref a0), some (.int x1), some (.int x2)] [] w := by
  refine Eq.trans (zd_aload_n zh39 rfl rfl) ?_
  refine Eq.trans (zd_getfield zh39 (ci := 3) (k := 5) rfl h1 rfl) ?_
  refine Eq.trans (zd_iload_n zh39 rfl rfl) ?_
  refine Eq.trans (zd_iaload zh39 h2 rfl) ?_
  exact zd_ifle zh39 (t := 21) (by decide) rfl
theorem b39_21 {scr : List Int32} {w : zAW} {a0 : Nat} {x1 : Int32} {x2 : Int32}  : zd scr 39 21 [some (.ref a0), some (.int x1), some (.int x2)] [] w = some (some (.int (nI 0)), w) := by
  refine Eq.trans (zd_iconst zh39 (v := (nI 0)) rfl rfl) ?_
  exact zd_iret zh39 rfl rfl
theorem b39_17 {scr : List Int32} {w : zAW} {a0 : Nat} {x1 : Int32} {x2 : Int32}  : zd scr 39 17 [some (.ref a0), some (.int x1), some (.int x2)] [] w = some (some (.int (nI 1)), w) := by
  refine Eq.trans (zd_iconst zh39 (v := (nI 1)) rfl rfl) ?_
  refine Eq.trans (zd_goto zh39 (t := 22) (by decide) rfl) ?_
  exact zd_iret zh39 rfl rfl
/-! yX3_about: 40, MarbleHeirs$State.about(II)I -/
theorem b40_0_c0 {scr : List Int32} {w : zAW} {a0 : Nat} {x1 : Int32} {x2 : Int32}  (hx : x2 = (nI 0)) : zd scr 40 0 [some (.ref a0), some (.int x1), some (.int x2)] [] w = zd scr 40 36 [some (.ref a0), some (.int x1), some (.int x2)] [] w := by
  refine Eq.trans (zd_iload_n zh40 rfl rfl) ?_
  exact zd_tabIn zh40 (off := 35) (by rw [hx]; decide) (by rw [hx]; rfl) (by decide) rfl
theorem b40_0_c1 {scr : List Int32} {w : zAW} {a0 : Nat} {x1 : Int32} {x2 : Int32}  (hx : x2 = (nI 1)) : zd scr 40 0 [some (.ref a0), some (.int x1), some (.int x2)] [] w = zd scr 40 43 [some (.ref a0), some (.int x1), some (.int x2)] [] w := by
  refine Eq.trans (zd_iload_n zh40 rfl rfl) ?_
  exact zd_tabIn zh40 (off := 42) (by rw [hx]; decide) (by rw [hx]; rfl) (by decide) rfl
theorem b40_0_c2 {scr : List Int32} {w : zAW} {a0 : Nat} {x1 : Int32} {x2 : Int32}  (hx : x2 = (nI 2)) : zd scr 40 0 [some (.ref a0), some (.int x1), some (.int x2)] [] w = zd scr 40 50 [some (.ref a0), some (.int x1), some (.int x2)] [] w := by
  refine Eq.trans (zd_iload_n zh40 rfl rfl) ?_
  exact zd_tabIn zh40 (off := 49) (by rw [hx]; decide) (by rw [hx]; rfl) (by decide) rfl
theorem b40_0_c3 {scr : List Int32} {w : zAW} {a0 : Nat} {x1 : Int32} {x2 : Int32}  (hx : x2 = (nI 3)) : zd scr 40 0 [some (.ref a0), some (.int x1), some (.int x2)] [] w = zd scr 40 59 [some (.ref a0), some (.int x1), some (.int x2)] [] w := by
  refine Eq.trans (zd_iload_n zh40 rfl rfl) ?_
  exact zd_tabIn zh40 (off := 58) (by rw [hx]; decide) (by rw [hx]; rfl) (by decide) rfl
theorem b40_0_c4 {scr : List Int32} {w : zAW} {a0 : Nat} {x1 : Int32} {x2 : Int32}  (hx : x2 = (nI 4)) : zd scr 40 0 [some (.ref a0), some (.int x1), some (.int x2)] [] w = zd scr 40 68 [some (.ref a0), some (.int x1), some (.int x2)] [] w := by
  refine Eq.trans (zd_iload_n zh40 rfl rfl) ?_
  exact zd_tabIn zh40 (off := 67) (by rw [hx]; decide) (by rw [hx]; rfl) (by decide) rfl
theorem b40_0_d {scr : List Int32} {w : zAW} {a0 : Nat} {x1 : Int32} {x2 : Int32}  (hx : (x2).toInt < 0 ∨ 4 < (x2).toInt) : zd scr 40 0 [some (.ref a0), some (.int x1), some (.int x2)] [] w = zd scr 40 83 [some (.ref a0), some (.int x1), some (.int x2)] [] w := by
  refine Eq.trans (zd_iload_n zh40 rfl rfl) ?_
  exact zd_tabOut zh40 hx (by decide) rfl
theorem b40_36 {scr : List Int32} {w : zAW} {a0 : Nat} {x1 : Int32} {x2 : Int32} {g1 : Nat} (h1 : zgf w a0 3 2 = some (.ref g1)) {f2 : Int32} (h2 : zal w g1 x1 = some f2) : zd scr 40 36 [some (.ref a0), some (.int x1), some (.int x2)] [] w = some (some (.int f2), w) := by
  refine Eq.trans (zd_aload_n zh40 rfl rfl) ?_
  refine Eq.trans (zd_getfield zh40 (ci := 3) (k := 2) rfl h1 rfl) ?_
  refine Eq.trans (zd_iload_n zh40 rfl rfl) ?_
  refine Eq.trans (zd_iaload zh40 h2 rfl) ?_
  exact zd_iret zh40 rfl rfl
theorem b40_43 {scr : List Int32} {w : zAW} {a0 : Nat} {x1 : Int32} {x2 : Int32} {g1 : Nat} (h1 : zgf w a0 3 3 = some (.ref g1)) {f2 : Int32} (h2 : zal w g1 x1 = some f2) : zd scr 40 43 [some (.ref a0), some (.int x1), some (.int x2)] [] w = some (some (.int f2), w) := by
  refine Eq.trans (zd_aload_n zh40 rfl rfl) ?_
  refine Eq.trans (zd_getfield zh40 (ci := 3) (k := 3) rfl h1 rfl) ?_
  refine Eq.trans (zd_iload_n zh40 rfl rfl) ?_
  refine Eq.trans (zd_iaload zh40 h2 rfl) ?_
  exact zd_iret zh40 rfl rfl
set_option maxRecDepth 20000 in
theorem b40_50 {scr : List Int32} {w : zAW} {a0 : Nat} {x1 : Int32} {x2 : Int32} {g1 : Nat} (h1 : zgf w a0 3 0 = some (.ref g1)) (h2 : zob w g1 1 = true) {f2 : Int32} {w1 : zAW} (h3 : zC scr 8 [.ref g1, .int x1] w = some (some (.int f2), w1)) : zd scr 40 50 [some (.ref a0), some (.int x1), some (.int x2)] [] w = some (some (.int f2), w1) := by
  refine Eq.trans (zd_aload_n zh40 rfl rfl) ?_
  refine Eq.trans (zd_getfield zh40 (ci := 3) (k := 0) rfl h1 rfl) ?_
  refine Eq.trans (zd_iload_n zh40 rfl rfl) ?_
  refine Eq.trans (zd_invVi zh40 zh8 rfl rfl ⟨Nat.le_of_ble_eq_true rfl, Nat.le_of_ble_eq_true rfl, Nat.le_of_ble_eq_true rfl, Nat.le_of_ble_eq_true rfl⟩ rfl h2 h3 rfl) ?_
  exact zd_iret zh40 rfl rfl
set_option maxRecDepth 20000 in
theorem b40_59 {scr : List Int32} {w : zAW} {a0 : Nat} {x1 : Int32} {x2 : Int32} {g1 : Nat} (h1 : zgf w a0 3 0 = some (.ref g1)) (h2 : zob w g1 1 = true) {f2 : Int32} {w1 : zAW} (h3 : zC scr 13 [.ref g1, .int x1] w = some (some (.int f2), w1)) : zd scr 40 59 [some (.ref a0), some (.int x1), some (.int x2)] [] w = some (some (.int f2), w1) := by
  refine Eq.trans (zd_aload_n zh40 rfl rfl) ?_
  refine Eq.trans (zd_getfield zh40 (ci := 3) (k := 0) rfl h1 rfl) ?_
  refine Eq.trans (zd_iload_n zh40 rfl rfl) ?_
  refine Eq.trans (zd_invVi zh40 zh13 rfl rfl ⟨Nat.le_of_ble_eq_true rfl, Nat.le_of_ble_eq_true rfl, Nat.le_of_ble_eq_true rfl, Nat.le_of_ble_eq_true rfl⟩ rfl h2 h3 rfl) ?_
  exact zd_iret zh40 rfl rfl
set_option maxRecDepth 20000 in
theorem b40_68 {scr : List Int32} {w : zAW} {a0 : Nat} {x1 : Int32} {x2 : Int32} {g1 : Nat} (h1 : zgf w a0 3 0 = some (.ref g1)) {g2 : Nat} (h2 : zgf w a0 3 3 = some (.ref g2)) {f3 : Int32} (h3 : zal w g2 x1 = some f3) (h4 : zob w g1 1 = true) {f4 : Int32} {w1 : zAW} (h5 : zC scr 14 [.ref g1, .int x1, .int f3] w = some (some (.int f4), w1)) : zd scr 40 68 [some (.ref a0), some (.int x1), some (.int x2)] [] w = some (some (.int f4), w1) := by
  refine Eq.trans (zd_aload_n zh40 rfl rfl) ?_
  refine Eq.trans (zd_getfield zh40 (ci := 3) (k := 0) rfl h1 rfl) ?_
  refine Eq.trans (zd_iload_n zh40 rfl rfl) ?_
  refine Eq.trans (zd_aload_n zh40 rfl rfl) ?_
  refine Eq.trans (zd_getfield zh40 (ci := 3) (k := 3) rfl h2 rfl) ?_
  refine Eq.trans (zd_iload_n zh40 rfl rfl) ?_
  refine Eq.trans (zd_iaload zh40 h3 rfl) ?_
  refine Eq.trans (zd_invVi zh40 zh14 rfl rfl ⟨Nat.le_of_ble_eq_true rfl, Nat.le_of_ble_eq_true rfl, Nat.le_of_ble_eq_true rfl, Nat.le_of_ble_eq_true rfl⟩ rfl h4 h5 rfl) ?_
  exact zd_iret zh40 rfl rfl
set_option maxRecDepth 20000 in
theorem b40_83 {scr : List Int32} {w : zAW} {a0 : Nat} {x1 : Int32} {x2 : Int32} (h1 : zob w a0 3 = true) {f1 : Int32} {w1 : zAW} (h2 : zC scr 30 [.ref a0, .int x1] w = some (some (.int f1), w1)) : zd scr 40 83 [some (.ref a0), some (.int x1), some (.int x2)] [] w = some (some (.int f1), w1) := by
  refine Eq.trans (zd_aload_n zh40 rfl rfl) ?_
  refine Eq.trans (zd_iload_n zh40 rfl rfl) ?_
  refine Eq.trans (zd_invVi zh40 zh30 rfl rfl ⟨Nat.le_of_ble_eq_true rfl, Nat.le_of_ble_eq_true rfl, Nat.le_of_ble_eq_true rfl, Nat.le_of_ble_eq_true rfl⟩ rfl h1 h2 rfl) ?_
  exact zd_iret zh40 rfl rfl
/-! yX3_figure: 41, MarbleHeirs$State.figure(I)I -/
theorem b41_0_c0 {scr : List Int32} {w : zAW} {a0 : Nat} {x1 : Int32}  (hx : x1 = (nI 0)) : zd scr 41 0 [some (.ref a0), some (.int x1)] [] w = zd scr 41 64 [some (.ref a0), some (.int x1)] [] w := by
  refine Eq.trans (zd_iload_n zh41 rfl rfl) ?_
  exact zd_tabIn zh41 (off := 63) (by rw [hx]; decide) (by rw [hx]; rfl) (by decide) rfl
theorem b41_0_c1 {scr : List Int32} {w : zAW} {a0 : Nat} {x1 : Int32}  (hx : x1 = (nI 1)) : zd scr 41 0 [some (.ref a0), some (.int x1)] [] w = zd scr 41 69 [some (.ref a0), some (.int x1)] [] w := by
  refine Eq.trans (zd_iload_n zh41 rfl rfl) ?_
  exact zd_tabIn zh41 (off := 68) (by rw [hx]; decide) (by rw [hx]; rfl) (by decide) rfl
theorem b41_0_c2 {scr : List Int32} {w : zAW} {a0 : Nat} {x1 : Int32}  (hx : x1 = (nI 2)) : zd scr 41 0 [some (.ref a0), some (.int x1)] [] w = zd scr 41 79 [some (.ref a0), some (.int x1)] [] w := by
  refine Eq.trans (zd_iload_n zh41 rfl rfl) ?_
  exact zd_tabIn zh41 (off := 78) (by rw [hx]; decide) (by rw [hx]; rfl) (by decide) rfl
theorem b41_0_c3 {scr : List Int32} {w : zAW} {a0 : Nat} {x1 : Int32}  (hx : x1 = (nI 3)) : zd scr 41 0 [some (.ref a0), some (.int x1)] [] w = zd scr 41 85 [some (.ref a0), some (.int x1)] [] w := by
  refine Eq.trans (zd_iload_n zh41 rfl rfl) ?_
  exact zd_tabIn zh41 (off := 84) (by rw [hx]; decide) (by rw [hx]; rfl) (by decide) rfl
theorem b41_0_c4 {scr : List Int32} {w : zAW} {a0 : Nat} {x1 : Int32}  (hx : x1 = (nI 4)) : zd scr 41 0 [some (.ref a0), some (.int x1)] [] w = zd scr 41 95 [some (.ref a0), some (.int x1)] [] w := by
  refine Eq.trans (zd_iload_n zh41 rfl rfl) ?_
  exact zd_tabIn zh41 (off := 94) (by rw [hx]; decide) (by rw [hx]; rfl) (by decide) rfl
theorem b41_0_c5 {scr : List Int32} {w : zAW} {a0 : Nat} {x1 : Int32}  (hx : x1 = (nI 5)) : zd scr 41 0 [some (.ref a0), some (.int x1)] [] w = zd scr 41 101 [some (.ref a0), some (.int x1)] [] w := by
  refine Eq.trans (zd_iload_n zh41 rfl rfl) ?_
  exact zd_tabIn zh41 (off := 100) (by rw [hx]; decide) (by rw [hx]; rfl) (by decide) rfl
theorem b41_0_c6 {scr : List Int32} {w : zAW} {a0 : Nat} {x1 : Int32}  (hx : x1 = (nI 6)) : zd scr 41 0 [some (.ref a0), some (.int x1)] [] w = zd scr 41 106 [some (.ref a0), some (.int x1)] [] w := by
  refine Eq.trans (zd_iload_n zh41 rfl rfl) ?_
  exact zd_tabIn zh41 (off := 105) (by rw [hx]; decide) (by rw [hx]; rfl) (by decide) rfl
theorem b41_0_c7 {scr : List Int32} {w : zAW} {a0 : Nat} {x1 : Int32}  (hx : x1 = (nI 7)) : zd scr 41 0 [some (.ref a0), some (.int x1)] [] w = zd scr 41 111 [some (.ref a0), some (.int x1)] [] w := by
  refine Eq.trans (zd_iload_n zh41 rfl rfl) ?_
  exact zd_tabIn zh41 (off := 110) (by rw [hx]; decide) (by rw [hx]; rfl) (by decide) rfl
theorem b41_0_c8 {scr : List Int32} {w : zAW} {a0 : Nat} {x1 : Int32}  (hx : x1 = (nI 8)) : zd scr 41 0 [some (.ref a0), some (.int x1)] [] w = zd scr 41 116 [some (.ref a0), some (.int x1)] [] w := by
  refine Eq.trans (zd_iload_n zh41 rfl rfl) ?_
  exact zd_tabIn zh41 (off := 115) (by rw [hx]; decide) (by rw [hx]; rfl) (by decide) rfl
theorem b41_0_c9 {scr : List Int32} {w : zAW} {a0 : Nat} {x1 : Int32}  (hx : x1 = (nI 9)) : zd scr 41 0 [some (.ref a0), some (.int x1)] [] w = zd scr 41 122 [some (.ref a0), some (.int x1)] [] w := by
  refine Eq.trans (zd_iload_n zh41 rfl rfl) ?_
  exact zd_tabIn zh41 (off := 121) (by rw [hx]; decide) (by rw [hx]; rfl) (by decide) rfl
theorem b41_0_c10 {scr : List Int32} {w : zAW} {a0 : Nat} {x1 : Int32}  (hx : x1 = (nI 10)) : zd scr 41 0 [some (.ref a0), some (.int x1)] [] w = zd scr 41 128 [some (.ref a0), some (.int x1)] [] w := by
  refine Eq.trans (zd_iload_n zh41 rfl rfl) ?_
  exact zd_tabIn zh41 (off := 127) (by rw [hx]; decide) (by rw [hx]; rfl) (by decide) rfl
theorem b41_0_c11 {scr : List Int32} {w : zAW} {a0 : Nat} {x1 : Int32}  (hx : x1 = (nI 11)) : zd scr 41 0 [some (.ref a0), some (.int x1)] [] w = zd scr 41 134 [some (.ref a0), some (.int x1)] [] w := by
  refine Eq.trans (zd_iload_n zh41 rfl rfl) ?_
  exact zd_tabIn zh41 (off := 133) (by rw [hx]; decide) (by rw [hx]; rfl) (by decide) rfl
theorem b41_0_d {scr : List Int32} {w : zAW} {a0 : Nat} {x1 : Int32}  (hx : (x1).toInt < 0 ∨ 11 < (x1).toInt) : zd scr 41 0 [some (.ref a0), some (.int x1)] [] w = zd scr 41 139 [some (.ref a0), some (.int x1)] [] w := by
  refine Eq.trans (zd_iload_n zh41 rfl rfl) ?_
  exact zd_tabOut zh41 hx (by decide) rfl
theorem b41_64 {scr : List Int32} {w : zAW} {a0 : Nat} {x1 : Int32} {f1 : Int32} (h1 : zgf w a0 3 1 = some (.int f1)) : zd scr 41 64 [some (.ref a0), some (.int x1)] [] w = some (some (.int f1), w) := by
  refine Eq.trans (zd_aload_n zh41 rfl rfl) ?_
  refine Eq.trans (zd_getfield zh41 (ci := 3) (k := 1) rfl h1 rfl) ?_
  exact zd_iret zh41 rfl rfl
set_option maxRecDepth 20000 in
theorem b41_69 {scr : List Int32} {w : zAW} {a0 : Nat} {x1 : Int32} {g1 : Nat} (h1 : zgf w a0 3 0 = some (.ref g1)) (h2 : zob w g1 1 = true) {f2 : Int32} {w1 : zAW} (h3 : zC scr 8 [.ref g1, .int (nI 6)] w = some (some (.int f2), w1)) : zd scr 41 69 [some (.ref a0), some (.int x1)] [] w = some (some (.int f2), w1) := by
  refine Eq.trans (zd_aload_n zh41 rfl rfl) ?_
  refine Eq.trans (zd_getfield zh41 (ci := 3) (k := 0) rfl h1 rfl) ?_
  refine Eq.trans (zd_bipush zh41 (v := (nI 6)) rfl rfl) ?_
  refine Eq.trans (zd_invVi zh41 zh8 rfl rfl ⟨Nat.le_of_ble_eq_true rfl, Nat.le_of_ble_eq_true rfl, Nat.le_of_ble_eq_true rfl, Nat.le_of_ble_eq_true rfl⟩ rfl h2 h3 rfl) ?_
  exact zd_iret zh41 rfl rfl
set_option maxRecDepth 20000 in
theorem b41_79 {scr : List Int32} {w : zAW} {a0 : Nat} {x1 : Int32} (h1 : zob w a0 3 = true) {f1 : Int32} {w1 : zAW} (h2 : zC scr 42 [.ref a0, .int (nI 2)] w = some (some (.int f1), w1)) : zd scr 41 79 [some (.ref a0), some (.int x1)] [] w = some (some (.int f1), w1) := by
  refine Eq.trans (zd_aload_n zh41 rfl rfl) ?_
  refine Eq.trans (zd_iconst zh41 (v := (nI 2)) rfl rfl) ?_
  refine Eq.trans (zd_invVi zh41 zh42 rfl rfl ⟨Nat.le_of_ble_eq_true rfl, Nat.le_of_ble_eq_true rfl, Nat.le_of_ble_eq_true rfl, Nat.le_of_ble_eq_true rfl⟩ rfl h1 h2 rfl) ?_
  exact zd_iret zh41 rfl rfl
set_option maxRecDepth 20000 in
theorem b41_85 {scr : List Int32} {w : zAW} {a0 : Nat} {x1 : Int32} {g1 : Nat} (h1 : zgf w a0 3 0 = some (.ref g1)) (h2 : zob w g1 1 = true) {f2 : Int32} {w1 : zAW} (h3 : zC scr 13 [.ref g1, .int (nI 6)] w = some (some (.int f2), w1)) : zd scr 41 85 [some (.ref a0), some (.int x1)] [] w = some (some (.int f2), w1) := by
  refine Eq.trans (zd_aload_n zh41 rfl rfl) ?_
  refine Eq.trans (zd_getfield zh41 (ci := 3) (k := 0) rfl h1 rfl) ?_
  refine Eq.trans (zd_bipush zh41 (v := (nI 6)) rfl rfl) ?_
  refine Eq.trans (zd_invVi zh41 zh13 rfl rfl ⟨Nat.le_of_ble_eq_true rfl, Nat.le_of_ble_eq_true rfl, Nat.le_of_ble_eq_true rfl, Nat.le_of_ble_eq_true rfl⟩ rfl h2 h3 rfl) ?_
  exact zd_iret zh41 rfl rfl
set_option maxRecDepth 20000 in
theorem b41_95 {scr : List Int32} {w : zAW} {a0 : Nat} {x1 : Int32} (h1 : zob w a0 3 = true) {f1 : Int32} {w1 : zAW} (h2 : zC scr 42 [.ref a0, .int (nI 3)] w = some (some (.int f1), w1)) : zd scr 41 95 [some (.ref a0), some (.int x1)] [] w = some (some (.int f1), w1) := by
  refine Eq.trans (zd_aload_n zh41 rfl rfl) ?_
  refine Eq.trans (zd_iconst zh41 (v := (nI 3)) rfl rfl) ?_
  refine Eq.trans (zd_invVi zh41 zh42 rfl rfl ⟨Nat.le_of_ble_eq_true rfl, Nat.le_of_ble_eq_true rfl, Nat.le_of_ble_eq_true rfl, Nat.le_of_ble_eq_true rfl⟩ rfl h1 h2 rfl) ?_
  exact zd_iret zh41 rfl rfl
theorem b41_101 {scr : List Int32} {w : zAW} {a0 : Nat} {x1 : Int32} {f1 : Int32} (h1 : zgf w a0 3 8 = some (.int f1)) : zd scr 41 101 [some (.ref a0), some (.int x1)] [] w = some (some (.int f1), w) := by
  refine Eq.trans (zd_aload_n zh41 rfl rfl) ?_
  refine Eq.trans (zd_getfield zh41 (ci := 3) (k := 8) rfl h1 rfl) ?_
  exact zd_iret zh41 rfl rfl
theorem b41_106 {scr : List Int32} {w : zAW} {a0 : Nat} {x1 : Int32} {f1 : Int32} (h1 : zgf w a0 3 9 = some (.int f1)) : zd scr 41 106 [some (.ref a0), some (.int x1)] [] w = some (some (.int f1), w) := by
  refine Eq.trans (zd_aload_n zh41 rfl rfl) ?_
  refine Eq.trans (zd_getfield zh41 (ci := 3) (k := 9) rfl h1 rfl) ?_
  exact zd_iret zh41 rfl rfl
theorem b41_111 {scr : List Int32} {w : zAW} {a0 : Nat} {x1 : Int32} {f1 : Int32} (h1 : zgf w a0 3 10 = some (.int f1)) : zd scr 41 111 [some (.ref a0), some (.int x1)] [] w = some (some (.int f1), w) := by
  refine Eq.trans (zd_aload_n zh41 rfl rfl) ?_
  refine Eq.trans (zd_getfield zh41 (ci := 3) (k := 10) rfl h1 rfl) ?_
  exact zd_iret zh41 rfl rfl
set_option maxRecDepth 20000 in
theorem b41_116 {scr : List Int32} {w : zAW} {a0 : Nat} {x1 : Int32} (h1 : zob w a0 3 = true) {f1 : Int32} {w1 : zAW} (h2 : zC scr 42 [.ref a0, .int (nI 4)] w = some (some (.int f1), w1)) : zd scr 41 116 [some (.ref a0), some (.int x1)] [] w = some (some (.int f1), w1) := by
  refine Eq.trans (zd_aload_n zh41 rfl rfl) ?_
  refine Eq.trans (zd_iconst zh41 (v := (nI 4)) rfl rfl) ?_
  refine Eq.trans (zd_invVi zh41 zh42 rfl rfl ⟨Nat.le_of_ble_eq_true rfl, Nat.le_of_ble_eq_true rfl, Nat.le_of_ble_eq_true rfl, Nat.le_of_ble_eq_true rfl⟩ rfl h1 h2 rfl) ?_
  exact zd_iret zh41 rfl rfl
set_option maxRecDepth 20000 in
theorem b41_122 {scr : List Int32} {w : zAW} {a0 : Nat} {x1 : Int32} (h1 : zob w a0 3 = true) {f1 : Int32} {w1 : zAW} (h2 : zC scr 43 [.ref a0, .int (nI 2)] w = some (some (.int f1), w1)) : zd scr 41 122 [some (.ref a0), some (.int x1)] [] w = some (some (.int f1), w1) := by
  refine Eq.trans (zd_aload_n zh41 rfl rfl) ?_
  refine Eq.trans (zd_iconst zh41 (v := (nI 2)) rfl rfl) ?_
  refine Eq.trans (zd_invVi zh41 zh43 rfl rfl ⟨Nat.le_of_ble_eq_true rfl, Nat.le_of_ble_eq_true rfl, Nat.le_of_ble_eq_true rfl, Nat.le_of_ble_eq_true rfl⟩ rfl h1 h2 rfl) ?_
  exact zd_iret zh41 rfl rfl
set_option maxRecDepth 20000 in
theorem b41_128 {scr : List Int32} {w : zAW} {a0 : Nat} {x1 : Int32} (h1 : zob w a0 3 = true) {f1 : Int32} {w1 : zAW} (h2 : zC scr 43 [.ref a0, .int (nI 3)] w = some (some (.int f1), w1)) : zd scr 41 128 [some (.ref a0), some (.int x1)] [] w = some (some (.int f1), w1) := by
  refine Eq.trans (zd_aload_n zh41 rfl rfl) ?_
  refine Eq.trans (zd_iconst zh41 (v := (nI 3)) rfl rfl) ?_
  refine Eq.trans (zd_invVi zh41 zh43 rfl rfl ⟨Nat.le_of_ble_eq_true rfl, Nat.le_of_ble_eq_true rfl, Nat.le_of_ble_eq_true rfl, Nat.le_of_ble_eq_true rfl⟩ rfl h1 h2 rfl) ?_
  exact zd_iret zh41 rfl rfl
theorem b41_134 {scr : List Int32} {w : zAW} {a0 : Nat} {x1 : Int32} {f1 : Int32} (h1 : zgf w a0 3 6 = some (.int f1)) : zd scr 41 134 [some (.ref a0), some (.int x1)] [] w = some (some (.int f1), w) := by
  refine Eq.trans (zd_aload_n zh41 rfl rfl) ?_
  refine Eq.trans (zd_getfield zh41 (ci := 3) (k := 6) rfl h1 rfl) ?_
  exact zd_iret zh41 rfl rfl
theorem b41_139 {scr : List Int32} {w : zAW} {a0 : Nat} {x1 : Int32} {f1 : Int32} (h1 : zgf w a0 3 7 = some (.int f1)) : zd scr 41 139 [some (.ref a0), some (.int x1)] [] w = some (some (.int f1), w) := by
  refine Eq.trans (zd_aload_n zh41 rfl rfl) ?_
  refine Eq.trans (zd_getfield zh41 (ci := 3) (k := 7) rfl h1 rfl) ?_
  exact zd_iret zh41 rfl rfl
/-! yX3_overAll: 42, MarbleHeirs$State.overAll(I)I -/
theorem b42_0 {scr : List Int32} {w : zAW} {a0 : Nat} {x1 : Int32}  : zd scr 42 0 [some (.ref a0), some (.int x1), none, none] [] w = zd scr 42 4 [some (.ref a0), some (.int x1), some (.int (nI 0)), some (.int (nI 0))] [] w := by
  refine Eq.trans (zd_iconst zh42 (v := (nI 0)) rfl rfl) ?_
  refine Eq.trans (zd_istore_n zh42 (ls' := [some (.ref a0), some (.int x1), some (.int (nI 0)), none]) (Nat.le_of_ble_eq_true rfl) rfl rfl) ?_
  refine Eq.trans (zd_iconst zh42 (v := (nI 0)) rfl rfl) ?_
  refine Eq.trans (zd_istore_n zh42 (ls' := [some (.ref a0), some (.int x1), some (.int (nI 0)), some (.int (nI 0))]) (Nat.le_of_ble_eq_true rfl) rfl rfl) ?_
  exact rfl
theorem b42_4 {scr : List Int32} {w : zAW} {a0 : Nat} {x1 : Int32} {x2 : Int32} {x3 : Int32} {f1 : Int32} (h1 : zgf w a0 3 1 = some (.int f1)) : zd scr 42 4 [some (.ref a0), some (.int x1), some (.int x2), some (.int x3)] [] w = if x3 < f1 then zd scr 42 12 [some (.ref a0), some (.int x1), some (.int x2), some (.int x3)] [] w else zd scr 42 27 [some (.ref a0), some (.int x1), some (.int x2), some (.int x3)] [] w := by
  refine Eq.trans (zd_iload_n zh42 rfl rfl) ?_
  refine Eq.trans (zd_aload_n zh42 rfl rfl) ?_
  refine Eq.trans (zd_getfield zh42 (ci := 3) (k := 1) rfl h1 rfl) ?_
  exact zd_icmpge zh42 (t := 27) (by decide) rfl
set_option maxRecDepth 20000 in
theorem b42_12 {scr : List Int32} {w : zAW} {a0 : Nat} {x1 : Int32} {x2 : Int32} {x3 : Int32} (h1 : zob w a0 3 = true) {f1 : Int32} {w1 : zAW} (h2 : zC scr 40 [.ref a0, .int x3, .int x1] w = some (some (.int f1), w1)) : zd scr 42 12 [some (.ref a0), some (.int x1), some (.int x2), some (.int x3)] [] w = zd scr 42 4 [some (.ref a0), some (.int x1), some (.int (x2 + f1)), some (.int (x3 + (nI 1)))] [] w1 := by
  refine Eq.trans (zd_iload_n zh42 rfl rfl) ?_
  refine Eq.trans (zd_aload_n zh42 rfl rfl) ?_
  refine Eq.trans (zd_iload_n zh42 rfl rfl) ?_
  refine Eq.trans (zd_iload_n zh42 rfl rfl) ?_
  refine Eq.trans (zd_invVi zh42 zh40 rfl rfl ⟨Nat.le_of_ble_eq_true rfl, Nat.le_of_ble_eq_true rfl, Nat.le_of_ble_eq_true rfl, Nat.le_of_ble_eq_true rfl⟩ rfl h1 h2 rfl) ?_
  refine Eq.trans (zd_iadd zh42 rfl) ?_
  refine Eq.trans (zd_istore_n zh42 (ls' := [some (.ref a0), some (.int x1), some (.int (x2 + f1)), some (.int x3)]) (Nat.le_of_ble_eq_true rfl) rfl rfl) ?_
  refine Eq.trans (zd_iinc zh42 (ls' := [some (.ref a0), some (.int x1), some (.int (x2 + f1)), some (.int (x3 + (nI 1)))]) (v := (x3 + (nI 1))) rfl rfl rfl rfl) ?_
  refine Eq.trans (zd_goto zh42 (t := 4) (by decide) rfl) ?_
  exact rfl
theorem b42_27 {scr : List Int32} {w : zAW} {a0 : Nat} {x1 : Int32} {x2 : Int32} {x3 : Int32}  : zd scr 42 27 [some (.ref a0), some (.int x1), some (.int x2), some (.int x3)] [] w = some (some (.int x2), w) := by
  refine Eq.trans (zd_iload_n zh42 rfl rfl) ?_
  exact zd_iret zh42 rfl rfl
/-! yX3_spread: 43, MarbleHeirs$State.spread(I)I -/
theorem b43_0 {scr : List Int32} {w : zAW} {a0 : Nat} {x1 : Int32} {f1 : Int32} (h1 : zgf w a0 3 1 = some (.int f1)) : zd scr 43 0 [some (.ref a0), some (.int x1), none, none, none, none] [] w = if f1 = 0 then zd scr 43 7 [some (.ref a0), some (.int x1), none, none, none, none] [] w else zd scr 43 9 [some (.ref a0), some (.int x1), none, none, none, none] [] w := by
  refine Eq.trans (zd_aload_n zh43 rfl rfl) ?_
  refine Eq.trans (zd_getfield zh43 (ci := 3) (k := 1) rfl h1 rfl) ?_
  exact zd_ifne zh43 (t := 9) (by decide) rfl
theorem b43_21 {scr : List Int32} {w : zAW} {a0 : Nat} {x1 : Int32} {x2 : Int32} {x3 : Int32} {x4 : Int32} {v5 : Option Value} {f1 : Int32} (h1 : zgf w a0 3 1 = some (.int f1)) : zd scr 43 21 [some (.ref a0), some (.int x1), some (.int x2), some (.int x3), some (.int x4), v5] [] w = if x4 < f1 then zd scr 43 30 [some (.ref a0), some (.int x1), some (.int x2), some (.int x3), some (.int x4), v5] [] w else zd scr 43 59 [some (.ref a0), some (.int x1), some (.int x2), some (.int x3), some (.int x4), v5] [] w := by
  refine Eq.trans (zd_iload zh43 rfl rfl) ?_
  refine Eq.trans (zd_aload_n zh43 rfl rfl) ?_
  refine Eq.trans (zd_getfield zh43 (ci := 3) (k := 1) rfl h1 rfl) ?_
  exact zd_icmpge zh43 (t := 59) (by decide) rfl
theorem b43_7 {scr : List Int32} {w : zAW} {a0 : Nat} {x1 : Int32}  : zd scr 43 7 [some (.ref a0), some (.int x1), none, none, none, none] [] w = some (some (.int (nI 0)), w) := by
  refine Eq.trans (zd_iconst zh43 (v := (nI 0)) rfl rfl) ?_
  exact zd_iret zh43 rfl rfl
set_option maxRecDepth 20000 in
theorem b43_9 {scr : List Int32} {w : zAW} {a0 : Nat} {x1 : Int32} (h1 : zob w a0 3 = true) {f1 : Int32} {w1 : zAW} (h2 : zC scr 40 [.ref a0, .int (nI 0), .int x1] w = some (some (.int f1), w1)) : zd scr 43 9 [some (.ref a0), some (.int x1), none, none, none, none] [] w = zd scr 43 21 [some (.ref a0), some (.int x1), some (.int f1), some (.int f1), some (.int (nI 1)), none] [] w1 := by
  refine Eq.trans (zd_aload_n zh43 rfl rfl) ?_
  refine Eq.trans (zd_iconst zh43 (v := (nI 0)) rfl rfl) ?_
  refine Eq.trans (zd_iload_n zh43 rfl rfl) ?_
  refine Eq.trans (zd_invVi zh43 zh40 rfl rfl ⟨Nat.le_of_ble_eq_true rfl, Nat.le_of_ble_eq_true rfl, Nat.le_of_ble_eq_true rfl, Nat.le_of_ble_eq_true rfl⟩ rfl h1 h2 rfl) ?_
  refine Eq.trans (zd_istore_n zh43 (ls' := [some (.ref a0), some (.int x1), some (.int f1), none, none, none]) (Nat.le_of_ble_eq_true rfl) rfl rfl) ?_
  refine Eq.trans (zd_iload_n zh43 rfl rfl) ?_
  refine Eq.trans (zd_istore_n zh43 (ls' := [some (.ref a0), some (.int x1), some (.int f1), some (.int f1), none, none]) (Nat.le_of_ble_eq_true rfl) rfl rfl) ?_
  refine Eq.trans (zd_iconst zh43 (v := (nI 1)) rfl rfl) ?_
  refine Eq.trans (zd_istore zh43 (ls' := [some (.ref a0), some (.int x1), some (.int f1), some (.int f1), some (.int (nI 1)), none]) (Nat.le_of_ble_eq_true rfl) rfl rfl) ?_
  exact rfl
set_option maxRecDepth 20000 in
theorem b43_30 {scr : List Int32} {w : zAW} {a0 : Nat} {x1 : Int32} {x2 : Int32} {x3 : Int32} {x4 : Int32} {v5 : Option Value} (h1 : zob w a0 3 = true) {f1 : Int32} {w1 : zAW} (h2 : zC scr 40 [.ref a0, .int x4, .int x1] w = some (some (.int f1), w1)) : zd scr 43 30 [some (.ref a0), some (.int x1), some (.int x2), some (.int x3), some (.int x4), v5] [] w = zd scr 43 21 [some (.ref a0), some (.int x1), some (.int (if f1 < x2 then f1 else x2)), some (.int (if x3 < f1 then f1 else x3)), some (.int (x4 + (nI 1))), some (.int f1)] [] w1 := by
  refine Eq.trans (zd_aload_n zh43 rfl rfl) ?_
  refine Eq.trans (zd_iload zh43 rfl rfl) ?_
  refine Eq.trans (zd_iload_n zh43 rfl rfl) ?_
  refine Eq.trans (zd_invVi zh43 zh40 rfl rfl ⟨Nat.le_of_ble_eq_true rfl, Nat.le_of_ble_eq_true rfl, Nat.le_of_ble_eq_true rfl, Nat.le_of_ble_eq_true rfl⟩ rfl h1 h2 rfl) ?_
  refine Eq.trans (zd_istore zh43 (ls' := [some (.ref a0), some (.int x1), some (.int x2), some (.int x3), some (.int x4), some (.int f1)]) (Nat.le_of_ble_eq_true rfl) rfl rfl) ?_
  refine Eq.trans (zd_iload_n zh43 rfl rfl) ?_
  refine Eq.trans (zd_iload zh43 rfl rfl) ?_
  refine Eq.trans (zd_min zh43 rfl ⟨Nat.le_of_ble_eq_true rfl, Nat.le_of_ble_eq_true rfl⟩ rfl) ?_
  refine Eq.trans (zd_istore_n zh43 (ls' := [some (.ref a0), some (.int x1), some (.int (if f1 < x2 then f1 else x2)), some (.int x3), some (.int x4), some (.int f1)]) (Nat.le_of_ble_eq_true rfl) rfl rfl) ?_
  refine Eq.trans (zd_iload_n zh43 rfl rfl) ?_
  refine Eq.trans (zd_iload zh43 rfl rfl) ?_
  refine Eq.trans (zd_max zh43 rfl ⟨Nat.le_of_ble_eq_true rfl, Nat.le_of_ble_eq_true rfl⟩ rfl) ?_
  refine Eq.trans (zd_istore_n zh43 (ls' := [some (.ref a0), some (.int x1), some (.int (if f1 < x2 then f1 else x2)), some (.int (if x3 < f1 then f1 else x3)), some (.int x4), some (.int f1)]) (Nat.le_of_ble_eq_true rfl) rfl rfl) ?_
  refine Eq.trans (zd_iinc zh43 (ls' := [some (.ref a0), some (.int x1), some (.int (if f1 < x2 then f1 else x2)), some (.int (if x3 < f1 then f1 else x3)), some (.int (x4 + (nI 1))), some (.int f1)]) (v := (x4 + (nI 1))) rfl rfl rfl rfl) ?_
  refine Eq.trans (zd_goto zh43 (t := 21) (by decide) rfl) ?_
  exact rfl
theorem b43_59 {scr : List Int32} {w : zAW} {a0 : Nat} {x1 : Int32} {x2 : Int32} {x3 : Int32} {x4 : Int32} {v5 : Option Value}  : zd scr 43 59 [some (.ref a0), some (.int x1), some (.int x2), some (.int x3), some (.int x4), v5] [] w = some (some (.int (x3 - x2)), w) := by
  refine Eq.trans (zd_iload_n zh43 rfl rfl) ?_
  refine Eq.trans (zd_iload_n zh43 rfl rfl) ?_
  refine Eq.trans (zd_isub zh43 rfl) ?_
  exact zd_iret zh43 rfl rfl
/-! yX4_init: 44, MarbleHeirs$Text.<init>()V -/
/-! yX5_init: 52, MarbleHeirs.<init>()V -/
/-! yX5_come: 53, MarbleHeirs.come(II)I -/
set_option maxRecDepth 20000 in
theorem b53_0 {scr : List Int32} {w : zAW} {a0 : Nat} {x1 : Int32} {x2 : Int32} {f1 : Int32} {w1 : zAW} (h1 : zC scr 81 [.int x1] w = some (some (.int f1), w1)) : zd scr 53 0 [some (.ref a0), some (.int x1), some (.int x2)] [] w = if f1 = 0 then zd scr 53 7 [some (.ref a0), some (.int x1), some (.int x2)] [] w1 else zd scr 53 9 [some (.ref a0), some (.int x1), some (.int x2)] [] w1 := by
  refine Eq.trans (zd_iload_n zh53 rfl rfl) ?_
  refine Eq.trans (zd_invSi zh53 zh81 rfl rfl ⟨Nat.le_of_ble_eq_true rfl, Nat.le_of_ble_eq_true rfl, Nat.le_of_ble_eq_true rfl, Or.inl (Nat.le_of_ble_eq_true rfl), Nat.le_of_ble_eq_true rfl⟩ rfl h1 rfl) ?_
  exact zd_ifne zh53 (t := 9) (by decide) rfl
theorem b53_7 {scr : List Int32} {w : zAW} {a0 : Nat} {x1 : Int32} {x2 : Int32}  : zd scr 53 7 [some (.ref a0), some (.int x1), some (.int x2)] [] w = some (some (.int (-1)), w) := by
  refine Eq.trans (zd_iconst zh53 (v := (-1)) rfl rfl) ?_
  exact zd_iret zh53 rfl rfl
set_option maxRecDepth 20000 in
theorem b53_9 {scr : List Int32} {w : zAW} {a0 : Nat} {x1 : Int32} {x2 : Int32} {f1 : Int32} {w1 : zAW} (h1 : zC scr 82 [.int x2] w = some (some (.int f1), w1)) : zd scr 53 9 [some (.ref a0), some (.int x1), some (.int x2)] [] w = if f1 = 0 then zd scr 53 16 [some (.ref a0), some (.int x1), some (.int x2)] [] w1 else zd scr 53 19 [some (.ref a0), some (.int x1), some (.int x2)] [] w1 := by
  refine Eq.trans (zd_iload_n zh53 rfl rfl) ?_
  refine Eq.trans (zd_invSi zh53 zh82 rfl rfl ⟨Nat.le_of_ble_eq_true rfl, Nat.le_of_ble_eq_true rfl, Nat.le_of_ble_eq_true rfl, Or.inl (Nat.le_of_ble_eq_true rfl), Nat.le_of_ble_eq_true rfl⟩ rfl h1 rfl) ?_
  exact zd_ifne zh53 (t := 19) (by decide) rfl
theorem b53_16 {scr : List Int32} {w : zAW} {a0 : Nat} {x1 : Int32} {x2 : Int32}  : zd scr 53 16 [some (.ref a0), some (.int x1), some (.int x2)] [] w = some (some (.int (-2)), w) := by
  refine Eq.trans (zd_bipush zh53 (v := (-2)) rfl rfl) ?_
  exact zd_iret zh53 rfl rfl
theorem b53_19 {scr : List Int32} {w : zAW} {a0 : Nat} {x1 : Int32} {x2 : Int32} {g1 : Nat} (h1 : zgf w a0 5 0 = some (.ref g1)) {f2 : Int32} (h2 : zgf w g1 3 1 = some (.int f2)) : zd scr 53 19 [some (.ref a0), some (.int x1), some (.int x2)] [] w = if f2 < (nI 6) then zd scr 53 34 [some (.ref a0), some (.int x1), some (.int x2)] [] w else zd scr 53 31 [some (.ref a0), some (.int x1), some (.int x2)] [] w := by
  refine Eq.trans (zd_aload_n zh53 rfl rfl) ?_
  refine Eq.trans (zd_getfield zh53 (ci := 5) (k := 0) rfl h1 rfl) ?_
  refine Eq.trans (zd_getfield zh53 (ci := 3) (k := 1) rfl h2 rfl) ?_
  refine Eq.trans (zd_bipush zh53 (v := (nI 6)) rfl rfl) ?_
  exact zd_icmplt zh53 (t := 34) (by decide) rfl
set_option maxRecDepth 20000 in
theorem b53_34 {scr : List Int32} {w : zAW} {a0 : Nat} {x1 : Int32} {x2 : Int32} {g1 : Nat} (h1 : zgf w a0 5 4 = some (.ref g1)) {g2 : Nat} (h2 : zgf w a0 5 0 = some (.ref g2)) (h3 : zob w g1 2 = true) {w1 : zAW} (h4 : zC scr 21 [.ref g1, .ref g2] w = some (none, w1)) {g3 : Nat} (h5 : zgf w1 a0 5 0 = some (.ref g3)) (h6 : zob w1 g3 3 = true) {f4 : Int32} {w2 : zAW} (h7 : zC scr 28 [.ref g3, .int x1, .int x2] w1 = some (some (.int f4), w2)) : zd scr 53 34 [some (.ref a0), some (.int x1), some (.int x2)] [] w = some (some (.int f4), w2) := by
  refine Eq.trans (zd_aload_n zh53 rfl rfl) ?_
  refine Eq.trans (zd_getfield zh53 (ci := 5) (k := 4) rfl h1 rfl) ?_
  refine Eq.trans (zd_aload_n zh53 rfl rfl) ?_
  refine Eq.trans (zd_getfield zh53 (ci := 5) (k := 0) rfl h2 rfl) ?_
  refine Eq.trans (zd_invVv zh53 zh21 rfl rfl ⟨Nat.le_of_ble_eq_true rfl, Nat.le_of_ble_eq_true rfl, Nat.le_of_ble_eq_true rfl, Nat.le_of_ble_eq_true rfl⟩ rfl h3 h4 rfl) ?_
  refine Eq.trans (zd_aload_n zh53 rfl rfl) ?_
  refine Eq.trans (zd_getfield zh53 (ci := 5) (k := 0) rfl h5 rfl) ?_
  refine Eq.trans (zd_iload_n zh53 rfl rfl) ?_
  refine Eq.trans (zd_iload_n zh53 rfl rfl) ?_
  refine Eq.trans (zd_invVi zh53 zh28 rfl rfl ⟨Nat.le_of_ble_eq_true rfl, Nat.le_of_ble_eq_true rfl, Nat.le_of_ble_eq_true rfl, Nat.le_of_ble_eq_true rfl⟩ rfl h6 h7 rfl) ?_
  exact zd_iret zh53 rfl rfl
theorem b53_31 {scr : List Int32} {w : zAW} {a0 : Nat} {x1 : Int32} {x2 : Int32}  : zd scr 53 31 [some (.ref a0), some (.int x1), some (.int x2)] [] w = some (some (.int (-4)), w) := by
  refine Eq.trans (zd_bipush zh53 (v := (-4)) rfl rfl) ?_
  exact zd_iret zh53 rfl rfl
/-! yX5_leave: 54, MarbleHeirs.leave(I)I -/
set_option maxRecDepth 20000 in
theorem b54_0 {scr : List Int32} {w : zAW} {a0 : Nat} {x1 : Int32} {g1 : Nat} (h1 : zgf w a0 5 0 = some (.ref g1)) (h2 : zob w g1 3 = true) {f2 : Int32} {w1 : zAW} (h3 : zC scr 26 [.ref g1, .int x1] w = some (some (.int f2), w1)) : zd scr 54 0 [some (.ref a0), some (.int x1), none] [] w = if f2 = 0 then zd scr 54 11 [some (.ref a0), some (.int x1), none] [] w1 else zd scr 54 13 [some (.ref a0), some (.int x1), none] [] w1 := by
  refine Eq.trans (zd_aload_n zh54 rfl rfl) ?_
  refine Eq.trans (zd_getfield zh54 (ci := 5) (k := 0) rfl h1 rfl) ?_
  refine Eq.trans (zd_iload_n zh54 rfl rfl) ?_
  refine Eq.trans (zd_invVi zh54 zh26 rfl rfl ⟨Nat.le_of_ble_eq_true rfl, Nat.le_of_ble_eq_true rfl, Nat.le_of_ble_eq_true rfl, Nat.le_of_ble_eq_true rfl⟩ rfl h2 h3 rfl) ?_
  exact zd_ifne zh54 (t := 13) (by decide) rfl
theorem b54_11 {scr : List Int32} {w : zAW} {a0 : Nat} {x1 : Int32}  : zd scr 54 11 [some (.ref a0), some (.int x1), none] [] w = some (some (.int (-1)), w) := by
  refine Eq.trans (zd_iconst zh54 (v := (-1)) rfl rfl) ?_
  exact zd_iret zh54 rfl rfl
set_option maxRecDepth 20000 in
theorem b54_13 {scr : List Int32} {w : zAW} {a0 : Nat} {x1 : Int32} {g1 : Nat} (h1 : zgf w a0 5 0 = some (.ref g1)) {g2 : Nat} (h2 : zgf w g1 3 0 = some (.ref g2)) (h3 : zob w g2 1 = true) {f3 : Int32} {w1 : zAW} (h4 : zC scr 8 [.ref g2, .int x1] w = some (some (.int f3), w1)) {g4 : Nat} (h5 : zgf w1 a0 5 0 = some (.ref g4)) {g5 : Nat} (h6 : zgf w1 g4 3 0 = some (.ref g5)) (h7 : zob w1 g5 1 = true) {f6 : Int32} {w2 : zAW} (h8 : zC scr 8 [.ref g5, .int (nI 6)] w1 = some (some (.int f6), w2)) : zd scr 54 13 [some (.ref a0), some (.int x1), none] [] w = if (nI 40) < (f6 + f3) then zd scr 54 44 [some (.ref a0), some (.int x1), some (.int f3)] [] w2 else zd scr 54 47 [some (.ref a0), some (.int x1), some (.int f3)] [] w2 := by
  refine Eq.trans (zd_aload_n zh54 rfl rfl) ?_
  refine Eq.trans (zd_getfield zh54 (ci := 5) (k := 0) rfl h1 rfl) ?_
  refine Eq.trans (zd_getfield zh54 (ci := 3) (k := 0) rfl h2 rfl) ?_
  refine Eq.trans (zd_iload_n zh54 rfl rfl) ?_
  refine Eq.trans (zd_invVi zh54 zh8 rfl rfl ⟨Nat.le_of_ble_eq_true rfl, Nat.le_of_ble_eq_true rfl, Nat.le_of_ble_eq_true rfl, Nat.le_of_ble_eq_true rfl⟩ rfl h3 h4 rfl) ?_
  refine Eq.trans (zd_istore_n zh54 (ls' := [some (.ref a0), some (.int x1), some (.int f3)]) (Nat.le_of_ble_eq_true rfl) rfl rfl) ?_
  refine Eq.trans (zd_aload_n zh54 rfl rfl) ?_
  refine Eq.trans (zd_getfield zh54 (ci := 5) (k := 0) rfl h5 rfl) ?_
  refine Eq.trans (zd_getfield zh54 (ci := 3) (k := 0) rfl h6 rfl) ?_
  refine Eq.trans (zd_bipush zh54 (v := (nI 6)) rfl rfl) ?_
  refine Eq.trans (zd_invVi zh54 zh8 rfl rfl ⟨Nat.le_of_ble_eq_true rfl, Nat.le_of_ble_eq_true rfl, Nat.le_of_ble_eq_true rfl, Nat.le_of_ble_eq_true rfl⟩ rfl h7 h8 rfl) ?_
  refine Eq.trans (zd_iload_n zh54 rfl rfl) ?_
  refine Eq.trans (zd_iadd zh54 rfl) ?_
  refine Eq.trans (zd_bipush zh54 (v := (nI 40)) rfl rfl) ?_
  exact zd_icmple zh54 (t := 47) (by decide) rfl
theorem b54_44 {scr : List Int32} {w : zAW} {a0 : Nat} {x1 : Int32} {x2 : Int32}  : zd scr 54 44 [some (.ref a0), some (.int x1), some (.int x2)] [] w = some (some (.int (-4)), w) := by
  refine Eq.trans (zd_bipush zh54 (v := (-4)) rfl rfl) ?_
  exact zd_iret zh54 rfl rfl
set_option maxRecDepth 20000 in
theorem b54_47 {scr : List Int32} {w : zAW} {a0 : Nat} {x1 : Int32} {x2 : Int32} {g1 : Nat} (h1 : zgf w a0 5 4 = some (.ref g1)) {g2 : Nat} (h2 : zgf w a0 5 0 = some (.ref g2)) (h3 : zob w g1 2 = true) {w1 : zAW} (h4 : zC scr 21 [.ref g1, .ref g2] w = some (none, w1)) {g3 : Nat} (h5 : zgf w1 a0 5 0 = some (.ref g3)) (h6 : zob w1 g3 3 = true) {w2 : zAW} (h7 : zC scr 29 [.ref g3, .int x1] w1 = some (none, w2)) : zd scr 54 47 [some (.ref a0), some (.int x1), some (.int x2)] [] w = some (some (.int x2), w2) := by
  refine Eq.trans (zd_aload_n zh54 rfl rfl) ?_
  refine Eq.trans (zd_getfield zh54 (ci := 5) (k := 4) rfl h1 rfl) ?_
  refine Eq.trans (zd_aload_n zh54 rfl rfl) ?_
  refine Eq.trans (zd_getfield zh54 (ci := 5) (k := 0) rfl h2 rfl) ?_
  refine Eq.trans (zd_invVv zh54 zh21 rfl rfl ⟨Nat.le_of_ble_eq_true rfl, Nat.le_of_ble_eq_true rfl, Nat.le_of_ble_eq_true rfl, Nat.le_of_ble_eq_true rfl⟩ rfl h3 h4 rfl) ?_
  refine Eq.trans (zd_aload_n zh54 rfl rfl) ?_
  refine Eq.trans (zd_getfield zh54 (ci := 5) (k := 0) rfl h5 rfl) ?_
  refine Eq.trans (zd_iload_n zh54 rfl rfl) ?_
  refine Eq.trans (zd_invVv zh54 zh29 rfl rfl ⟨Nat.le_of_ble_eq_true rfl, Nat.le_of_ble_eq_true rfl, Nat.le_of_ble_eq_true rfl, Nat.le_of_ble_eq_true rfl⟩ rfl h6 h7 rfl) ?_
  refine Eq.trans (zd_iload_n zh54 rfl rfl) ?_
  exact zd_iret zh54 rfl rfl
/-! yX5_wish: 55, MarbleHeirs.wish(II)I -/
set_option maxRecDepth 20000 in
theorem b55_0 {scr : List Int32} {w : zAW} {a0 : Nat} {x1 : Int32} {x2 : Int32} {g1 : Nat} (h1 : zgf w a0 5 0 = some (.ref g1)) (h2 : zob w g1 3 = true) {f2 : Int32} {w1 : zAW} (h3 : zC scr 26 [.ref g1, .int x1] w = some (some (.int f2), w1)) : zd scr 55 0 [some (.ref a0), some (.int x1), some (.int x2)] [] w = if f2 = 0 then zd scr 55 11 [some (.ref a0), some (.int x1), some (.int x2)] [] w1 else zd scr 55 13 [some (.ref a0), some (.int x1), some (.int x2)] [] w1 := by
  refine Eq.trans (zd_aload_n zh55 rfl rfl) ?_
  refine Eq.trans (zd_getfield zh55 (ci := 5) (k := 0) rfl h1 rfl) ?_
  refine Eq.trans (zd_iload_n zh55 rfl rfl) ?_
  refine Eq.trans (zd_invVi zh55 zh26 rfl rfl ⟨Nat.le_of_ble_eq_true rfl, Nat.le_of_ble_eq_true rfl, Nat.le_of_ble_eq_true rfl, Nat.le_of_ble_eq_true rfl⟩ rfl h2 h3 rfl) ?_
  exact zd_ifne zh55 (t := 13) (by decide) rfl
theorem b55_11 {scr : List Int32} {w : zAW} {a0 : Nat} {x1 : Int32} {x2 : Int32}  : zd scr 55 11 [some (.ref a0), some (.int x1), some (.int x2)] [] w = some (some (.int (-1)), w) := by
  refine Eq.trans (zd_iconst zh55 (v := (-1)) rfl rfl) ?_
  exact zd_iret zh55 rfl rfl
set_option maxRecDepth 20000 in
theorem b55_13 {scr : List Int32} {w : zAW} {a0 : Nat} {x1 : Int32} {x2 : Int32} {f1 : Int32} {w1 : zAW} (h1 : zC scr 82 [.int x2] w = some (some (.int f1), w1)) : zd scr 55 13 [some (.ref a0), some (.int x1), some (.int x2)] [] w = if f1 = 0 then zd scr 55 20 [some (.ref a0), some (.int x1), some (.int x2)] [] w1 else zd scr 55 23 [some (.ref a0), some (.int x1), some (.int x2)] [] w1 := by
  refine Eq.trans (zd_iload_n zh55 rfl rfl) ?_
  refine Eq.trans (zd_invSi zh55 zh82 rfl rfl ⟨Nat.le_of_ble_eq_true rfl, Nat.le_of_ble_eq_true rfl, Nat.le_of_ble_eq_true rfl, Or.inl (Nat.le_of_ble_eq_true rfl), Nat.le_of_ble_eq_true rfl⟩ rfl h1 rfl) ?_
  exact zd_ifne zh55 (t := 23) (by decide) rfl
theorem b55_20 {scr : List Int32} {w : zAW} {a0 : Nat} {x1 : Int32} {x2 : Int32}  : zd scr 55 20 [some (.ref a0), some (.int x1), some (.int x2)] [] w = some (some (.int (-2)), w) := by
  refine Eq.trans (zd_bipush zh55 (v := (-2)) rfl rfl) ?_
  exact zd_iret zh55 rfl rfl
set_option maxRecDepth 20000 in
theorem b55_23 {scr : List Int32} {w : zAW} {a0 : Nat} {x1 : Int32} {x2 : Int32} {g1 : Nat} (h1 : zgf w a0 5 4 = some (.ref g1)) {g2 : Nat} (h2 : zgf w a0 5 0 = some (.ref g2)) (h3 : zob w g1 2 = true) {w1 : zAW} (h4 : zC scr 21 [.ref g1, .ref g2] w = some (none, w1)) {g3 : Nat} (h5 : zgf w1 a0 5 0 = some (.ref g3)) {g4 : Nat} (h6 : zgf w1 g3 3 3 = some (.ref g4)) {w2 : zAW} (h7 : zas w1 g4 x1 x2 = some w2) {g5 : Nat} (h8 : zgf w2 a0 5 0 = some (.ref g5)) {g6 : Nat} (h9 : zgf w2 g5 3 0 = some (.ref g6)) (h10 : zob w2 g6 1 = true) {f7 : Int32} {w3 : zAW} (h11 : zC scr 14 [.ref g6, .int x1, .int x2] w2 = some (some (.int f7), w3)) : zd scr 55 23 [some (.ref a0), some (.int x1), some (.int x2)] [] w = some (some (.int f7), w3) := by
  refine Eq.trans (zd_aload_n zh55 rfl rfl) ?_
  refine Eq.trans (zd_getfield zh55 (ci := 5) (k := 4) rfl h1 rfl) ?_
  refine Eq.trans (zd_aload_n zh55 rfl rfl) ?_
  refine Eq.trans (zd_getfield zh55 (ci := 5) (k := 0) rfl h2 rfl) ?_
  refine Eq.trans (zd_invVv zh55 zh21 rfl rfl ⟨Nat.le_of_ble_eq_true rfl, Nat.le_of_ble_eq_true rfl, Nat.le_of_ble_eq_true rfl, Nat.le_of_ble_eq_true rfl⟩ rfl h3 h4 rfl) ?_
  refine Eq.trans (zd_aload_n zh55 rfl rfl) ?_
  refine Eq.trans (zd_getfield zh55 (ci := 5) (k := 0) rfl h5 rfl) ?_
  refine Eq.trans (zd_getfield zh55 (ci := 3) (k := 3) rfl h6 rfl) ?_
  refine Eq.trans (zd_iload_n zh55 rfl rfl) ?_
  refine Eq.trans (zd_iload_n zh55 rfl rfl) ?_
  refine Eq.trans (zd_iastore zh55 h7 rfl) ?_
  refine Eq.trans (zd_aload_n zh55 rfl rfl) ?_
  refine Eq.trans (zd_getfield zh55 (ci := 5) (k := 0) rfl h8 rfl) ?_
  refine Eq.trans (zd_getfield zh55 (ci := 3) (k := 0) rfl h9 rfl) ?_
  refine Eq.trans (zd_iload_n zh55 rfl rfl) ?_
  refine Eq.trans (zd_iload_n zh55 rfl rfl) ?_
  refine Eq.trans (zd_invVi zh55 zh14 rfl rfl ⟨Nat.le_of_ble_eq_true rfl, Nat.le_of_ble_eq_true rfl, Nat.le_of_ble_eq_true rfl, Nat.le_of_ble_eq_true rfl⟩ rfl h10 h11 rfl) ?_
  exact zd_iret zh55 rfl rfl
/-! yX5_setRule: 56, MarbleHeirs.setRule(I)I -/
theorem b56_0 {scr : List Int32} {w : zAW} {a0 : Nat} {x1 : Int32}  : zd scr 56 0 [some (.ref a0), some (.int x1), none] [] w = if x1 < 0 then zd scr 56 9 [some (.ref a0), some (.int x1), none] [] w else zd scr 56 4 [some (.ref a0), some (.int x1), none] [] w := by
  refine Eq.trans (zd_iload_n zh56 rfl rfl) ?_
  exact zd_iflt zh56 (t := 9) (by decide) rfl
theorem b56_9 {scr : List Int32} {w : zAW} {a0 : Nat} {x1 : Int32}  : zd scr 56 9 [some (.ref a0), some (.int x1), none] [] w = some (some (.int (-2)), w) := by
  refine Eq.trans (zd_bipush zh56 (v := (-2)) rfl rfl) ?_
  exact zd_iret zh56 rfl rfl
theorem b56_4 {scr : List Int32} {w : zAW} {a0 : Nat} {x1 : Int32}  : zd scr 56 4 [some (.ref a0), some (.int x1), none] [] w = if (nI 2) < x1 then zd scr 56 9 [some (.ref a0), some (.int x1), none] [] w else zd scr 56 12 [some (.ref a0), some (.int x1), none] [] w := by
  refine Eq.trans (zd_iload_n zh56 rfl rfl) ?_
  refine Eq.trans (zd_iconst zh56 (v := (nI 2)) rfl rfl) ?_
  exact zd_icmple zh56 (t := 12) (by decide) rfl
set_option maxRecDepth 20000 in
theorem b56_12 {scr : List Int32} {w : zAW} {a0 : Nat} {x1 : Int32} {g1 : Nat} (h1 : zgf w a0 5 4 = some (.ref g1)) {g2 : Nat} (h2 : zgf w a0 5 0 = some (.ref g2)) (h3 : zob w g1 2 = true) {w1 : zAW} (h4 : zC scr 21 [.ref g1, .ref g2] w = some (none, w1)) {g3 : Nat} (h5 : zgf w1 a0 5 0 = some (.ref g3)) {f4 : Int32} (h6 : zgf w1 g3 3 6 = some (.int f4)) {g5 : Nat} (h7 : zgf w1 a0 5 0 = some (.ref g5)) {w2 : zAW} (h8 : zpf w1 g5 3 6 (.int x1) = some w2) : zd scr 56 12 [some (.ref a0), some (.int x1), none] [] w = some (some (.int f4), w2) := by
  refine Eq.trans (zd_aload_n zh56 rfl rfl) ?_
  refine Eq.trans (zd_getfield zh56 (ci := 5) (k := 4) rfl h1 rfl) ?_
  refine Eq.trans (zd_aload_n zh56 rfl rfl) ?_
  refine Eq.trans (zd_getfield zh56 (ci := 5) (k := 0) rfl h2 rfl) ?_
  refine Eq.trans (zd_invVv zh56 zh21 rfl rfl ⟨Nat.le_of_ble_eq_true rfl, Nat.le_of_ble_eq_true rfl, Nat.le_of_ble_eq_true rfl, Nat.le_of_ble_eq_true rfl⟩ rfl h3 h4 rfl) ?_
  refine Eq.trans (zd_aload_n zh56 rfl rfl) ?_
  refine Eq.trans (zd_getfield zh56 (ci := 5) (k := 0) rfl h5 rfl) ?_
  refine Eq.trans (zd_getfield zh56 (ci := 3) (k := 6) rfl h6 rfl) ?_
  refine Eq.trans (zd_istore_n zh56 (ls' := [some (.ref a0), some (.int x1), some (.int f4)]) (Nat.le_of_ble_eq_true rfl) rfl rfl) ?_
  refine Eq.trans (zd_aload_n zh56 rfl rfl) ?_
  refine Eq.trans (zd_getfield zh56 (ci := 5) (k := 0) rfl h7 rfl) ?_
  refine Eq.trans (zd_iload_n zh56 rfl rfl) ?_
  refine Eq.trans (zd_putfield zh56 (ci := 3) (k := 6) rfl rfl h8 rfl) ?_
  refine Eq.trans (zd_iload_n zh56 rfl rfl) ?_
  exact zd_iret zh56 rfl rfl
/-! yX5_setPatience: 57, MarbleHeirs.setPatience(I)I -/
theorem b57_0 {scr : List Int32} {w : zAW} {a0 : Nat} {x1 : Int32}  : zd scr 57 0 [some (.ref a0), some (.int x1), none] [] w = if x1 < 0 then zd scr 57 10 [some (.ref a0), some (.int x1), none] [] w else zd scr 57 4 [some (.ref a0), some (.int x1), none] [] w := by
  refine Eq.trans (zd_iload_n zh57 rfl rfl) ?_
  exact zd_iflt zh57 (t := 10) (by decide) rfl
theorem b57_10 {scr : List Int32} {w : zAW} {a0 : Nat} {x1 : Int32}  : zd scr 57 10 [some (.ref a0), some (.int x1), none] [] w = some (some (.int (-2)), w) := by
  refine Eq.trans (zd_bipush zh57 (v := (-2)) rfl rfl) ?_
  exact zd_iret zh57 rfl rfl
theorem b57_4 {scr : List Int32} {w : zAW} {a0 : Nat} {x1 : Int32}  : zd scr 57 4 [some (.ref a0), some (.int x1), none] [] w = if (nI 8) < x1 then zd scr 57 10 [some (.ref a0), some (.int x1), none] [] w else zd scr 57 13 [some (.ref a0), some (.int x1), none] [] w := by
  refine Eq.trans (zd_iload_n zh57 rfl rfl) ?_
  refine Eq.trans (zd_bipush zh57 (v := (nI 8)) rfl rfl) ?_
  exact zd_icmple zh57 (t := 13) (by decide) rfl
set_option maxRecDepth 20000 in
theorem b57_13 {scr : List Int32} {w : zAW} {a0 : Nat} {x1 : Int32} {g1 : Nat} (h1 : zgf w a0 5 4 = some (.ref g1)) {g2 : Nat} (h2 : zgf w a0 5 0 = some (.ref g2)) (h3 : zob w g1 2 = true) {w1 : zAW} (h4 : zC scr 21 [.ref g1, .ref g2] w = some (none, w1)) {g3 : Nat} (h5 : zgf w1 a0 5 0 = some (.ref g3)) {f4 : Int32} (h6 : zgf w1 g3 3 7 = some (.int f4)) {g5 : Nat} (h7 : zgf w1 a0 5 0 = some (.ref g5)) {w2 : zAW} (h8 : zpf w1 g5 3 7 (.int x1) = some w2) : zd scr 57 13 [some (.ref a0), some (.int x1), none] [] w = some (some (.int f4), w2) := by
  refine Eq.trans (zd_aload_n zh57 rfl rfl) ?_
  refine Eq.trans (zd_getfield zh57 (ci := 5) (k := 4) rfl h1 rfl) ?_
  refine Eq.trans (zd_aload_n zh57 rfl rfl) ?_
  refine Eq.trans (zd_getfield zh57 (ci := 5) (k := 0) rfl h2 rfl) ?_
  refine Eq.trans (zd_invVv zh57 zh21 rfl rfl ⟨Nat.le_of_ble_eq_true rfl, Nat.le_of_ble_eq_true rfl, Nat.le_of_ble_eq_true rfl, Nat.le_of_ble_eq_true rfl⟩ rfl h3 h4 rfl) ?_
  refine Eq.trans (zd_aload_n zh57 rfl rfl) ?_
  refine Eq.trans (zd_getfield zh57 (ci := 5) (k := 0) rfl h5 rfl) ?_
  refine Eq.trans (zd_getfield zh57 (ci := 3) (k := 7) rfl h6 rfl) ?_
  refine Eq.trans (zd_istore_n zh57 (ls' := [some (.ref a0), some (.int x1), some (.int f4)]) (Nat.le_of_ble_eq_true rfl) rfl rfl) ?_
  refine Eq.trans (zd_aload_n zh57 rfl rfl) ?_
  refine Eq.trans (zd_getfield zh57 (ci := 5) (k := 0) rfl h7 rfl) ?_
  refine Eq.trans (zd_iload_n zh57 rfl rfl) ?_
  refine Eq.trans (zd_putfield zh57 (ci := 3) (k := 7) rfl rfl h8 rfl) ?_
  refine Eq.trans (zd_iload_n zh57 rfl rfl) ?_
  exact zd_iret zh57 rfl rfl
/-! yX5_grant: 58, MarbleHeirs.grant(II)I -/
set_option maxRecDepth 20000 in
theorem b58_0 {scr : List Int32} {w : zAW} {a0 : Nat} {x1 : Int32} {x2 : Int32} {f1 : Int32} {w1 : zAW} (h1 : zC scr 81 [.int x1] w = some (some (.int f1), w1)) : zd scr 58 0 [some (.ref a0), some (.int x1), some (.int x2), none] [] w = if f1 = 0 then zd scr 58 7 [some (.ref a0), some (.int x1), some (.int x2), none] [] w1 else zd scr 58 9 [some (.ref a0), some (.int x1), some (.int x2), none] [] w1 := by
  refine Eq.trans (zd_iload_n zh58 rfl rfl) ?_
  refine Eq.trans (zd_invSi zh58 zh81 rfl rfl ⟨Nat.le_of_ble_eq_true rfl, Nat.le_of_ble_eq_true rfl, Nat.le_of_ble_eq_true rfl, Or.inl (Nat.le_of_ble_eq_true rfl), Nat.le_of_ble_eq_true rfl⟩ rfl h1 rfl) ?_
  exact zd_ifne zh58 (t := 9) (by decide) rfl
theorem b58_7 {scr : List Int32} {w : zAW} {a0 : Nat} {x1 : Int32} {x2 : Int32}  : zd scr 58 7 [some (.ref a0), some (.int x1), some (.int x2), none] [] w = some (some (.int (-1)), w) := by
  refine Eq.trans (zd_iconst zh58 (v := (-1)) rfl rfl) ?_
  exact zd_iret zh58 rfl rfl
theorem b58_9 {scr : List Int32} {w : zAW} {a0 : Nat} {x1 : Int32} {x2 : Int32}  : zd scr 58 9 [some (.ref a0), some (.int x1), some (.int x2), none] [] w = if x2 < 0 then zd scr 58 19 [some (.ref a0), some (.int x1), some (.int x2), none] [] w else zd scr 58 13 [some (.ref a0), some (.int x1), some (.int x2), none] [] w := by
  refine Eq.trans (zd_iload_n zh58 rfl rfl) ?_
  exact zd_iflt zh58 (t := 19) (by decide) rfl
theorem b58_19 {scr : List Int32} {w : zAW} {a0 : Nat} {x1 : Int32} {x2 : Int32}  : zd scr 58 19 [some (.ref a0), some (.int x1), some (.int x2), none] [] w = some (some (.int (-2)), w) := by
  refine Eq.trans (zd_bipush zh58 (v := (-2)) rfl rfl) ?_
  exact zd_iret zh58 rfl rfl
theorem b58_13 {scr : List Int32} {w : zAW} {a0 : Nat} {x1 : Int32} {x2 : Int32}  : zd scr 58 13 [some (.ref a0), some (.int x1), some (.int x2), none] [] w = if (nI 9) < x2 then zd scr 58 19 [some (.ref a0), some (.int x1), some (.int x2), none] [] w else zd scr 58 22 [some (.ref a0), some (.int x1), some (.int x2), none] [] w := by
  refine Eq.trans (zd_iload_n zh58 rfl rfl) ?_
  refine Eq.trans (zd_bipush zh58 (v := (nI 9)) rfl rfl) ?_
  exact zd_icmple zh58 (t := 22) (by decide) rfl
set_option maxRecDepth 20000 in
theorem b58_22 {scr : List Int32} {w : zAW} {a0 : Nat} {x1 : Int32} {x2 : Int32} {g1 : Nat} (h1 : zgf w a0 5 4 = some (.ref g1)) {g2 : Nat} (h2 : zgf w a0 5 0 = some (.ref g2)) (h3 : zob w g1 2 = true) {w1 : zAW} (h4 : zC scr 21 [.ref g1, .ref g2] w = some (none, w1)) {g3 : Nat} (h5 : zgf w1 a0 5 0 = some (.ref g3)) {g4 : Nat} (h6 : zgf w1 g3 3 5 = some (.ref g4)) {f5 : Int32} (h7 : zal w1 g4 x1 = some f5) {g6 : Nat} (h8 : zgf w1 a0 5 0 = some (.ref g6)) {g7 : Nat} (h9 : zgf w1 g6 3 5 = some (.ref g7)) {w2 : zAW} (h10 : zas w1 g7 x1 x2 = some w2) : zd scr 58 22 [some (.ref a0), some (.int x1), some (.int x2), none] [] w = some (some (.int f5), w2) := by
  refine Eq.trans (zd_aload_n zh58 rfl rfl) ?_
  refine Eq.trans (zd_getfield zh58 (ci := 5) (k := 4) rfl h1 rfl) ?_
  refine Eq.trans (zd_aload_n zh58 rfl rfl) ?_
  refine Eq.trans (zd_getfield zh58 (ci := 5) (k := 0) rfl h2 rfl) ?_
  refine Eq.trans (zd_invVv zh58 zh21 rfl rfl ⟨Nat.le_of_ble_eq_true rfl, Nat.le_of_ble_eq_true rfl, Nat.le_of_ble_eq_true rfl, Nat.le_of_ble_eq_true rfl⟩ rfl h3 h4 rfl) ?_
  refine Eq.trans (zd_aload_n zh58 rfl rfl) ?_
  refine Eq.trans (zd_getfield zh58 (ci := 5) (k := 0) rfl h5 rfl) ?_
  refine Eq.trans (zd_getfield zh58 (ci := 3) (k := 5) rfl h6 rfl) ?_
  refine Eq.trans (zd_iload_n zh58 rfl rfl) ?_
  refine Eq.trans (zd_iaload zh58 h7 rfl) ?_
  refine Eq.trans (zd_istore_n zh58 (ls' := [some (.ref a0), some (.int x1), some (.int x2), some (.int f5)]) (Nat.le_of_ble_eq_true rfl) rfl rfl) ?_
  refine Eq.trans (zd_aload_n zh58 rfl rfl) ?_
  refine Eq.trans (zd_getfield zh58 (ci := 5) (k := 0) rfl h8 rfl) ?_
  refine Eq.trans (zd_getfield zh58 (ci := 3) (k := 5) rfl h9 rfl) ?_
  refine Eq.trans (zd_iload_n zh58 rfl rfl) ?_
  refine Eq.trans (zd_iload_n zh58 rfl rfl) ?_
  refine Eq.trans (zd_iastore zh58 h10 rfl) ?_
  refine Eq.trans (zd_iload_n zh58 rfl rfl) ?_
  exact zd_iret zh58 rfl rfl
/-! yX5_drop: 59, MarbleHeirs.drop(II)I -/
set_option maxRecDepth 20000 in
theorem b59_0 {scr : List Int32} {w : zAW} {a0 : Nat} {x1 : Int32} {x2 : Int32} {f1 : Int32} {w1 : zAW} (h1 : zC scr 82 [.int x1] w = some (some (.int f1), w1)) : zd scr 59 0 [some (.ref a0), some (.int x1), some (.int x2)] [] w = if f1 = 0 then zd scr 59 18 [some (.ref a0), some (.int x1), some (.int x2)] [] w1 else zd scr 59 7 [some (.ref a0), some (.int x1), some (.int x2)] [] w1 := by
  refine Eq.trans (zd_iload_n zh59 rfl rfl) ?_
  refine Eq.trans (zd_invSi zh59 zh82 rfl rfl ⟨Nat.le_of_ble_eq_true rfl, Nat.le_of_ble_eq_true rfl, Nat.le_of_ble_eq_true rfl, Or.inl (Nat.le_of_ble_eq_true rfl), Nat.le_of_ble_eq_true rfl⟩ rfl h1 rfl) ?_
  exact zd_ifeq zh59 (t := 18) (by decide) rfl
theorem b59_18 {scr : List Int32} {w : zAW} {a0 : Nat} {x1 : Int32} {x2 : Int32}  : zd scr 59 18 [some (.ref a0), some (.int x1), some (.int x2)] [] w = some (some (.int (-2)), w) := by
  refine Eq.trans (zd_bipush zh59 (v := (-2)) rfl rfl) ?_
  exact zd_iret zh59 rfl rfl
theorem b59_7 {scr : List Int32} {w : zAW} {a0 : Nat} {x1 : Int32} {x2 : Int32}  : zd scr 59 7 [some (.ref a0), some (.int x1), some (.int x2)] [] w = if x2 < (nI 1) then zd scr 59 18 [some (.ref a0), some (.int x1), some (.int x2)] [] w else zd scr 59 12 [some (.ref a0), some (.int x1), some (.int x2)] [] w := by
  refine Eq.trans (zd_iload_n zh59 rfl rfl) ?_
  refine Eq.trans (zd_iconst zh59 (v := (nI 1)) rfl rfl) ?_
  exact zd_icmplt zh59 (t := 18) (by decide) rfl
theorem b59_12 {scr : List Int32} {w : zAW} {a0 : Nat} {x1 : Int32} {x2 : Int32}  : zd scr 59 12 [some (.ref a0), some (.int x1), some (.int x2)] [] w = if (nI 9) < x2 then zd scr 59 18 [some (.ref a0), some (.int x1), some (.int x2)] [] w else zd scr 59 21 [some (.ref a0), some (.int x1), some (.int x2)] [] w := by
  refine Eq.trans (zd_iload_n zh59 rfl rfl) ?_
  refine Eq.trans (zd_bipush zh59 (v := (nI 9)) rfl rfl) ?_
  exact zd_icmple zh59 (t := 21) (by decide) rfl
set_option maxRecDepth 20000 in
theorem b59_21 {scr : List Int32} {w : zAW} {a0 : Nat} {x1 : Int32} {x2 : Int32} {g1 : Nat} (h1 : zgf w a0 5 0 = some (.ref g1)) {g2 : Nat} (h2 : zgf w g1 3 0 = some (.ref g2)) (h3 : zob w g2 1 = true) {f3 : Int32} {w1 : zAW} (h4 : zC scr 15 [.ref g2] w = some (some (.int f3), w1)) : zd scr 59 21 [some (.ref a0), some (.int x1), some (.int x2)] [] w = if f3 = 0 then zd scr 59 34 [some (.ref a0), some (.int x1), some (.int x2)] [] w1 else zd scr 59 37 [some (.ref a0), some (.int x1), some (.int x2)] [] w1 := by
  refine Eq.trans (zd_aload_n zh59 rfl rfl) ?_
  refine Eq.trans (zd_getfield zh59 (ci := 5) (k := 0) rfl h1 rfl) ?_
  refine Eq.trans (zd_getfield zh59 (ci := 3) (k := 0) rfl h2 rfl) ?_
  refine Eq.trans (zd_invVi zh59 zh15 rfl rfl ⟨Nat.le_of_ble_eq_true rfl, Nat.le_of_ble_eq_true rfl, Nat.le_of_ble_eq_true rfl, Nat.le_of_ble_eq_true rfl⟩ rfl h3 h4 rfl) ?_
  exact zd_ifne zh59 (t := 37) (by decide) rfl
theorem b59_34 {scr : List Int32} {w : zAW} {a0 : Nat} {x1 : Int32} {x2 : Int32}  : zd scr 59 34 [some (.ref a0), some (.int x1), some (.int x2)] [] w = some (some (.int (-4)), w) := by
  refine Eq.trans (zd_bipush zh59 (v := (-4)) rfl rfl) ?_
  exact zd_iret zh59 rfl rfl
set_option maxRecDepth 20000 in
theorem b59_37 {scr : List Int32} {w : zAW} {a0 : Nat} {x1 : Int32} {x2 : Int32} {g1 : Nat} (h1 : zgf w a0 5 4 = some (.ref g1)) {g2 : Nat} (h2 : zgf w a0 5 0 = some (.ref g2)) (h3 : zob w g1 2 = true) {w1 : zAW} (h4 : zC scr 21 [.ref g1, .ref g2] w = some (none, w1)) {g3 : Nat} (h5 : zgf w1 a0 5 0 = some (.ref g3)) {g4 : Nat} (h6 : zgf w1 g3 3 0 = some (.ref g4)) (h7 : zob w1 g4 1 = true) {f5 : Int32} {w2 : zAW} (h8 : zC scr 16 [.ref g4, .int x1, .int x2] w1 = some (some (.int f5), w2)) {g6 : Nat} (h9 : zgf w2 a0 5 0 = some (.ref g6)) {g7 : Nat} (h10 : zgf w2 g6 3 0 = some (.ref g7)) (h11 : zob w2 g7 1 = true) {f8 : Int32} {w3 : zAW} (h12 : zC scr 8 [.ref g7, .int (nI 6)] w2 = some (some (.int f8), w3)) : zd scr 59 37 [some (.ref a0), some (.int x1), some (.int x2)] [] w = some (some (.int f8), w3) := by
  refine Eq.trans (zd_aload_n zh59 rfl rfl) ?_
  refine Eq.trans (zd_getfield zh59 (ci := 5) (k := 4) rfl h1 rfl) ?_
  refine Eq.trans (zd_aload_n zh59 rfl rfl) ?_
  refine Eq.trans (zd_getfield zh59 (ci := 5) (k := 0) rfl h2 rfl) ?_
  refine Eq.trans (zd_invVv zh59 zh21 rfl rfl ⟨Nat.le_of_ble_eq_true rfl, Nat.le_of_ble_eq_true rfl, Nat.le_of_ble_eq_true rfl, Nat.le_of_ble_eq_true rfl⟩ rfl h3 h4 rfl) ?_
  refine Eq.trans (zd_aload_n zh59 rfl rfl) ?_
  refine Eq.trans (zd_getfield zh59 (ci := 5) (k := 0) rfl h5 rfl) ?_
  refine Eq.trans (zd_getfield zh59 (ci := 3) (k := 0) rfl h6 rfl) ?_
  refine Eq.trans (zd_iload_n zh59 rfl rfl) ?_
  refine Eq.trans (zd_iload_n zh59 rfl rfl) ?_
  refine Eq.trans (zd_invVi zh59 zh16 rfl rfl ⟨Nat.le_of_ble_eq_true rfl, Nat.le_of_ble_eq_true rfl, Nat.le_of_ble_eq_true rfl, Nat.le_of_ble_eq_true rfl⟩ rfl h7 h8 rfl) ?_
  refine Eq.trans (zd_pop zh59 rfl) ?_
  refine Eq.trans (zd_aload_n zh59 rfl rfl) ?_
  refine Eq.trans (zd_getfield zh59 (ci := 5) (k := 0) rfl h9 rfl) ?_
  refine Eq.trans (zd_getfield zh59 (ci := 3) (k := 0) rfl h10 rfl) ?_
  refine Eq.trans (zd_bipush zh59 (v := (nI 6)) rfl rfl) ?_
  refine Eq.trans (zd_invVi zh59 zh8 rfl rfl ⟨Nat.le_of_ble_eq_true rfl, Nat.le_of_ble_eq_true rfl, Nat.le_of_ble_eq_true rfl, Nat.le_of_ble_eq_true rfl⟩ rfl h11 h12 rfl) ?_
  exact zd_iret zh59 rfl rfl
/-! yX5_round: 60, MarbleHeirs.round()I -/
theorem b60_0 {scr : List Int32} {w : zAW} {a0 : Nat} {g1 : Nat} (h1 : zgf w a0 5 0 = some (.ref g1)) {f2 : Int32} (h2 : zgf w g1 3 1 = some (.int f2)) : zd scr 60 0 [some (.ref a0)] [] w = if f2 = 0 then zd scr 60 10 [some (.ref a0)] [] w else zd scr 60 13 [some (.ref a0)] [] w := by
  refine Eq.trans (zd_aload_n zh60 rfl rfl) ?_
  refine Eq.trans (zd_getfield zh60 (ci := 5) (k := 0) rfl h1 rfl) ?_
  refine Eq.trans (zd_getfield zh60 (ci := 3) (k := 1) rfl h2 rfl) ?_
  exact zd_ifne zh60 (t := 13) (by decide) rfl
theorem b60_10 {scr : List Int32} {w : zAW} {a0 : Nat}  : zd scr 60 10 [some (.ref a0)] [] w = some (some (.int (-3)), w) := by
  refine Eq.trans (zd_bipush zh60 (v := (-3)) rfl rfl) ?_
  exact zd_iret zh60 rfl rfl
set_option maxRecDepth 20000 in
theorem b60_13 {scr : List Int32} {w : zAW} {a0 : Nat} {g1 : Nat} (h1 : zgf w a0 5 4 = some (.ref g1)) {g2 : Nat} (h2 : zgf w a0 5 0 = some (.ref g2)) (h3 : zob w g1 2 = true) {w1 : zAW} (h4 : zC scr 21 [.ref g1, .ref g2] w = some (none, w1)) {g3 : Nat} (h5 : zgf w1 a0 5 0 = some (.ref g3)) (h6 : zob w1 g3 3 = true) {f4 : Int32} {w2 : zAW} (h7 : zC scr 32 [.ref g3] w1 = some (some (.int f4), w2)) : zd scr 60 13 [some (.ref a0)] [] w = some (some (.int f4), w2) := by
  refine Eq.trans (zd_aload_n zh60 rfl rfl) ?_
  refine Eq.trans (zd_getfield zh60 (ci := 5) (k := 4) rfl h1 rfl) ?_
  refine Eq.trans (zd_aload_n zh60 rfl rfl) ?_
  refine Eq.trans (zd_getfield zh60 (ci := 5) (k := 0) rfl h2 rfl) ?_
  refine Eq.trans (zd_invVv zh60 zh21 rfl rfl ⟨Nat.le_of_ble_eq_true rfl, Nat.le_of_ble_eq_true rfl, Nat.le_of_ble_eq_true rfl, Nat.le_of_ble_eq_true rfl⟩ rfl h3 h4 rfl) ?_
  refine Eq.trans (zd_aload_n zh60 rfl rfl) ?_
  refine Eq.trans (zd_getfield zh60 (ci := 5) (k := 0) rfl h5 rfl) ?_
  refine Eq.trans (zd_invVi zh60 zh32 rfl rfl ⟨Nat.le_of_ble_eq_true rfl, Nat.le_of_ble_eq_true rfl, Nat.le_of_ble_eq_true rfl, Nat.le_of_ble_eq_true rfl⟩ rfl h6 h7 rfl) ?_
  exact zd_iret zh60 rfl rfl
/-! yX5_divide: 61, MarbleHeirs.divide()I -/
theorem b61_0 {scr : List Int32} {w : zAW} {a0 : Nat} {g1 : Nat} (h1 : zgf w a0 5 0 = some (.ref g1)) {f2 : Int32} (h2 : zgf w g1 3 1 = some (.int f2)) : zd scr 61 0 [some (.ref a0)] [] w = if f2 = 0 then zd scr 61 10 [some (.ref a0)] [] w else zd scr 61 13 [some (.ref a0)] [] w := by
  refine Eq.trans (zd_aload_n zh61 rfl rfl) ?_
  refine Eq.trans (zd_getfield zh61 (ci := 5) (k := 0) rfl h1 rfl) ?_
  refine Eq.trans (zd_getfield zh61 (ci := 3) (k := 1) rfl h2 rfl) ?_
  exact zd_ifne zh61 (t := 13) (by decide) rfl
theorem b61_10 {scr : List Int32} {w : zAW} {a0 : Nat}  : zd scr 61 10 [some (.ref a0)] [] w = some (some (.int (-3)), w) := by
  refine Eq.trans (zd_bipush zh61 (v := (-3)) rfl rfl) ?_
  exact zd_iret zh61 rfl rfl
set_option maxRecDepth 20000 in
theorem b61_13 {scr : List Int32} {w : zAW} {a0 : Nat} {g1 : Nat} (h1 : zgf w a0 5 4 = some (.ref g1)) {g2 : Nat} (h2 : zgf w a0 5 0 = some (.ref g2)) (h3 : zob w g1 2 = true) {w1 : zAW} (h4 : zC scr 21 [.ref g1, .ref g2] w = some (none, w1)) {g3 : Nat} (h5 : zgf w1 a0 5 0 = some (.ref g3)) (h6 : zob w1 g3 3 = true) {f4 : Int32} {w2 : zAW} (h7 : zC scr 31 [.ref g3] w1 = some (some (.int f4), w2)) : zd scr 61 13 [some (.ref a0)] [] w = some (some (.int f4), w2) := by
  refine Eq.trans (zd_aload_n zh61 rfl rfl) ?_
  refine Eq.trans (zd_getfield zh61 (ci := 5) (k := 4) rfl h1 rfl) ?_
  refine Eq.trans (zd_aload_n zh61 rfl rfl) ?_
  refine Eq.trans (zd_getfield zh61 (ci := 5) (k := 0) rfl h2 rfl) ?_
  refine Eq.trans (zd_invVv zh61 zh21 rfl rfl ⟨Nat.le_of_ble_eq_true rfl, Nat.le_of_ble_eq_true rfl, Nat.le_of_ble_eq_true rfl, Nat.le_of_ble_eq_true rfl⟩ rfl h3 h4 rfl) ?_
  refine Eq.trans (zd_aload_n zh61 rfl rfl) ?_
  refine Eq.trans (zd_getfield zh61 (ci := 5) (k := 0) rfl h5 rfl) ?_
  refine Eq.trans (zd_invVi zh61 zh31 rfl rfl ⟨Nat.le_of_ble_eq_true rfl, Nat.le_of_ble_eq_true rfl, Nat.le_of_ble_eq_true rfl, Nat.le_of_ble_eq_true rfl⟩ rfl h6 h7 rfl) ?_
  exact zd_iret zh61 rfl rfl
