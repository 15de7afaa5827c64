/-! yX3_playRound: 32, MarbleHeirs$State.playRound()I -/
set_option maxRecDepth 20000 in
theorem b32_0 {scr : List Int32} {w : zAW} {a0 : Nat} {f1 : Int32} (h1 : zgf w a0 3 1 = some (.int f1)) {g2 : Nat} (h2 : zgf w a0 3 0 = some (.ref g2)) (h3 : zob w g2 1 = true) {f3 : Int32} {w1 : zAW} (h4 : zC scr 8 [.ref g2, .int (nI 6)] w = some (some (.int f3), w1)) {f4 : Int32} (h5 : zgf w1 a0 3 1 = some (.int f4)) : zd scr 32 0 [some (.ref a0), none, none] [] w = if (if f3 < f1 then f3 else f1) < f4 then zd scr 32 25 [some (.ref a0), some (.int (if f3 < f1 then f3 else f1)), none] [] w1 else zd scr 32 29 [some (.ref a0), some (.int (if f3 < f1 then f3 else f1)), none] [] w1 := by
  refine Eq.trans (zd_aload_n zh32 rfl rfl) ?_
  refine Eq.trans (zd_getfield zh32 (ci := 3) (k := 1) rfl h1 rfl) ?_
  refine Eq.trans (zd_aload_n zh32 rfl rfl) ?_
  refine Eq.trans (zd_getfield zh32 (ci := 3) (k := 0) rfl h2 rfl) ?_
  refine Eq.trans (zd_bipush zh32 (v := (nI 6)) rfl rfl) ?_
  refine Eq.trans (zd_invVi zh32 zh8 rfl rfl ⟨Nat.le_of_ble_eq_true rfl, Nat.le_of_ble_eq_true rfl, Nat.le_of_ble_eq_true rfl, Nat.le_of_ble_eq_true rfl⟩ rfl h3 h4 rfl) ?_
  refine Eq.trans (zd_min zh32 rfl ⟨Nat.le_of_ble_eq_true rfl, Nat.le_of_ble_eq_true rfl⟩ rfl) ?_
  refine Eq.trans (zd_istore_n zh32 (ls' := [some (.ref a0), some (.int (if f3 < f1 then f3 else f1)), none]) (Nat.le_of_ble_eq_true rfl) rfl rfl) ?_
  refine Eq.trans (zd_iload_n zh32 rfl rfl) ?_
  refine Eq.trans (zd_aload_n zh32 rfl rfl) ?_
  refine Eq.trans (zd_getfield zh32 (ci := 3) (k := 1) rfl h5 rfl) ?_
  exact zd_icmpge zh32 (t := 29) (by decide) rfl
theorem b32_25 {scr : List Int32} {w : zAW} {a0 : Nat} {x1 : Int32}  : zd scr 32 25 [some (.ref a0), some (.int x1), none] [] w = if (nI 1) = 0 then zd scr 32 45 [some (.ref a0), some (.int x1), some (.int (nI 1))] [] w else zd scr 32 35 [some (.ref a0), some (.int x1), some (.int (nI 1))] [] w := by
  refine Eq.trans (zd_iconst zh32 (v := (nI 1)) rfl rfl) ?_
  refine Eq.trans (zd_goto zh32 (t := 30) (by decide) rfl) ?_
  refine Eq.trans (zd_istore_n zh32 (ls' := [some (.ref a0), some (.int x1), some (.int (nI 1))]) (Nat.le_of_ble_eq_true rfl) rfl rfl) ?_
  refine Eq.trans (zd_iload_n zh32 rfl rfl) ?_
  exact zd_ifeq zh32 (t := 45) (by decide) rfl
theorem b32_29 {scr : List Int32} {w : zAW} {a0 : Nat} {x1 : Int32}  : zd scr 32 29 [some (.ref a0), some (.int x1), none] [] w = if (nI 0) = 0 then zd scr 32 45 [some (.ref a0), some (.int x1), some (.int (nI 0))] [] w else zd scr 32 35 [some (.ref a0), some (.int x1), some (.int (nI 0))] [] w := by
  refine Eq.trans (zd_iconst zh32 (v := (nI 0)) rfl rfl) ?_
  refine Eq.trans (zd_istore_n zh32 (ls' := [some (.ref a0), some (.int x1), some (.int (nI 0))]) (Nat.le_of_ble_eq_true rfl) rfl rfl) ?_
  refine Eq.trans (zd_iload_n zh32 rfl rfl) ?_
  exact zd_ifeq zh32 (t := 45) (by decide) rfl
theorem b32_45 {scr : List Int32} {w : zAW} {a0 : Nat} {x1 : Int32} {x2 : Int32}  : zd scr 32 45 [some (.ref a0), some (.int x1), some (.int x2)] [] w = if x2 = 0 then zd scr 32 65 [some (.ref a0), some (.int x1), some (.int x2)] [] w else zd scr 32 49 [some (.ref a0), some (.int x1), some (.int x2)] [] w := by
  refine Eq.trans (zd_iload_n zh32 rfl rfl) ?_
  exact zd_ifeq zh32 (t := 65) (by decide) rfl
theorem b32_35 {scr : List Int32} {w : zAW} {a0 : Nat} {x1 : Int32} {x2 : Int32} {f1 : Int32} (h1 : zgf w a0 3 6 = some (.int f1)) : zd scr 32 35 [some (.ref a0), some (.int x1), some (.int x2)] [] w = if f1 = (nI 2) then zd scr 32 43 [some (.ref a0), some (.int x1), some (.int x2)] [] w else zd scr 32 45 [some (.ref a0), some (.int x1), some (.int x2)] [] w := by
  refine Eq.trans (zd_aload_n zh32 rfl rfl) ?_
  refine Eq.trans (zd_getfield zh32 (ci := 3) (k := 6) rfl h1 rfl) ?_
  refine Eq.trans (zd_iconst zh32 (v := (nI 2)) rfl rfl) ?_
  exact zd_icmpne zh32 (t := 45) (by decide) rfl
set_option maxRecDepth 20000 in
theorem b32_65 {scr : List Int32} {w : zAW} {a0 : Nat} {x1 : Int32} {x2 : Int32} (h1 : zob w a0 3 = true) {w1 : zAW} (h2 : zC scr 33 [.ref a0, .int x1] w = some (none, w1)) : zd scr 32 65 [some (.ref a0), some (.int x1), some (.int x2)] [] w = if 0 < x1 then zd scr 32 74 [some (.ref a0), some (.int x1), some (.int x2)] [] w1 else zd scr 32 98 [some (.ref a0), some (.int x1), some (.int x2)] [] w1 := by
  refine Eq.trans (zd_aload_n zh32 rfl rfl) ?_
  refine Eq.trans (zd_iload_n zh32 rfl rfl) ?_
  refine Eq.trans (zd_invVv zh32 zh33 rfl rfl ⟨Nat.le_of_ble_eq_true rfl, Nat.le_of_ble_eq_true rfl, Nat.le_of_ble_eq_true rfl, Nat.le_of_ble_eq_true rfl⟩ rfl h1 h2 rfl) ?_
  refine Eq.trans (zd_iload_n zh32 rfl rfl) ?_
  exact zd_ifle zh32 (t := 98) (by decide) rfl
theorem b32_49 {scr : List Int32} {w : zAW} {a0 : Nat} {x1 : Int32} {x2 : Int32} {f1 : Int32} (h1 : zgf w a0 3 6 = some (.int f1)) : zd scr 32 49 [some (.ref a0), some (.int x1), some (.int x2)] [] w = if f1 = (nI 1) then zd scr 32 57 [some (.ref a0), some (.int x1), some (.int x2)] [] w else zd scr 32 65 [some (.ref a0), some (.int x1), some (.int x2)] [] w := by
  refine Eq.trans (zd_aload_n zh32 rfl rfl) ?_
  refine Eq.trans (zd_getfield zh32 (ci := 3) (k := 6) rfl h1 rfl) ?_
  refine Eq.trans (zd_iconst zh32 (v := (nI 1)) rfl rfl) ?_
  exact zd_icmpne zh32 (t := 65) (by decide) rfl
theorem b32_43 {scr : List Int32} {w : zAW} {a0 : Nat} {x1 : Int32} {x2 : Int32}  : zd scr 32 43 [some (.ref a0), some (.int x1), some (.int x2)] [] w = some (some (.int (nI 0)), w) := by
  refine Eq.trans (zd_iconst zh32 (v := (nI 0)) rfl rfl) ?_
  exact zd_iret zh32 rfl rfl
set_option maxRecDepth 20000 in
theorem b32_74 {scr : List Int32} {w : zAW} {a0 : Nat} {x1 : Int32} {x2 : Int32} {g1 : Nat} (h1 : zgf w a0 3 4 = some (.ref g1)) {f2 : Int32} (h2 : zgf w a0 3 1 = some (.int f2)) {w1 : zAW} (h3 : zC scr 83 [.ref g1, .int (nI 0), .int (f2 - (nI 1))] w = some (none, w1)) {f3 : Int32} (h4 : zgf w1 a0 3 8 = some (.int f3)) {w2 : zAW} (h5 : zpf w1 a0 3 8 (.int (f3 + (nI 1))) = some w2) : zd scr 32 74 [some (.ref a0), some (.int x1), some (.int x2)] [] w = some (some (.int x1), w2) := by
  refine Eq.trans (zd_aload_n zh32 rfl rfl) ?_
  refine Eq.trans (zd_getfield zh32 (ci := 3) (k := 4) rfl h1 rfl) ?_
  refine Eq.trans (zd_iconst zh32 (v := (nI 0)) rfl rfl) ?_
  refine Eq.trans (zd_aload_n zh32 rfl rfl) ?_
  refine Eq.trans (zd_getfield zh32 (ci := 3) (k := 1) rfl h2 rfl) ?_
  refine Eq.trans (zd_iconst zh32 (v := (nI 1)) rfl rfl) ?_
  refine Eq.trans (zd_isub zh32 rfl) ?_
  refine Eq.trans (zd_invTv zh32 zh83 rfl rfl ⟨Nat.le_of_ble_eq_true rfl, Nat.le_of_ble_eq_true rfl, Nat.le_of_ble_eq_true rfl, Nat.le_of_ble_eq_true rfl, Nat.le_of_ble_eq_true rfl⟩ rfl h3 rfl) ?_
  refine Eq.trans (zd_aload_n zh32 rfl rfl) ?_
  refine Eq.trans (zd_dup zh32 rfl) ?_
  refine Eq.trans (zd_getfield zh32 (ci := 3) (k := 8) rfl h4 rfl) ?_
  refine Eq.trans (zd_iconst zh32 (v := (nI 1)) rfl rfl) ?_
  refine Eq.trans (zd_iadd zh32 rfl) ?_
  refine Eq.trans (zd_putfield zh32 (ci := 3) (k := 8) rfl rfl h5 rfl) ?_
  refine Eq.trans (zd_iload_n zh32 rfl rfl) ?_
  exact zd_iret zh32 rfl rfl
theorem b32_98 {scr : List Int32} {w : zAW} {a0 : Nat} {x1 : Int32} {x2 : Int32}  : zd scr 32 98 [some (.ref a0), some (.int x1), some (.int x2)] [] w = some (some (.int x1), w) := by
  refine Eq.trans (zd_iload_n zh32 rfl rfl) ?_
  exact zd_iret zh32 rfl rfl
set_option maxRecDepth 20000 in
theorem b32_57 {scr : List Int32} {w : zAW} {a0 : Nat} {x1 : Int32} {x2 : Int32} (h1 : zob w a0 3 = true) {w1 : zAW} (h2 : zC scr 34 [.ref a0, .int x1] w = some (none, w1)) : zd scr 32 57 [some (.ref a0), some (.int x1), some (.int x2)] [] w = if 0 < x1 then zd scr 32 74 [some (.ref a0), some (.int x1), some (.int x2)] [] w1 else zd scr 32 98 [some (.ref a0), some (.int x1), some (.int x2)] [] w1 := by
  refine Eq.trans (zd_aload_n zh32 rfl rfl) ?_
  refine Eq.trans (zd_iload_n zh32 rfl rfl) ?_
  refine Eq.trans (zd_invVv zh32 zh34 rfl rfl ⟨Nat.le_of_ble_eq_true rfl, Nat.le_of_ble_eq_true rfl, Nat.le_of_ble_eq_true rfl, Nat.le_of_ble_eq_true rfl⟩ rfl h1 h2 rfl) ?_
  refine Eq.trans (zd_goto zh32 (t := 70) (by decide) rfl) ?_
  refine Eq.trans (zd_iload_n zh32 rfl rfl) ?_
  exact zd_ifle zh32 (t := 98) (by decide) rfl
/-! yX3_giveInOrder: 33, MarbleHeirs$State.giveInOrder(I)V -/
theorem b33_0 {scr : List Int32} {w : zAW} {a0 : Nat} {x1 : Int32}  : zd scr 33 0 [some (.ref a0), some (.int x1), none] [] w = zd scr 33 2 [some (.ref a0), some (.int x1), some (.int (nI 0))] [] w := by
  refine Eq.trans (zd_iconst zh33 (v := (nI 0)) rfl rfl) ?_
  refine Eq.trans (zd_istore_n zh33 (ls' := [some (.ref a0), some (.int x1), some (.int (nI 0))]) (Nat.le_of_ble_eq_true rfl) rfl rfl) ?_
  exact rfl
theorem b33_2 {scr : List Int32} {w : zAW} {a0 : Nat} {x1 : Int32} {x2 : Int32}  : zd scr 33 2 [some (.ref a0), some (.int x1), some (.int x2)] [] w = if x2 < x1 then zd scr 33 7 [some (.ref a0), some (.int x1), some (.int x2)] [] w else zd scr 33 26 [some (.ref a0), some (.int x1), some (.int x2)] [] w := by
  refine Eq.trans (zd_iload_n zh33 rfl rfl) ?_
  refine Eq.trans (zd_iload_n zh33 rfl rfl) ?_
  exact zd_icmpge zh33 (t := 26) (by decide) rfl
set_option maxRecDepth 20000 in
theorem b33_7 {scr : List Int32} {w : zAW} {a0 : Nat} {x1 : Int32} {x2 : Int32} {g1 : Nat} (h1 : zgf w a0 3 0 = some (.ref g1)) {g2 : Nat} (h2 : zgf w a0 3 4 = some (.ref g2)) {f3 : Int32} (h3 : zal w g2 x2 = some f3) (h4 : zob w g1 1 = true) {w1 : zAW} (h5 : zC scr 17 [.ref g1, .int f3] w = some (none, w1)) : zd scr 33 7 [some (.ref a0), some (.int x1), some (.int x2)] [] w = zd scr 33 2 [some (.ref a0), some (.int x1), some (.int (x2 + (nI 1)))] [] w1 := by
  refine Eq.trans (zd_aload_n zh33 rfl rfl) ?_
  refine Eq.trans (zd_getfield zh33 (ci := 3) (k := 0) rfl h1 rfl) ?_
  refine Eq.trans (zd_aload_n zh33 rfl rfl) ?_
  refine Eq.trans (zd_getfield zh33 (ci := 3) (k := 4) rfl h2 rfl) ?_
  refine Eq.trans (zd_iload_n zh33 rfl rfl) ?_
  refine Eq.trans (zd_iaload zh33 h3 rfl) ?_
  refine Eq.trans (zd_invVv zh33 zh17 rfl rfl ⟨Nat.le_of_ble_eq_true rfl, Nat.le_of_ble_eq_true rfl, Nat.le_of_ble_eq_true rfl, Nat.le_of_ble_eq_true rfl⟩ rfl h4 h5 rfl) ?_
  refine Eq.trans (zd_iinc zh33 (ls' := [some (.ref a0), some (.int x1), some (.int (x2 + (nI 1)))]) (v := (x2 + (nI 1))) rfl rfl rfl rfl) ?_
  refine Eq.trans (zd_goto zh33 (t := 2) (by decide) rfl) ?_
  exact rfl
theorem b33_26 {scr : List Int32} {w : zAW} {a0 : Nat} {x1 : Int32} {x2 : Int32}  : zd scr 33 26 [some (.ref a0), some (.int x1), some (.int x2)] [] w = some (none, w) := by
  exact zd_vret zh33 rfl rfl
/-! yX3_giveToPoorest: 34, MarbleHeirs$State.giveToPoorest(I)V -/
theorem b34_0 {scr : List Int32} {w : zAW} {a0 : Nat} {x1 : Int32}  : zd scr 34 0 [some (.ref a0), some (.int x1), none, none, none] [] w = zd scr 34 4 [some (.ref a0), some (.int x1), some (.int (nI 0)), some (.int (nI 0)), none] [] w := by
  refine Eq.trans (zd_iconst zh34 (v := (nI 0)) rfl rfl) ?_
  refine Eq.trans (zd_istore_n zh34 (ls' := [some (.ref a0), some (.int x1), some (.int (nI 0)), none, none]) (Nat.le_of_ble_eq_true rfl) rfl rfl) ?_
  refine Eq.trans (zd_iconst zh34 (v := (nI 0)) rfl rfl) ?_
  refine Eq.trans (zd_istore_n zh34 (ls' := [some (.ref a0), some (.int x1), some (.int (nI 0)), some (.int (nI 0)), none]) (Nat.le_of_ble_eq_true rfl) rfl rfl) ?_
  exact rfl
theorem b34_4 {scr : List Int32} {w : zAW} {a0 : Nat} {x1 : Int32} {x2 : Int32} {x3 : Int32} {v4 : Option Value}  : zd scr 34 4 [some (.ref a0), some (.int x1), some (.int x2), some (.int x3), v4] [] w = if x3 < x1 then zd scr 34 9 [some (.ref a0), some (.int x1), some (.int x2), some (.int x3), v4] [] w else zd scr 34 38 [some (.ref a0), some (.int x1), some (.int x2), some (.int x3), v4] [] w := by
  refine Eq.trans (zd_iload_n zh34 rfl rfl) ?_
  refine Eq.trans (zd_iload_n zh34 rfl rfl) ?_
  exact zd_icmpge zh34 (t := 38) (by decide) rfl
set_option maxRecDepth 20000 in
theorem b34_9 {scr : List Int32} {w : zAW} {a0 : Nat} {x1 : Int32} {x2 : Int32} {x3 : Int32} {v4 : Option Value} (h1 : zob w a0 3 = true) {f1 : Int32} {w1 : zAW} (h2 : zC scr 35 [.ref a0, .int x2] w = some (some (.int f1), w1)) {g2 : Nat} (h3 : zgf w1 a0 3 0 = some (.ref g2)) (h4 : zob w1 g2 1 = true) {w2 : zAW} (h5 : zC scr 17 [.ref g2, .int f1] w1 = some (none, w2)) : zd scr 34 9 [some (.ref a0), some (.int x1), some (.int x2), some (.int x3), v4] [] w = zd scr 34 4 [some (.ref a0), some (.int x1), some (.int (x2 ||| ((nI 1) <<< (f1 &&& 31)))), some (.int (x3 + (nI 1))), some (.int f1)] [] w2 := by
  refine Eq.trans (zd_aload_n zh34 rfl rfl) ?_
  refine Eq.trans (zd_iload_n zh34 rfl rfl) ?_
  refine Eq.trans (zd_invVi zh34 zh35 rfl rfl ⟨Nat.le_of_ble_eq_true rfl, Nat.le_of_ble_eq_true rfl, Nat.le_of_ble_eq_true rfl, Nat.le_of_ble_eq_true rfl⟩ rfl h1 h2 rfl) ?_
  refine Eq.trans (zd_istore zh34 (ls' := [some (.ref a0), some (.int x1), some (.int x2), some (.int x3), some (.int f1)]) (Nat.le_of_ble_eq_true rfl) rfl rfl) ?_
  refine Eq.trans (zd_aload_n zh34 rfl rfl) ?_
  refine Eq.trans (zd_getfield zh34 (ci := 3) (k := 0) rfl h3 rfl) ?_
  refine Eq.trans (zd_iload zh34 rfl rfl) ?_
  refine Eq.trans (zd_invVv zh34 zh17 rfl rfl ⟨Nat.le_of_ble_eq_true rfl, Nat.le_of_ble_eq_true rfl, Nat.le_of_ble_eq_true rfl, Nat.le_of_ble_eq_true rfl⟩ rfl h4 h5 rfl) ?_
  refine Eq.trans (zd_iload_n zh34 rfl rfl) ?_
  refine Eq.trans (zd_iconst zh34 (v := (nI 1)) rfl rfl) ?_
  refine Eq.trans (zd_iload zh34 rfl rfl) ?_
  refine Eq.trans (zd_ishl zh34 rfl) ?_
  refine Eq.trans (zd_ior zh34 rfl) ?_
  refine Eq.trans (zd_istore_n zh34 (ls' := [some (.ref a0), some (.int x1), some (.int (x2 ||| ((nI 1) <<< (f1 &&& 31)))), some (.int x3), some (.int f1)]) (Nat.le_of_ble_eq_true rfl) rfl rfl) ?_
  refine Eq.trans (zd_iinc zh34 (ls' := [some (.ref a0), some (.int x1), some (.int (x2 ||| ((nI 1) <<< (f1 &&& 31)))), some (.int (x3 + (nI 1))), some (.int f1)]) (v := (x3 + (nI 1))) rfl rfl rfl rfl) ?_
  refine Eq.trans (zd_goto zh34 (t := 4) (by decide) rfl) ?_
  exact rfl
theorem b34_38 {scr : List Int32} {w : zAW} {a0 : Nat} {x1 : Int32} {x2 : Int32} {x3 : Int32} {v4 : Option Value}  : zd scr 34 38 [some (.ref a0), some (.int x1), some (.int x2), some (.int x3), v4] [] w = some (none, w) := by
  exact zd_vret zh34 rfl rfl
/-! yX3_poorestBut: 35, MarbleHeirs$State.poorestBut(I)I -/
theorem b35_0 {scr : List Int32} {w : zAW} {a0 : Nat} {x1 : Int32}  : zd scr 35 0 [some (.ref a0), some (.int x1), none, none, none, none, none] [] w = zd scr 35 9 [some (.ref a0), some (.int x1), some (.int (nI 0)), some (.int (nI 1081)), some (.int (nI 0)), none, none] [] w := by
  refine Eq.trans (zd_iconst zh35 (v := (nI 0)) rfl rfl) ?_
  refine Eq.trans (zd_istore_n zh35 (ls' := [some (.ref a0), some (.int x1), some (.int (nI 0)), none, none, none, none]) (Nat.le_of_ble_eq_true rfl) rfl rfl) ?_
  refine Eq.trans (zd_sipush zh35 (v := (nI 1081)) rfl rfl) ?_
  refine Eq.trans (zd_istore_n zh35 (ls' := [some (.ref a0), some (.int x1), some (.int (nI 0)), some (.int (nI 1081)), none, none, none]) (Nat.le_of_ble_eq_true rfl) rfl rfl) ?_
  refine Eq.trans (zd_iconst zh35 (v := (nI 0)) rfl rfl) ?_
  refine Eq.trans (zd_istore zh35 (ls' := [some (.ref a0), some (.int x1), some (.int (nI 0)), some (.int (nI 1081)), some (.int (nI 0)), none, none]) (Nat.le_of_ble_eq_true rfl) rfl rfl) ?_
  exact rfl
theorem b35_9 {scr : List Int32} {w : zAW} {a0 : Nat} {x1 : Int32} {x2 : Int32} {x3 : Int32} {x4 : Int32} {v5 : Option Value} {v6 : Option Value} {f1 : Int32} (h1 : zgf w a0 3 1 = some (.int f1)) : zd scr 35 9 [some (.ref a0), some (.int x1), some (.int x2), some (.int x3), some (.int x4), v5, v6] [] w = if x4 < f1 then zd scr 35 18 [some (.ref a0), some (.int x1), some (.int x2), some (.int x3), some (.int x4), v5, v6] [] w else zd scr 35 65 [some (.ref a0), some (.int x1), some (.int x2), some (.int x3), some (.int x4), v5, v6] [] w := by
  refine Eq.trans (zd_iload zh35 rfl rfl) ?_
  refine Eq.trans (zd_aload_n zh35 rfl rfl) ?_
  refine Eq.trans (zd_getfield zh35 (ci := 3) (k := 1) rfl h1 rfl) ?_
  exact zd_icmpge zh35 (t := 65) (by decide) rfl
set_option maxRecDepth 20000 in
theorem b35_18 {scr : List Int32} {w : zAW} {a0 : Nat} {x1 : Int32} {x2 : Int32} {x3 : Int32} {x4 : Int32} {v5 : Option Value} {v6 : Option Value} {g1 : Nat} (h1 : zgf w a0 3 4 = some (.ref g1)) {f2 : Int32} (h2 : zal w g1 x4 = some f2) {g3 : Nat} (h3 : zgf w a0 3 0 = some (.ref g3)) (h4 : zob w g3 1 = true) {f4 : Int32} {w1 : zAW} (h5 : zC scr 13 [.ref g3, .int f2] w = some (some (.int f4), w1)) : zd scr 35 18 [some (.ref a0), some (.int x1), some (.int x2), some (.int x3), some (.int x4), v5, v6] [] w = if ((x1 >>> (f2 &&& 31)) &&& (nI 1)) = 0 then zd scr 35 47 [some (.ref a0), some (.int x1), some (.int x2), some (.int x3), some (.int x4), some (.int f2), some (.int f4)] [] w1 else zd scr 35 59 [some (.ref a0), some (.int x1), some (.int x2), some (.int x3), some (.int x4), some (.int f2), some (.int f4)] [] w1 := by
  refine Eq.trans (zd_aload_n zh35 rfl rfl) ?_
  refine Eq.trans (zd_getfield zh35 (ci := 3) (k := 4) rfl h1 rfl) ?_
  refine Eq.trans (zd_iload zh35 rfl rfl) ?_
  refine Eq.trans (zd_iaload zh35 h2 rfl) ?_
  refine Eq.trans (zd_istore zh35 (ls' := [some (.ref a0), some (.int x1), some (.int x2), some (.int x3), some (.int x4), some (.int f2), v6]) (Nat.le_of_ble_eq_true rfl) rfl rfl) ?_
  refine Eq.trans (zd_aload_n zh35 rfl rfl) ?_
  refine Eq.trans (zd_getfield zh35 (ci := 3) (k := 0) rfl h3 rfl) ?_
  refine Eq.trans (zd_iload zh35 rfl rfl) ?_
  refine Eq.trans (zd_invVi zh35 zh13 rfl rfl ⟨Nat.le_of_ble_eq_true rfl, Nat.le_of_ble_eq_true rfl, Nat.le_of_ble_eq_true rfl, Nat.le_of_ble_eq_true rfl⟩ rfl h4 h5 rfl) ?_
  refine Eq.trans (zd_istore zh35 (ls' := [some (.ref a0), some (.int x1), some (.int x2), some (.int x3), some (.int x4), some (.int f2), some (.int f4)]) (Nat.le_of_ble_eq_true rfl) rfl rfl) ?_
  refine Eq.trans (zd_iload_n zh35 rfl rfl) ?_
  refine Eq.trans (zd_iload zh35 rfl rfl) ?_
  refine Eq.trans (zd_ishr zh35 rfl) ?_
  refine Eq.trans (zd_iconst zh35 (v := (nI 1)) rfl rfl) ?_
  refine Eq.trans (zd_iand zh35 rfl) ?_
  exact zd_ifne zh35 (t := 59) (by decide) rfl
theorem b35_65 {scr : List Int32} {w : zAW} {a0 : Nat} {x1 : Int32} {x2 : Int32} {x3 : Int32} {x4 : Int32} {v5 : Option Value} {v6 : Option Value}  : zd scr 35 65 [some (.ref a0), some (.int x1), some (.int x2), some (.int x3), some (.int x4), v5, v6] [] w = some (some (.int x2), w) := by
  refine Eq.trans (zd_iload_n zh35 rfl rfl) ?_
  exact zd_iret zh35 rfl rfl
theorem b35_47 {scr : List Int32} {w : zAW} {a0 : Nat} {x1 : Int32} {x2 : Int32} {x3 : Int32} {x4 : Int32} {x5 : Int32} {x6 : Int32}  : zd scr 35 47 [some (.ref a0), some (.int x1), some (.int x2), some (.int x3), some (.int x4), some (.int x5), some (.int x6)] [] w = if x6 < x3 then zd scr 35 53 [some (.ref a0), some (.int x1), some (.int x2), some (.int x3), some (.int x4), some (.int x5), some (.int x6)] [] w else zd scr 35 59 [some (.ref a0), some (.int x1), some (.int x2), some (.int x3), some (.int x4), some (.int x5), some (.int x6)] [] w := by
  refine Eq.trans (zd_iload zh35 rfl rfl) ?_
  refine Eq.trans (zd_iload_n zh35 rfl rfl) ?_
  exact zd_icmpge zh35 (t := 59) (by decide) rfl
theorem b35_59 {scr : List Int32} {w : zAW} {a0 : Nat} {x1 : Int32} {x2 : Int32} {x3 : Int32} {x4 : Int32} {x5 : Int32} {x6 : Int32}  : zd scr 35 59 [some (.ref a0), some (.int x1), some (.int x2), some (.int x3), some (.int x4), some (.int x5), some (.int x6)] [] w = zd scr 35 9 [some (.ref a0), some (.int x1), some (.int x2), some (.int x3), some (.int (x4 + (nI 1))), some (.int x5), some (.int x6)] [] w := by
  refine Eq.trans (zd_iinc zh35 (ls' := [some (.ref a0), some (.int x1), some (.int x2), some (.int x3), some (.int (x4 + (nI 1))), some (.int x5), some (.int x6)]) (v := (x4 + (nI 1))) rfl rfl rfl rfl) ?_
  refine Eq.trans (zd_goto zh35 (t := 9) (by decide) rfl) ?_
  exact rfl
theorem b35_53 {scr : List Int32} {w : zAW} {a0 : Nat} {x1 : Int32} {x2 : Int32} {x3 : Int32} {x4 : Int32} {x5 : Int32} {x6 : Int32}  : zd scr 35 53 [some (.ref a0), some (.int x1), some (.int x2), some (.int x3), some (.int x4), some (.int x5), some (.int x6)] [] w = zd scr 35 9 [some (.ref a0), some (.int x1), some (.int x5), some (.int x6), some (.int (x4 + (nI 1))), some (.int x5), some (.int x6)] [] w := by
  refine Eq.trans (zd_iload zh35 rfl rfl) ?_
  refine Eq.trans (zd_istore_n zh35 (ls' := [some (.ref a0), some (.int x1), some (.int x5), some (.int x3), some (.int x4), some (.int x5), some (.int x6)]) (Nat.le_of_ble_eq_true rfl) rfl rfl) ?_
  refine Eq.trans (zd_iload zh35 rfl rfl) ?_
  refine Eq.trans (zd_istore_n zh35 (ls' := [some (.ref a0), some (.int x1), some (.int x5), some (.int x6), some (.int x4), some (.int x5), some (.int x6)]) (Nat.le_of_ble_eq_true rfl) rfl rfl) ?_
  refine Eq.trans (zd_iinc zh35 (ls' := [some (.ref a0), some (.int x1), some (.int x5), some (.int x6), some (.int (x4 + (nI 1))), some (.int x5), some (.int x6)]) (v := (x4 + (nI 1))) rfl rfl rfl rfl) ?_
  refine Eq.trans (zd_goto zh35 (t := 9) (by decide) rfl) ?_
  exact rfl
/-! yX3_exchangeUnlessVetoed: 36, MarbleHeirs$State.exchangeUnlessVetoed(IIII)I -/
set_option maxRecDepth 20000 in
theorem b36_0 {scr : List Int32} {w : zAW} {a0 : Nat} {x1 : Int32} {x2 : Int32} {x3 : Int32} {x4 : Int32} (h1 : zob w a0 3 = true) {f1 : Int32} {w1 : zAW} (h2 : zC scr 38 [.ref a0, .int x1, .int x2, .int x3, .int x4] w = some (some (.int f1), w1)) : zd scr 36 0 [some (.ref a0), some (.int x1), some (.int x2), some (.int x3), some (.int x4), none] [] w = if f1 = (-6) then zd scr 36 18 [some (.ref a0), some (.int x1), some (.int x2), some (.int x3), some (.int x4), some (.int f1)] [] w1 else zd scr 36 30 [some (.ref a0), some (.int x1), some (.int x2), some (.int x3), some (.int x4), some (.int f1)] [] w1 := by
  refine Eq.trans (zd_aload_n zh36 rfl rfl) ?_
  refine Eq.trans (zd_iload_n zh36 rfl rfl) ?_
  refine Eq.trans (zd_iload_n zh36 rfl rfl) ?_
  refine Eq.trans (zd_iload_n zh36 rfl rfl) ?_
  refine Eq.trans (zd_iload zh36 rfl rfl) ?_
  refine Eq.trans (zd_invVi zh36 zh38 rfl rfl ⟨Nat.le_of_ble_eq_true rfl, Nat.le_of_ble_eq_true rfl, Nat.le_of_ble_eq_true rfl, Nat.le_of_ble_eq_true rfl⟩ rfl h1 h2 rfl) ?_
  refine Eq.trans (zd_istore zh36 (ls' := [some (.ref a0), some (.int x1), some (.int x2), some (.int x3), some (.int x4), some (.int f1)]) (Nat.le_of_ble_eq_true rfl) rfl rfl) ?_
  refine Eq.trans (zd_iload zh36 rfl rfl) ?_
  refine Eq.trans (zd_bipush zh36 (v := (-6)) rfl rfl) ?_
  exact zd_icmpne zh36 (t := 30) (by decide) rfl
set_option maxRecDepth 20000 in
theorem b36_18 {scr : List Int32} {w : zAW} {a0 : Nat} {x1 : Int32} {x2 : Int32} {x3 : Int32} {x4 : Int32} {x5 : Int32} (h1 : zob w a0 3 = true) {w1 : zAW} (h2 : zC scr 37 [.ref a0, .int x1, .int x2, .int x3, .int x4] w = some (none, w1)) : zd scr 36 18 [some (.ref a0), some (.int x1), some (.int x2), some (.int x3), some (.int x4), some (.int x5)] [] w = some (some (.int x5), w1) := by
  refine Eq.trans (zd_aload_n zh36 rfl rfl) ?_
  refine Eq.trans (zd_iload_n zh36 rfl rfl) ?_
  refine Eq.trans (zd_iload_n zh36 rfl rfl) ?_
  refine Eq.trans (zd_iload_n zh36 rfl rfl) ?_
  refine Eq.trans (zd_iload zh36 rfl rfl) ?_
  refine Eq.trans (zd_invVv zh36 zh37 rfl rfl ⟨Nat.le_of_ble_eq_true rfl, Nat.le_of_ble_eq_true rfl, Nat.le_of_ble_eq_true rfl, Nat.le_of_ble_eq_true rfl⟩ rfl h1 h2 rfl) ?_
  refine Eq.trans (zd_goto zh36 (t := 51) (by decide) rfl) ?_
  refine Eq.trans (zd_iload zh36 rfl rfl) ?_
  exact zd_iret zh36 rfl rfl
theorem b36_30 {scr : List Int32} {w : zAW} {a0 : Nat} {x1 : Int32} {x2 : Int32} {x3 : Int32} {x4 : Int32} {x5 : Int32} {g1 : Nat} (h1 : zgf w a0 3 5 = some (.ref g1)) {f2 : Int32} (h2 : zal w g1 x5 = some f2) {w1 : zAW} (h3 : zas w g1 x5 (f2 - (nI 1)) = some w1) {f3 : Int32} (h4 : zgf w1 a0 3 10 = some (.int f3)) {w2 : zAW} (h5 : zpf w1 a0 3 10 (.int (f3 + (nI 1))) = some w2) : zd scr 36 30 [some (.ref a0), some (.int x1), some (.int x2), some (.int x3), some (.int x4), some (.int x5)] [] w = some (some (.int x5), w2) := by
  refine Eq.trans (zd_aload_n zh36 rfl rfl) ?_
  refine Eq.trans (zd_getfield zh36 (ci := 3) (k := 5) rfl h1 rfl) ?_
  refine Eq.trans (zd_iload zh36 rfl rfl) ?_
  refine Eq.trans (zd_dup2 zh36 rfl) ?_
  refine Eq.trans (zd_iaload zh36 h2 rfl) ?_
  refine Eq.trans (zd_iconst zh36 (v := (nI 1)) rfl rfl) ?_
  refine Eq.trans (zd_isub zh36 rfl) ?_
  refine Eq.trans (zd_iastore zh36 h3 rfl) ?_
  refine Eq.trans (zd_aload_n zh36 rfl rfl) ?_
  refine Eq.trans (zd_dup zh36 rfl) ?_
  refine Eq.trans (zd_getfield zh36 (ci := 3) (k := 10) rfl h4 rfl) ?_
  refine Eq.trans (zd_iconst zh36 (v := (nI 1)) rfl rfl) ?_
  refine Eq.trans (zd_iadd zh36 rfl) ?_
  refine Eq.trans (zd_putfield zh36 (ci := 3) (k := 10) rfl rfl h5 rfl) ?_
  refine Eq.trans (zd_iload zh36 rfl rfl) ?_
  exact zd_iret zh36 rfl rfl
/-! yX3_exchange: 37, MarbleHeirs$State.exchange(IIII)V -/
set_option maxRecDepth 20000 in
theorem b37_0 {scr : List Int32} {w : zAW} {a0 : Nat} {x1 : Int32} {x2 : Int32} {x3 : Int32} {x4 : Int32} {g1 : Nat} (h1 : zgf w a0 3 0 = some (.ref g1)) (h2 : zob w g1 1 = true) {w1 : zAW} (h3 : zC scr 18 [.ref g1, .int x1, .int x2, .int x3, .int x4] w = some (none, w1)) {f2 : Int32} (h4 : zgf w1 a0 3 9 = some (.int f2)) {w2 : zAW} (h5 : zpf w1 a0 3 9 (.int (f2 + (nI 1))) = some w2) : zd scr 37 0 [some (.ref a0), some (.int x1), some (.int x2), some (.int x3), some (.int x4)] [] w = some (none, w2) := by
  refine Eq.trans (zd_aload_n zh37 rfl rfl) ?_
  refine Eq.trans (zd_getfield zh37 (ci := 3) (k := 0) rfl h1 rfl) ?_
  refine Eq.trans (zd_iload_n zh37 rfl rfl) ?_
  refine Eq.trans (zd_iload_n zh37 rfl rfl) ?_
  refine Eq.trans (zd_iload_n zh37 rfl rfl) ?_
  refine Eq.trans (zd_iload zh37 rfl rfl) ?_
  refine Eq.trans (zd_invVv zh37 zh18 rfl rfl ⟨Nat.le_of_ble_eq_true rfl, Nat.le_of_ble_eq_true rfl, Nat.le_of_ble_eq_true rfl, Nat.le_of_ble_eq_true rfl⟩ rfl h2 h3 rfl) ?_
  refine Eq.trans (zd_aload_n zh37 rfl rfl) ?_
  refine Eq.trans (zd_dup zh37 rfl) ?_
  refine Eq.trans (zd_getfield zh37 (ci := 3) (k := 9) rfl h4 rfl) ?_
  refine Eq.trans (zd_iconst zh37 (v := (nI 1)) rfl rfl) ?_
  refine Eq.trans (zd_iadd zh37 rfl) ?_
  refine Eq.trans (zd_putfield zh37 (ci := 3) (k := 9) rfl rfl h5 rfl) ?_
  exact zd_vret zh37 rfl rfl
/-! yX3_vetoer: 38, MarbleHeirs$State.vetoer(IIII)I -/
set_option maxRecDepth 20000 in
theorem b38_0 {scr : List Int32} {w : zAW} {a0 : Nat} {x1 : Int32} {x2 : Int32} {x3 : Int32} {x4 : Int32} {g1 : Nat} (h1 : zgf w a0 3 0 = some (.ref g1)) (h2 : zob w g1 1 = true) {f2 : Int32} {w1 : zAW} (h3 : zC scr 11 [.ref g1, .int x1, .int x2] w = some (some (.int f2), w1)) {g3 : Nat} (h4 : zgf w1 a0 3 0 = some (.ref g3)) (h5 : zob w1 g3 1 = true) {f4 : Int32} {w2 : zAW} (h6 : zC scr 11 [.ref g3, .int x3, .int x4] w1 = some (some (.int f4), w2)) {g5 : Nat} (h7 : zgf w2 a0 3 2 = some (.ref g5)) {f6 : Int32} (h8 : zal w2 g5 x1 = some f6) (h9 : zob w2 a0 3 = true) {f7 : Int32} {w3 : zAW} (h10 : zC scr 39 [.ref a0, .int f6, .int (f2 - f4)] w2 = some (some (.int f7), w3)) : zd scr 38 0 [some (.ref a0), some (.int x1), some (.int x2), some (.int x3), some (.int x4), none] [] w = if f7 = 0 then zd scr 38 44 [some (.ref a0), some (.int x1), some (.int x2), some (.int x3), some (.int x4), some (.int (f2 - f4))] [] w3 else zd scr 38 37 [some (.ref a0), some (.int x1), some (.int x2), some (.int x3), some (.int x4), some (.int (f2 - f4))] [] w3 := by
  refine Eq.trans (zd_aload_n zh38 rfl rfl) ?_
  refine Eq.trans (zd_getfield zh38 (ci := 3) (k := 0) rfl h1 rfl) ?_
  refine Eq.trans (zd_iload_n zh38 rfl rfl) ?_
  refine Eq.trans (zd_iload_n zh38 rfl rfl) ?_
  refine Eq.trans (zd_invVi zh38 zh11 rfl rfl ⟨Nat.le_of_ble_eq_true rfl, Nat.le_of_ble_eq_true rfl, Nat.le_of_ble_eq_true rfl, Nat.le_of_ble_eq_true rfl⟩ rfl h2 h3 rfl) ?_
  refine Eq.trans (zd_aload_n zh38 rfl rfl) ?_
  refine Eq.trans (zd_getfield zh38 (ci := 3) (k := 0) rfl h4 rfl) ?_
  refine Eq.trans (zd_iload_n zh38 rfl rfl) ?_
  refine Eq.trans (zd_iload zh38 rfl rfl) ?_
  refine Eq.trans (zd_invVi zh38 zh11 rfl rfl ⟨Nat.le_of_ble_eq_true rfl, Nat.le_of_ble_eq_true rfl, Nat.le_of_ble_eq_true rfl, Nat.le_of_ble_eq_true rfl⟩ rfl h5 h6 rfl) ?_
  refine Eq.trans (zd_isub zh38 rfl) ?_
  refine Eq.trans (zd_istore zh38 (ls' := [some (.ref a0), some (.int x1), some (.int x2), some (.int x3), some (.int x4), some (.int (f2 - f4))]) (Nat.le_of_ble_eq_true rfl) rfl rfl) ?_
  refine Eq.trans (zd_aload_n zh38 rfl rfl) ?_
  refine Eq.trans (zd_aload_n zh38 rfl rfl) ?_
  refine Eq.trans (zd_getfield zh38 (ci := 3) (k := 2) rfl h7 rfl) ?_
  refine Eq.trans (zd_iload_n zh38 rfl rfl) ?_
  refine Eq.trans (zd_iaload zh38 h8 rfl) ?_
  refine Eq.trans (zd_iload zh38 rfl rfl) ?_
  refine Eq.trans (zd_invVi zh38 zh39 rfl rfl ⟨Nat.le_of_ble_eq_true rfl, Nat.le_of_ble_eq_true rfl, Nat.le_of_ble_eq_true rfl, Nat.le_of_ble_eq_true rfl⟩ rfl h9 h10 rfl) ?_
  exact zd_ifeq zh38 (t := 44) (by decide) rfl
set_option maxRecDepth 20000 in
theorem b38_44 {scr : List Int32} {w : zAW} {a0 : Nat} {x1 : Int32} {x2 : Int32} {x3 : Int32} {x4 : Int32} {x5 : Int32} {g1 : Nat} (h1 : zgf w a0 3 2 = some (.ref g1)) {f2 : Int32} (h2 : zal w g1 x3 = some f2) (h3 : zob w a0 3 = true) {f3 : Int32} {w1 : zAW} (h4 : zC scr 39 [.ref a0, .int f2, .int (-x5)] w = some (some (.int f3), w1)) : zd scr 38 44 [some (.ref a0), some (.int x1), some (.int x2), some (.int x3), some (.int x4), some (.int x5)] [] w = if f3 = 0 then zd scr 38 69 [some (.ref a0), some (.int x1), some (.int x2), some (.int x3), some (.int x4), some (.int x5)] [] w1 else zd scr 38 60 [some (.ref a0), some (.int x1), some (.int x2), some (.int x3), some (.int x4), some (.int x5)] [] w1 := by
  refine Eq.trans (zd_aload_n zh38 rfl rfl) ?_
  refine Eq.trans (zd_aload_n zh38 rfl rfl) ?_
  refine Eq.trans (zd_getfield zh38 (ci := 3) (k := 2) rfl h1 rfl) ?_
  refine Eq.trans (zd_iload_n zh38 rfl rfl) ?_
  refine Eq.trans (zd_iaload zh38 h2 rfl) ?_
  refine Eq.trans (zd_iload zh38 rfl rfl) ?_
  refine Eq.trans (zd_ineg zh38 rfl) ?_
  refine Eq.trans (zd_invVi zh38 zh39 rfl rfl ⟨Nat.le_of_ble_eq_true rfl, Nat.le_of_ble_eq_true rfl, Nat.le_of_ble_eq_true rfl, Nat.le_of_ble_eq_true rfl⟩ rfl h3 h4 rfl) ?_
  exact zd_ifeq zh38 (t := 69) (by decide) rfl
theorem b38_37 {scr : List Int32} {w : zAW} {a0 : Nat} {x1 : Int32} {x2 : Int32} {x3 : Int32} {x4 : Int32} {x5 : Int32} {g1 : Nat} (h1 : zgf w a0 3 2 = some (.ref g1)) {f2 : Int32} (h2 : zal w g1 x1 = some f2) : zd scr 38 37 [some (.ref a0), some (.int x1), some (.int x2), some (.int x3), some (.int x4), some (.int x5)] [] w = some (some (.int f2), w) := by
  refine Eq.trans (zd_aload_n zh38 rfl rfl) ?_
  refine Eq.trans (zd_getfield zh38 (ci := 3) (k := 2) rfl h1 rfl) ?_
  refine Eq.trans (zd_iload_n zh38 rfl rfl) ?_
  refine Eq.trans (zd_iaload zh38 h2 rfl) ?_
  exact zd_iret zh38 rfl rfl
theorem b38_69 {scr : List Int32} {w : zAW} {a0 : Nat} {x1 : Int32} {x2 : Int32} {x3 : Int32} {x4 : Int32} {x5 : Int32}  : zd scr 38 69 [some (.ref a0), some (.int x1), some (.int x2), some (.int x3), some (.int x4), some (.int x5)] [] w = some (some (.int (-6)), w) := by
  refine Eq.trans (zd_bipush zh38 (v := (-6)) rfl rfl) ?_
  exact zd_iret zh38 rfl rfl
theorem b38_60 {scr : List Int32} {w : zAW} {a0 : Nat} {x1 : Int32} {x2 : Int32} {x3 : Int32} {x4 : Int32} {x5 : Int32} {g1 : Nat} (h1 : zgf w a0 3 2 = some (.ref g1)) {f2 : Int32} (h2 : zal w g1 x3 = some f2) : zd scr 38 60 [some (.ref a0), some (.int x1), some (.int x2), some (.int x3), some (.int x4), some (.int x5)] [] w = some (some (.int f2), w) := by
  refine Eq.trans (zd_aload_n zh38 rfl rfl) ?_
  refine Eq.trans (zd_getfield zh38 (ci := 3) (k := 2) rfl h1 rfl) ?_
  refine Eq.trans (zd_iload_n zh38 rfl rfl) ?_
  refine Eq.trans (zd_iaload zh38 h2 rfl) ?_
  refine Eq.trans (zd_goto zh38 (t := 71) (by decide) rfl) ?_
  exact zd_iret zh38 rfl rfl
/-! yX3_objects: 39, MarbleHeirs$State.objects(II)Z -/
theorem b39_0 {scr : List Int32} {w : zAW} {a0 : Nat} {x1 : Int32} {x2 : Int32} {f1 : Int32} (h1 : zgf w a0 3 7 = some (.int f1)) : zd scr 39 0 [some (.ref a0), some (.int x1), some (.int x2)] [] w = if f1 < x2 then zd scr 39 8 [some (.ref a0), some (.int x1), some (.int x2)] [] w else zd scr 39 21 [some (.ref a0), some (.int x1), some (.int x2)] [] w := by
  refine Eq.trans (zd_iload_n zh39 rfl rfl) ?_
  refine Eq.trans (zd_aload_n zh39 rfl rfl) ?_
  refine Eq.trans (zd_getfield zh39 (ci := 3) (k := 7) rfl h1 rfl) ?_
  exact zd_icmple zh39 (t := 21) (by decide) rfl
theorem b39_8 {scr : List Int32} {w : zAW} {a0 : Nat} {x1 : Int32} {x2 : Int32} {g1 : Nat} (h1 : zgf w a0 3 5 = some (.ref g1)) {f2 : Int32} (h2 : zal w g1 x1 = some f2) : zd scr 39 8 [some (.ref a0), some (.int x1), some (.int x2)] [] w = if 0 < f2 then zd scr 39 17 [some (.ref a0), some (.int x1), some (.int x2)] [] w else zd scr 39 21 [some (.ref a0), some (.int x1), some (.int x2)] [] w := by
  refine Eq.trans (zd_aload_n zh39 rfl rfl) ?_
  refine Eq.trans (zd_getfield zh39 (ci := 3) (k := 5) rfl h1 rfl) ?_
  refine Eq.trans (zd_iload_n zh39 rfl rfl) ?_
  refine Eq.trans (zd_iaload zh39 h2 rfl) ?_
  exact zd_ifle zh39 (t := 21) (by decide) rfl
theorem b39_21 {scr : List Int32} {w : zAW} {a0 : Nat} {x1 : Int32} {x2 : Int32}  : zd scr 39 21 [some (.ref a0), some (.int x1), some (.int x2)] [] w = some (some (.int (nI 0)), w) := by
  refine Eq.trans (zd_iconst zh39 (v := (nI 0)) rfl rfl) ?_
  exact zd_iret zh39 rfl rfl
theorem b39_17 {scr : List Int32} {w : zAW} {a0 : Nat} {x1 : Int32} {x2 : Int32}  : zd scr 39 17 [some (.ref a0), some (.int x1), some (.int x2)] [] w = some (some (.int (nI 1)), w) := by
  refine Eq.trans (zd_iconst zh39 (v := (nI 1)) rfl rfl) ?_
  refine Eq.trans (zd_goto zh39 (t := 22) (by decide) rfl) ?_
  exact zd_iret zh39 rfl rfl
/-! yX3_about: 40, MarbleHeirs$State.about(II)I -/
theorem b40_0_c0 {scr : List Int32} {w : zAW} {a0 : Nat} {x1 : Int32} {x2 : Int32}  (hx : x2 = (nI 0)) : zd scr 40 0 [some (.ref a0), some (.int x1), some (.int x2)] [] w = zd scr 40 36 [some (.ref a0), some (.int x1), some (.int x2)] [] w := by
  refine Eq.trans (zd_iload_n zh40 rfl rfl) ?_
  exact zd_tabIn zh40 (off := 35) (by rw [hx]; decide) (by rw [hx]; rfl) (by decide) rfl
theorem b40_0_c1 {scr : List Int32} {w : zAW} {a0 : Nat} {x1 : Int32} {x2 : Int32}  (hx : x2 = (nI 1)) : zd scr 40 0 [some (.ref a0), some (.int x1), some (.int x2)] [] w = zd scr 40 43 [some (.ref a0), some (.int x1), some (.int x2)] [] w := by
  refine Eq.trans (zd_iload_n zh40 rfl rfl) ?_
  exact zd_tabIn zh40 (off := 42) (by rw [hx]; decide) (by rw [hx]; rfl) (by decide) rfl
theorem b40_0_c2 {scr : List Int32} {w : zAW} {a0 : Nat} {x1 : Int32} {x2 : Int32}  (hx : x2 = (nI 2)) : zd scr 40 0 [some (.ref a0), some (.int x1), some (.int x2)] [] w = zd scr 40 50 [some (.ref a0), some (.int x1), some (.int x2)] [] w := by
  refine Eq.trans (zd_iload_n zh40 rfl rfl) ?_
  exact zd_tabIn zh40 (off := 49) (by rw [hx]; decide) (by rw [hx]; rfl) (by decide) rfl
theorem b40_0_c3 {scr : List Int32} {w : zAW} {a0 : Nat} {x1 : Int32} {x2 : Int32}  (hx : x2 = (nI 3)) : zd scr 40 0 [some (.ref a0), some (.int x1), some (.int x2)] [] w = zd scr 40 59 [some (.ref a0), some (.int x1), some (.int x2)] [] w := by
  refine Eq.trans (zd_iload_n zh40 rfl rfl) ?_
  exact zd_tabIn zh40 (off := 58) (by rw [hx]; decide) (by rw [hx]; rfl) (by decide) rfl
theorem b40_0_c4 {scr : List Int32} {w : zAW} {a0 : Nat} {x1 : Int32} {x2 : Int32}  (hx : x2 = (nI 4)) : zd scr 40 0 [some (.ref a0), some (.int x1), some (.int x2)] [] w = zd scr 40 68 [some (.ref a0), some (.int x1), some (.int x2)] [] w := by
  refine Eq.trans (zd_iload_n zh40 rfl rfl) ?_
  exact zd_tabIn zh40 (off := 67) (by rw [hx]; decide) (by rw [hx]; rfl) (by decide) rfl
theorem b40_0_d {scr : List Int32} {w : zAW} {a0 : Nat} {x1 : Int32} {x2 : Int32}  (hx : (x2).toInt < 0 ∨ 4 < (x2).toInt) : zd scr 40 0 [some (.ref a0), some (.int x1), some (.int x2)] [] w = zd scr 40 83 [some (.ref a0), some (.int x1), some (.int x2)] [] w := by
  refine Eq.trans (zd_iload_n zh40 rfl rfl) ?_
  exact zd_tabOut zh40 hx (by decide) rfl
theorem b40_36 {scr : List Int32} {w : zAW} {a0 : Nat} {x1 : Int32} {x2 : Int32} {g1 : Nat} (h1 : zgf w a0 3 2 = some (.ref g1)) {f2 : Int32} (h2 : zal w g1 x1 = some f2) : zd scr 40 36 [some (.ref a0), some (.int x1), some (.int x2)] [] w = some (some (.int f2), w) := by
  refine Eq.trans (zd_aload_n zh40 rfl rfl) ?_
  refine Eq.trans (zd_getfield zh40 (ci := 3) (k := 2) rfl h1 rfl) ?_
  refine Eq.trans (zd_iload_n zh40 rfl rfl) ?_
  refine Eq.trans (zd_iaload zh40 h2 rfl) ?_
  exact zd_iret zh40 rfl rfl
theorem b40_43 {scr : List Int32} {w : zAW} {a0 : Nat} {x1 : Int32} {x2 : Int32} {g1 : Nat} (h1 : zgf w a0 3 3 = some (.ref g1)) {f2 : Int32} (h2 : zal w g1 x1 = some f2) : zd scr 40 43 [some (.ref a0), some (.int x1), some (.int x2)] [] w = some (some (.int f2), w) := by
  refine Eq.trans (zd_aload_n zh40 rfl rfl) ?_
  refine Eq.trans (zd_getfield zh40 (ci := 3) (k := 3) rfl h1 rfl) ?_
  refine Eq.trans (zd_iload_n zh40 rfl rfl) ?_
  refine Eq.trans (zd_iaload zh40 h2 rfl) ?_
  exact zd_iret zh40 rfl rfl
set_option maxRecDepth 20000 in
theorem b40_50 {scr : List Int32} {w : zAW} {a0 : Nat} {x1 : Int32} {x2 : Int32} {g1 : Nat} (h1 : zgf w a0 3 0 = some (.ref g1)) (h2 : zob w g1 1 = true) {f2 : Int32} {w1 : zAW} (h3 : zC scr 8 [.ref g1, .int x1] w = some (some (.int f2), w1)) : zd scr 40 50 [some (.ref a0), some (.int x1), some (.int x2)] [] w = some (some (.int f2), w1) := by
  refine Eq.trans (zd_aload_n zh40 rfl rfl) ?_
  refine Eq.trans (zd_getfield zh40 (ci := 3) (k := 0) rfl h1 rfl) ?_
  refine Eq.trans (zd_iload_n zh40 rfl rfl) ?_
  refine Eq.trans (zd_invVi zh40 zh8 rfl rfl ⟨Nat.le_of_ble_eq_true rfl, Nat.le_of_ble_eq_true rfl, Nat.le_of_ble_eq_true rfl, Nat.le_of_ble_eq_true rfl⟩ rfl h2 h3 rfl) ?_
  exact zd_iret zh40 rfl rfl
set_option maxRecDepth 20000 in
theorem b40_59 {scr : List Int32} {w : zAW} {a0 : Nat} {x1 : Int32} {x2 : Int32} {g1 : Nat} (h1 : zgf w a0 3 0 = some (.ref g1)) (h2 : zob w g1 1 = true) {f2 : Int32} {w1 : zAW} (h3 : zC scr 13 [.ref g1, .int x1] w = some (some (.int f2), w1)) : zd scr 40 59 [some (.ref a0), some (.int x1), some (.int x2)] [] w = some (some (.int f2), w1) := by
  refine Eq.trans (zd_aload_n zh40 rfl rfl) ?_
  refine Eq.trans (zd_getfield zh40 (ci := 3) (k := 0) rfl h1 rfl) ?_
  refine Eq.trans (zd_iload_n zh40 rfl rfl) ?_
  refine Eq.trans (zd_invVi zh40 zh13 rfl rfl ⟨Nat.le_of_ble_eq_true rfl, Nat.le_of_ble_eq_true rfl, Nat.le_of_ble_eq_true rfl, Nat.le_of_ble_eq_true rfl⟩ rfl h2 h3 rfl) ?_
  exact zd_iret zh40 rfl rfl
set_option maxRecDepth 20000 in
theorem b40_68 {scr : List Int32} {w : zAW} {a0 : Nat} {x1 : Int32} {x2 : Int32} {g1 : Nat} (h1 : zgf w a0 3 0 = some (.ref g1)) {g2 : Nat} (h2 : zgf w a0 3 3 = some (.ref g2)) {f3 : Int32} (h3 : zal w g2 x1 = some f3) (h4 : zob w g1 1 = true) {f4 : Int32} {w1 : zAW} (h5 : zC scr 14 [.ref g1, .int x1, .int f3] w = some (some (.int f4), w1)) : zd scr 40 68 [some (.ref a0), some (.int x1), some (.int x2)] [] w = some (some (.int f4), w1) := by
  refine Eq.trans (zd_aload_n zh40 rfl rfl) ?_
  refine Eq.trans (zd_getfield zh40 (ci := 3) (k := 0) rfl h1 rfl) ?_
  refine Eq.trans (zd_iload_n zh40 rfl rfl) ?_
  refine Eq.trans (zd_aload_n zh40 rfl rfl) ?_
  refine Eq.trans (zd_getfield zh40 (ci := 3) (k := 3) rfl h2 rfl) ?_
  refine Eq.trans (zd_iload_n zh40 rfl rfl) ?_
  refine Eq.trans (zd_iaload zh40 h3 rfl) ?_
  refine Eq.trans (zd_invVi zh40 zh14 rfl rfl ⟨Nat.le_of_ble_eq_true rfl, Nat.le_of_ble_eq_true rfl, Nat.le_of_ble_eq_true rfl, Nat.le_of_ble_eq_true rfl⟩ rfl h4 h5 rfl) ?_
  exact zd_iret zh40 rfl rfl
set_option maxRecDepth 20000 in
theorem b40_83 {scr : List Int32} {w : zAW} {a0 : Nat} {x1 : Int32} {x2 : Int32} (h1 : zob w a0 3 = true) {f1 : Int32} {w1 : zAW} (h2 : zC scr 30 [.ref a0, .int x1] w = some (some (.int f1), w1)) : zd scr 40 83 [some (.ref a0), some (.int x1), some (.int x2)] [] w = some (some (.int f1), w1) := by
  refine Eq.trans (zd_aload_n zh40 rfl rfl) ?_
  refine Eq.trans (zd_iload_n zh40 rfl rfl) ?_
  refine Eq.trans (zd_invVi zh40 zh30 rfl rfl ⟨Nat.le_of_ble_eq_true rfl, Nat.le_of_ble_eq_true rfl, Nat.le_of_ble_eq_true rfl, Nat.le_of_ble_eq_true rfl⟩ rfl h1 h2 rfl) ?_
  exact zd_iret zh40 rfl rfl
/-! yX3_figure: 41, MarbleHeirs$State.figure(I)I -/
theorem b41_0_c0 {scr : List Int32} {w : zAW} {a0 : Nat} {x1 : Int32}  (hx : x1 = (nI 0)) : zd scr 41 0 [some (.ref a0), some (.int x1)] [] w = zd scr 41 64 [some (.ref a0), some (.int x1)] [] w := by
  refine Eq.trans (zd_iload_n zh41 rfl rfl) ?_
  exact zd_tabIn zh41 (off := 63) (by rw [hx]; decide) (by rw [hx]; rfl) (by decide) rfl
theorem b41_0_c1 {scr : List Int32} {w : zAW} {a0 : Nat} {x1 : Int32}  (hx : x1 = (nI 1)) : zd scr 41 0 [some (.ref a0), some (.int x1)] [] w = zd scr 41 69 [some (.ref a0), some (.int x1)] [] w := by
  refine Eq.trans (zd_iload_n zh41 rfl rfl) ?_
  exact zd_tabIn zh41 (off := 68) (by rw [hx]; decide) (by rw [hx]; rfl) (by decide) rfl
theorem b41_0_c2 {scr : List Int32} {w : zAW} {a0 : Nat} {x1 : Int32}  (hx : x1 = (nI 2)) : zd scr 41 0 [some (.ref a0), some (.int x1)] [] w = zd scr 41 79 [some (.ref a0), some (.int x1)] [] w := by
  refine Eq.trans (zd_iload_n zh41 rfl rfl) ?_
  exact zd_tabIn zh41 (off := 78) (by rw [hx]; decide) (by rw [hx]; rfl) (by decide) rfl
theorem b41_0_c3 {scr : List Int32} {w : zAW} {a0 : Nat} {x1 : Int32}  (hx : x1 = (nI 3)) : zd scr 41 0 [some (.ref a0), some (.int x1)] [] w = zd scr 41 85 [some (.ref a0), some (.int x1)] [] w := by
  refine Eq.trans (zd_iload_n zh41 rfl rfl) ?_
  exact zd_tabIn zh41 (off := 84) (by rw [hx]; decide) (by rw [hx]; rfl) (by decide) rfl
theorem b41_0_c4 {scr : List Int32} {w : zAW} {a0 : Nat} {x1 : Int32}  (hx : x1 = (nI 4)) : zd scr 41 0 [some (.ref a0), some (.int x1)] [] w = zd scr 41 95 [some (.ref a0), some (.int x1)] [] w := by
  refine Eq.trans (zd_iload_n zh41 rfl rfl) ?_
  exact zd_tabIn zh41 (off := 94) (by rw [hx]; decide) (by rw [hx]; rfl) (by decide) rfl
theorem b41_0_c5 {scr : List Int32} {w : zAW} {a0 : Nat} {x1 : Int32}  (hx : x1 = (nI 5)) : zd scr 41 0 [some (.ref a0), some (.int x1)] [] w = zd scr 41 101 [some (.ref a0), some (.int x1)] [] w := by
  refine Eq.trans (zd_iload_n zh41 rfl rfl) ?_
  exact zd_tabIn zh41 (off := 100) (by rw [hx]; decide) (by rw [hx]; rfl) (by decide) rfl
theorem b41_0_c6 {scr : List Int32} {w : zAW} {a0 : Nat} {x1 : Int32}  (hx : x1 = (nI 6)) : zd scr 41 0 [some (.ref a0), some (.int x1)] [] w = zd scr 41 106 [some (.ref a0), some (.int x1)] [] w := by
  refine Eq.trans (zd_iload_n zh41 rfl rfl) ?_
  exact zd_tabIn zh41 (off := 105) (by rw [hx]; decide) (by rw [hx]; rfl) (by decide) rfl
theorem b41_0_c7 {scr : List Int32} {w : zAW} {a0 : Nat} {x1 : Int32}  (hx : x1 = (nI 7)) : zd scr 41 0 [some (.ref a0), some (.int x1)] [] w = zd scr 41 111 [some (.ref a0), some (.int x1)] [] w := by
  refine Eq.trans (zd_iload_n zh41 rfl rfl) ?_
  exact zd_tabIn zh41 (off := 110) (by rw [hx]; decide) (by rw [hx]; rfl) (by decide) rfl
theorem b41_0_c8 {scr : List Int32} {w : zAW} {a0 : Nat} {x1 : Int32}  (hx : x1 = (nI 8)) : zd scr 41 0 [some (.ref a0), some (.int x1)] [] w = zd scr 41 116 [some (.ref a0), some (.int x1)] [] w := by
  refine Eq.trans (zd_iload_n zh41 rfl rfl) ?_
  exact zd_tabIn zh41 (off := 115) (by rw [hx]; decide) (by rw [hx]; rfl) (by decide) rfl
theorem b41_0_c9 {scr : List Int32} {w : zAW} {a0 : Nat} {x1 : Int32}  (hx : x1 = (nI 9)) : zd scr 41 0 [some (.ref a0), some (.int x1)] [] w = zd scr 41 122 [some (.ref a0), some (.int x1)] [] w := by
  refine Eq.trans (zd_iload_n zh41 rfl rfl) ?_
  exact zd_tabIn zh41 (off := 121) (by rw [hx]; decide) (by rw [hx]; rfl) (by decide) rfl
theorem b41_0_c10 {scr : List Int32} {w : zAW} {a0 : Nat} {x1 : Int32}  (hx : x1 = (nI 10)) : zd scr 41 0 [some (.ref a0), some (.int x1)] [] w = zd scr 41 128 [some (.ref a0), some (.int x1)] [] w := by
  refine Eq.trans (zd_iload_n zh41 rfl rfl) ?_
  exact zd_tabIn zh41 (off := 127) (by rw [hx]; decide) (by rw [hx]; rfl) (by decide) rfl
theorem b41_0_c11 {scr : List Int32} {w : zAW} {a0 : Nat} {x1 : Int32}  (hx : x1 = (nI 11)) : zd scr 41 0 [some (.ref a0), some (.int x1)] [] w = zd scr 41 134 [some (.ref a0), some (.int x1)] [] w := by
  refine Eq.trans (zd_iload_n zh41 rfl rfl) ?_
  exact zd_tabIn zh41 (off := 133) (by rw [hx]; decide) (by rw [hx]; rfl) (by decide) rfl
theorem b41_0_d {scr : List Int32} {w : zAW} {a0 : Nat} {x1 : Int32}  (hx : (x1).toInt < 0 ∨ 11 < (x1).toInt) : zd scr 41 0 [some (.ref a0), some (.int x1)] [] w = zd scr 41 139 [some (.ref a0), some (.int x1)] [] w := by
  refine Eq.trans (zd_iload_n zh41 rfl rfl) ?_
  exact zd_tabOut zh41 hx (by decide) rfl
theorem b41_64 {scr : List Int32} {w : zAW} {a0 : Nat} {x1 : Int32} {f1 : Int32} (h1 : zgf w a0 3 1 = some (.int f1)) : zd scr 41 64 [some (.ref a0), some (.int x1)] [] w = some (some (.int f1), w) := by
  refine Eq.trans (zd_aload_n zh41 rfl rfl) ?_
  refine Eq.trans (zd_getfield zh41 (ci := 3) (k := 1) rfl h1 rfl) ?_
  exact zd_iret zh41 rfl rfl
set_option maxRecDepth 20000 in
theorem b41_69 {scr : List Int32} {w : zAW} {a0 : Nat} {x1 : Int32} {g1 : Nat} (h1 : zgf w a0 3 0 = some (.ref g1)) (h2 : zob w g1 1 = true) {f2 : Int32} {w1 : zAW} (h3 : zC scr 8 [.ref g1, .int (nI 6)] w = some (some (.int f2), w1)) : zd scr 41 69 [some (.ref a0), some (.int x1)] [] w = some (some (.int f2), w1) := by
  refine Eq.trans (zd_aload_n zh41 rfl rfl) ?_
  refine Eq.trans (zd_getfield zh41 (ci := 3) (k := 0) rfl h1 rfl) ?_
  refine Eq.trans (zd_bipush zh41 (v := (nI 6)) rfl rfl) ?_
  refine Eq.trans (zd_invVi zh41 zh8 rfl rfl ⟨Nat.le_of_ble_eq_true rfl, Nat.le_of_ble_eq_true rfl, Nat.le_of_ble_eq_true rfl, Nat.le_of_ble_eq_true rfl⟩ rfl h2 h3 rfl) ?_
  exact zd_iret zh41 rfl rfl
set_option maxRecDepth 20000 in
theorem b41_79 {scr : List Int32} {w : zAW} {a0 : Nat} {x1 : Int32} (h1 : zob w a0 3 = true) {f1 : Int32} {w1 : zAW} (h2 : zC scr 42 [.ref a0, .int (nI 2)] w = some (some (.int f1), w1)) : zd scr 41 79 [some (.ref a0), some (.int x1)] [] w = some (some (.int f1), w1) := by
  refine Eq.trans (zd_aload_n zh41 rfl rfl) ?_
  refine Eq.trans (zd_iconst zh41 (v := (nI 2)) rfl rfl) ?_
  refine Eq.trans (zd_invVi zh41 zh42 rfl rfl ⟨Nat.le_of_ble_eq_true rfl, Nat.le_of_ble_eq_true rfl, Nat.le_of_ble_eq_true rfl, Nat.le_of_ble_eq_true rfl⟩ rfl h1 h2 rfl) ?_
  exact zd_iret zh41 rfl rfl
set_option maxRecDepth 20000 in
theorem b41_85 {scr : List Int32} {w : zAW} {a0 : Nat} {x1 : Int32} {g1 : Nat} (h1 : zgf w a0 3 0 = some (.ref g1)) (h2 : zob w g1 1 = true) {f2 : Int32} {w1 : zAW} (h3 : zC scr 13 [.ref g1, .int (nI 6)] w = some (some (.int f2), w1)) : zd scr 41 85 [some (.ref a0), some (.int x1)] [] w = some (some (.int f2), w1) := by
  refine Eq.trans (zd_aload_n zh41 rfl rfl) ?_
  refine Eq.trans (zd_getfield zh41 (ci := 3) (k := 0) rfl h1 rfl) ?_
  refine Eq.trans (zd_bipush zh41 (v := (nI 6)) rfl rfl) ?_
  refine Eq.trans (zd_invVi zh41 zh13 rfl rfl ⟨Nat.le_of_ble_eq_true rfl, Nat.le_of_ble_eq_true rfl, Nat.le_of_ble_eq_true rfl, Nat.le_of_ble_eq_true rfl⟩ rfl h2 h3 rfl) ?_
  exact zd_iret zh41 rfl rfl
set_option maxRecDepth 20000 in
theorem b41_95 {scr : List Int32} {w : zAW} {a0 : Nat} {x1 : Int32} (h1 : zob w a0 3 = true) {f1 : Int32} {w1 : zAW} (h2 : zC scr 42 [.ref a0, .int (nI 3)] w = some (some (.int f1), w1)) : zd scr 41 95 [some (.ref a0), some (.int x1)] [] w = some (some (.int f1), w1) := by
  refine Eq.trans (zd_aload_n zh41 rfl rfl) ?_
  refine Eq.trans (zd_iconst zh41 (v := (nI 3)) rfl rfl) ?_
  refine Eq.trans (zd_invVi zh41 zh42 rfl rfl ⟨Nat.le_of_ble_eq_true rfl, Nat.le_of_ble_eq_true rfl, Nat.le_of_ble_eq_true rfl, Nat.le_of_ble_eq_true rfl⟩ rfl h1 h2 rfl) ?_
  exact zd_iret zh41 rfl rfl
theorem b41_101 {scr : List Int32} {w : zAW} {a0 : Nat} {x1 : Int32} {f1 : Int32} (h1 : zgf w a0 3 8 = some (.int f1)) : zd scr 41 101 [some (.ref a0), some (.int x1)] [] w = some (some (.int f1), w) := by
  refine Eq.trans (zd_aload_n zh41 rfl rfl) ?_
  refine Eq.trans (zd_getfield zh41 (ci := 3) (k := 8) rfl h1 rfl) ?_
  exact zd_iret zh41 rfl rfl
theorem b41_106 {scr : List Int32} {w : zAW} {a0 : Nat} {x1 : Int32} {f1 : Int32} (h1 : zgf w a0 3 9 = some (.int f1)) : zd scr 41 106 [some (.ref a0), some (.int x1)] [] w = some (some (.int f1), w) := by
  refine Eq.trans (zd_aload_n zh41 rfl rfl) ?_
  refine Eq.trans (zd_getfield zh41 (ci := 3) (k := 9) rfl h1 rfl) ?_
  exact zd_iret zh41 rfl rfl
theorem b41_111 {scr : List Int32} {w : zAW} {a0 : Nat} {x1 : Int32} {f1 : Int32} (h1 : zgf w a0 3 10 = some (.int f1)) : zd scr 41 111 [some (.ref a0), some (.int x1)] [] w = some (some (.int f1), w) := by
  refine Eq.trans (zd_aload_n zh41 rfl rfl) ?_
  refine Eq.trans (zd_getfield zh41 (ci := 3) (k := 10) rfl h1 rfl) ?_
  exact zd_iret zh41 rfl rfl
set_option maxRecDepth 20000 in
theorem b41_116 {scr : List Int32} {w : zAW} {a0 : Nat} {x1 : Int32} (h1 : zob w a0 3 = true) {f1 : Int32} {w1 : zAW} (h2 : zC scr 42 [.ref a0, .int (nI 4)] w = some (some (.int f1), w1)) : zd scr 41 116 [some (.ref a0), some (.int x1)] [] w = some (some (.int f1), w1) := by
  refine Eq.trans (zd_aload_n zh41 rfl rfl) ?_
  refine Eq.trans (zd_iconst zh41 (v := (nI 4)) rfl rfl) ?_
  refine Eq.trans (zd_invVi zh41 zh42 rfl rfl ⟨Nat.le_of_ble_eq_true rfl, Nat.le_of_ble_eq_true rfl, Nat.le_of_ble_eq_true rfl, Nat.le_of_ble_eq_true rfl⟩ rfl h1 h2 rfl) ?_
  exact zd_iret zh41 rfl rfl
set_option maxRecDepth 20000 in
theorem b41_122 {scr : List Int32} {w : zAW} {a0 : Nat} {x1 : Int32} (h1 : zob w a0 3 = true) {f1 : Int32} {w1 : zAW} (h2 : zC scr 43 [.ref a0, .int (nI 2)] w = some (some (.int f1), w1)) : zd scr 41 122 [some (.ref a0), some (.int x1)] [] w = some (some (.int f1), w1) := by
  refine Eq.trans (zd_aload_n zh41 rfl rfl) ?_
  refine Eq.trans (zd_iconst zh41 (v := (nI 2)) rfl rfl) ?_
  refine Eq.trans (zd_invVi zh41 zh43 rfl rfl ⟨Nat.le_of_ble_eq_true rfl, Nat.le_of_ble_eq_true rfl, Nat.le_of_ble_eq_true rfl, Nat.le_of_ble_eq_true rfl⟩ rfl h1 h2 rfl) ?_
  exact zd_iret zh41 rfl rfl
set_option maxRecDepth 20000 in
theorem b41_128 {scr : List Int32} {w : zAW} {a0 : Nat} {x1 : Int32} (h1 : zob w a0 3 = true) {f1 : Int32} {w1 : zAW} (h2 : zC scr 43 [.ref a0, .int (nI 3)] w = some (some (.int f1), w1)) : zd scr 41 128 [some (.ref a0), some (.int x1)] [] w = some (some (.int f1), w1) := by
  refine Eq.trans (zd_aload_n zh41 rfl rfl) ?_
  refine Eq.trans (zd_iconst zh41 (v := (nI 3)) rfl rfl) ?_
  refine Eq.trans (zd_invVi zh41 zh43 rfl rfl ⟨Nat.le_of_ble_eq_true rfl, Nat.le_of_ble_eq_true rfl, Nat.le_of_ble_eq_true rfl, Nat.le_of_ble_eq_true rfl⟩ rfl h1 h2 rfl) ?_
  exact zd_iret zh41 rfl rfl
theorem b41_134 {scr : List Int32} {w : zAW} {a0 : Nat} {x1 : Int32} {f1 : Int32} (h1 : zgf w a0 3 6 = some (.int f1)) : zd scr 41 134 [some (.ref a0), some (.int x1)] [] w = some (some (.int f1), w) := by
  refine Eq.trans (zd_aload_n zh41 rfl rfl) ?_
  refine Eq.trans (zd_getfield zh41 (ci := 3) (k := 6) rfl h1 rfl) ?_
  exact zd_iret zh41 rfl rfl
theorem b41_139 {scr : List Int32} {w : zAW} {a0 : Nat} {x1 : Int32} {f1 : Int32} (h1 : zgf w a0 3 7 = some (.int f1)) : zd scr 41 139 [some (.ref a0), some (.int x1)] [] w = some (some (.int f1), w) := by
  refine Eq.trans (zd_aload_n zh41 rfl rfl) ?_
  refine Eq.trans (zd_getfield zh41 (ci := 3) (k := 7) rfl h1 rfl) ?_
  exact zd_iret zh41 rfl rfl
/-! yX3_overAll: 42, MarbleHeirs$State.overAll(I)I -/
theorem b42_0 {scr : List Int32} {w : zAW} {a0 : Nat} {x1 : Int32}  : zd scr 42 0 [some (.ref a0), some (.int x1), none, none] [] w = zd scr 42 4 [some (.ref a0), some (.int x1), some (.int (nI 0)), some (.int (nI 0))] [] w := by
  refine Eq.trans (zd_iconst zh42 (v := (nI 0)) rfl rfl) ?_
  refine Eq.trans (zd_istore_n zh42 (ls' := [some (.ref a0), some (.int x1), some (.int (nI 0)), none]) (Nat.le_of_ble_eq_true rfl) rfl rfl) ?_
  refine Eq.trans (zd_iconst zh42 (v := (nI 0)) rfl rfl) ?_
  refine Eq.trans (zd_istore_n zh42 (ls' := [some (.ref a0), some (.int x1), some (.int (nI 0)), some (.int (nI 0))]) (Nat.le_of_ble_eq_true rfl) rfl rfl) ?_
  exact rfl
theorem b42_4 {scr : List Int32} {w : zAW} {a0 : Nat} {x1 : Int32} {x2 : Int32} {x3 : Int32} {f1 : Int32} (h1 : zgf w a0 3 1 = some (.int f1)) : zd scr 42 4 [some (.ref a0), some (.int x1), some (.int x2), some (.int x3)] [] w = if x3 < f1 then zd scr 42 12 [some (.ref a0), some (.int x1), some (.int x2), some (.int x3)] [] w else zd scr 42 27 [some (.ref a0), some (.int x1), some (.int x2), some (.int x3)] [] w := by
  refine Eq.trans (zd_iload_n zh42 rfl rfl) ?_
  refine Eq.trans (zd_aload_n zh42 rfl rfl) ?_
  refine Eq.trans (zd_getfield zh42 (ci := 3) (k := 1) rfl h1 rfl) ?_
  exact zd_icmpge zh42 (t := 27) (by decide) rfl
set_option maxRecDepth 20000 in
theorem b42_12 {scr : List Int32} {w : zAW} {a0 : Nat} {x1 : Int32} {x2 : Int32} {x3 : Int32} (h1 : zob w a0 3 = true) {f1 : Int32} {w1 : zAW} (h2 : zC scr 40 [.ref a0, .int x3, .int x1] w = some (some (.int f1), w1)) : zd scr 42 12 [some (.ref a0), some (.int x1), some (.int x2), some (.int x3)] [] w = zd scr 42 4 [some (.ref a0), some (.int x1), some (.int (x2 + f1)), some (.int (x3 + (nI 1)))] [] w1 := by
  refine Eq.trans (zd_iload_n zh42 rfl rfl) ?_
  refine Eq.trans (zd_aload_n zh42 rfl rfl) ?_
  refine Eq.trans (zd_iload_n zh42 rfl rfl) ?_
  refine Eq.trans (zd_iload_n zh42 rfl rfl) ?_
  refine Eq.trans (zd_invVi zh42 zh40 rfl rfl ⟨Nat.le_of_ble_eq_true rfl, Nat.le_of_ble_eq_true rfl, Nat.le_of_ble_eq_true rfl, Nat.le_of_ble_eq_true rfl⟩ rfl h1 h2 rfl) ?_
  refine Eq.trans (zd_iadd zh42 rfl) ?_
  refine Eq.trans (zd_istore_n zh42 (ls' := [some (.ref a0), some (.int x1), some (.int (x2 + f1)), some (.int x3)]) (Nat.le_of_ble_eq_true rfl) rfl rfl) ?_
  refine Eq.trans (zd_iinc zh42 (ls' := [some (.ref a0), some (.int x1), some (.int (x2 + f1)), some (.int (x3 + (nI 1)))]) (v := (x3 + (nI 1))) rfl rfl rfl rfl) ?_
  refine Eq.trans (zd_goto zh42 (t := 4) (by decide) rfl) ?_
  exact rfl
theorem b42_27 {scr : List Int32} {w : zAW} {a0 : Nat} {x1 : Int32} {x2 : Int32} {x3 : Int32}  : zd scr 42 27 [some (.ref a0), some (.int x1), some (.int x2), some (.int x3)] [] w = some (some (.int x2), w) := by
  refine Eq.trans (zd_iload_n zh42 rfl rfl) ?_
  exact zd_iret zh42 rfl rfl
/-! yX3_spread: 43, MarbleHeirs$State.spread(I)I -/
theorem b43_0 {scr : List Int32} {w : zAW} {a0 : Nat} {x1 : Int32} {f1 : Int32} (h1 : zgf w a0 3 1 = some (.int f1)) : zd scr 43 0 [some (.ref a0), some (.int x1), none, none, none, none] [] w = if f1 = 0 then zd scr 43 7 [some (.ref a0), some (.int x1), none, none, none, none] [] w else zd scr 43 9 [some (.ref a0), some (.int x1), none, none, none, none] [] w := by
  refine Eq.trans (zd_aload_n zh43 rfl rfl) ?_
  refine Eq.trans (zd_getfield zh43 (ci := 3) (k := 1) rfl h1 rfl) ?_
  exact zd_ifne zh43 (t := 9) (by decide) rfl
theorem b43_21 {scr : List Int32} {w : zAW} {a0 : Nat} {x1 : Int32} {x2 : Int32} {x3 : Int32} {x4 : Int32} {v5 : Option Value} {f1 : Int32} (h1 : zgf w a0 3 1 = some (.int f1)) : zd scr 43 21 [some (.ref a0), some (.int x1), some (.int x2), some (.int x3), some (.int x4), v5] [] w = if x4 < f1 then zd scr 43 30 [some (.ref a0), some (.int x1), some (.int x2), some (.int x3), some (.int x4), v5] [] w else zd scr 43 59 [some (.ref a0), some (.int x1), some (.int x2), some (.int x3), some (.int x4), v5] [] w := by
  refine Eq.trans (zd_iload zh43 rfl rfl) ?_
  refine Eq.trans (zd_aload_n zh43 rfl rfl) ?_
  refine Eq.trans (zd_getfield zh43 (ci := 3) (k := 1) rfl h1 rfl) ?_
  exact zd_icmpge zh43 (t := 59) (by decide) rfl
theorem b43_7 {scr : List Int32} {w : zAW} {a0 : Nat} {x1 : Int32}  : zd scr 43 7 [some (.ref a0), some (.int x1), none, none, none, none] [] w = some (some (.int (nI 0)), w) := by
  refine Eq.trans (zd_iconst zh43 (v := (nI 0)) rfl rfl) ?_
  exact zd_iret zh43 rfl rfl
set_option maxRecDepth 20000 in
theorem b43_9 {scr : List Int32} {w : zAW} {a0 : Nat} {x1 : Int32} (h1 : zob w a0 3 = true) {f1 : Int32} {w1 : zAW} (h2 : zC scr 40 [.ref a0, .int (nI 0), .int x1] w = some (some (.int f1), w1)) : zd scr 43 9 [some (.ref a0), some (.int x1), none, none, none, none] [] w = zd scr 43 21 [some (.ref a0), some (.int x1), some (.int f1), some (.int f1), some (.int (nI 1)), none] [] w1 := by
  refine Eq.trans (zd_aload_n zh43 rfl rfl) ?_
  refine Eq.trans (zd_iconst zh43 (v := (nI 0)) rfl rfl) ?_
  refine Eq.trans (zd_iload_n zh43 rfl rfl) ?_
  refine Eq.trans (zd_invVi zh43 zh40 rfl rfl ⟨Nat.le_of_ble_eq_true rfl, Nat.le_of_ble_eq_true rfl, Nat.le_of_ble_eq_true rfl, Nat.le_of_ble_eq_true rfl⟩ rfl h1 h2 rfl) ?_
  refine Eq.trans (zd_istore_n zh43 (ls' := [some (.ref a0), some (.int x1), some (.int f1), none, none, none]) (Nat.le_of_ble_eq_true rfl) rfl rfl) ?_
  refine Eq.trans (zd_iload_n zh43 rfl rfl) ?_
  refine Eq.trans (zd_istore_n zh43 (ls' := [some (.ref a0), some (.int x1), some (.int f1), some (.int f1), none, none]) (Nat.le_of_ble_eq_true rfl) rfl rfl) ?_
  refine Eq.trans (zd_iconst zh43 (v := (nI 1)) rfl rfl) ?_
  refine Eq.trans (zd_istore zh43 (ls' := [some (.ref a0), some (.int x1), some (.int f1), some (.int f1), some (.int (nI 1)), none]) (Nat.le_of_ble_eq_true rfl) rfl rfl) ?_
  exact rfl
set_option maxRecDepth 20000 in
theorem b43_30 {scr : List Int32} {w : zAW} {a0 : Nat} {x1 : Int32} {x2 : Int32} {x3 : Int32} {x4 : Int32} {v5 : Option Value} (h1 : zob w a0 3 = true) {f1 : Int32} {w1 : zAW} (h2 : zC scr 40 [.ref a0, .int x4, .int x1] w = some (some (.int f1), w1)) : zd scr 43 30 [some (.ref a0), some (.int x1), some (.int x2), some (.int x3), some (.int x4), v5] [] w = zd scr 43 21 [some (.ref a0), some (.int x1), some (.int (if f1 < x2 then f1 else x2)), some (.int (if x3 < f1 then f1 else x3)), some (.int (x4 + (nI 1))), some (.int f1)] [] w1 := by
  refine Eq.trans (zd_aload_n zh43 rfl rfl) ?_
  refine Eq.trans (zd_iload zh43 rfl rfl) ?_
  refine Eq.trans (zd_iload_n zh43 rfl rfl) ?_
  refine Eq.trans (zd_invVi zh43 zh40 rfl rfl ⟨Nat.le_of_ble_eq_true rfl, Nat.le_of_ble_eq_true rfl, Nat.le_of_ble_eq_true rfl, Nat.le_of_ble_eq_true rfl⟩ rfl h1 h2 rfl) ?_
  refine Eq.trans (zd_istore zh43 (ls' := [some (.ref a0), some (.int x1), some (.int x2), some (.int x3), some (.int x4), some (.int f1)]) (Nat.le_of_ble_eq_true rfl) rfl rfl) ?_
  refine Eq.trans (zd_iload_n zh43 rfl rfl) ?_
  refine Eq.trans (zd_iload zh43 rfl rfl) ?_
  refine Eq.trans (zd_min zh43 rfl ⟨Nat.le_of_ble_eq_true rfl, Nat.le_of_ble_eq_true rfl⟩ rfl) ?_
  refine Eq.trans (zd_istore_n zh43 (ls' := [some (.ref a0), some (.int x1), some (.int (if f1 < x2 then f1 else x2)), some (.int x3), some (.int x4), some (.int f1)]) (Nat.le_of_ble_eq_true rfl) rfl rfl) ?_
  refine Eq.trans (zd_iload_n zh43 rfl rfl) ?_
  refine Eq.trans (zd_iload zh43 rfl rfl) ?_
  refine Eq.trans (zd_max zh43 rfl ⟨Nat.le_of_ble_eq_true rfl, Nat.le_of_ble_eq_true rfl⟩ rfl) ?_
  refine Eq.trans (zd_istore_n zh43 (ls' := [some (.ref a0), some (.int x1), some (.int (if f1 < x2 then f1 else x2)), some (.int (if x3 < f1 then f1 else x3)), some (.int x4), some (.int f1)]) (Nat.le_of_ble_eq_true rfl) rfl rfl) ?_
  refine Eq.trans (zd_iinc zh43 (ls' := [some (.ref a0), some (.int x1), some (.int (if f1 < x2 then f1 else x2)), some (.int (if x3 < f1 then f1 else x3)), some (.int (x4 + (nI 1))), some (.int f1)]) (v := (x4 + (nI 1))) rfl rfl rfl rfl) ?_
  refine Eq.trans (zd_goto zh43 (t := 21) (by decide) rfl) ?_
  exact rfl
theorem b43_59 {scr : List Int32} {w : zAW} {a0 : Nat} {x1 : Int32} {x2 : Int32} {x3 : Int32} {x4 : Int32} {v5 : Option Value}  : zd scr 43 59 [some (.ref a0), some (.int x1), some (.int x2), some (.int x3), some (.int x4), v5] [] w = some (some (.int (x3 - x2)), w) := by
  refine Eq.trans (zd_iload_n zh43 rfl rfl) ?_
  refine Eq.trans (zd_iload_n zh43 rfl rfl) ?_
  refine Eq.trans (zd_isub zh43 rfl) ?_
  exact zd_iret zh43 rfl rfl
/-! yX4_init: 44, MarbleHeirs$Text.<init>()V -/
/-! yX4_add: 45, MarbleHeirs$Text.add(I)V -/
theorem b45_0 {scr : List Int32} {w : zAW} {a0 : Nat} {x1 : Int32} {f1 : Int32} (h1 : zgf w a0 4 1 = some (.int f1)) : zd scr 45 0 [some (.ref a0), some (.int x1)] [] w = if f1 < (nI 50) then zd scr 45 9 [some (.ref a0), some (.int x1)] [] w else zd scr 45 29 [some (.ref a0), some (.int x1)] [] w := by
  refine Eq.trans (zd_aload_n zh45 rfl rfl) ?_
  refine Eq.trans (zd_getfield zh45 (ci := 4) (k := 1) rfl h1 rfl) ?_
  refine Eq.trans (zd_bipush zh45 (v := (nI 50)) rfl rfl) ?_
  exact zd_icmpge zh45 (t := 29) (by decide) rfl
theorem b45_9 {scr : List Int32} {w : zAW} {a0 : Nat} {x1 : Int32} {g1 : Nat} (h1 : zgf w a0 4 0 = some (.ref g1)) {f2 : Int32} (h2 : zgf w a0 4 1 = some (.int f2)) {w1 : zAW} (h3 : zas w g1 f2 x1 = some w1) {f3 : Int32} (h4 : zgf w1 a0 4 1 = some (.int f3)) {w2 : zAW} (h5 : zpf w1 a0 4 1 (.int (f3 + (nI 1))) = some w2) : zd scr 45 9 [some (.ref a0), some (.int x1)] [] w = some (none, w2) := by
  refine Eq.trans (zd_aload_n zh45 rfl rfl) ?_
  refine Eq.trans (zd_getfield zh45 (ci := 4) (k := 0) rfl h1 rfl) ?_
  refine Eq.trans (zd_aload_n zh45 rfl rfl) ?_
  refine Eq.trans (zd_getfield zh45 (ci := 4) (k := 1) rfl h2 rfl) ?_
  refine Eq.trans (zd_iload_n zh45 rfl rfl) ?_
  refine Eq.trans (zd_iastore zh45 h3 rfl) ?_
  refine Eq.trans (zd_aload_n zh45 rfl rfl) ?_
  refine Eq.trans (zd_dup zh45 rfl) ?_
  refine Eq.trans (zd_getfield zh45 (ci := 4) (k := 1) rfl h4 rfl) ?_
  refine Eq.trans (zd_iconst zh45 (v := (nI 1)) rfl rfl) ?_
  refine Eq.trans (zd_iadd zh45 rfl) ?_
  refine Eq.trans (zd_putfield zh45 (ci := 4) (k := 1) rfl rfl h5 rfl) ?_
  exact zd_vret zh45 rfl rfl
theorem b45_29 {scr : List Int32} {w : zAW} {a0 : Nat} {x1 : Int32}  : zd scr 45 29 [some (.ref a0), some (.int x1)] [] w = some (none, w) := by
  exact zd_vret zh45 rfl rfl
/-! yX4_firstError: 46, MarbleHeirs$Text.firstError()I -/
theorem b46_0 {scr : List Int32} {w : zAW} {a0 : Nat}  : zd scr 46 0 [some (.ref a0), none, none] [] w = zd scr 46 4 [some (.ref a0), some (.int (nI 0)), some (.int (nI 0))] [] w := by
  refine Eq.trans (zd_iconst zh46 (v := (nI 0)) rfl rfl) ?_
  refine Eq.trans (zd_istore_n zh46 (ls' := [some (.ref a0), some (.int (nI 0)), none]) (Nat.le_of_ble_eq_true rfl) rfl rfl) ?_
  refine Eq.trans (zd_iconst zh46 (v := (nI 0)) rfl rfl) ?_
  refine Eq.trans (zd_istore_n zh46 (ls' := [some (.ref a0), some (.int (nI 0)), some (.int (nI 0))]) (Nat.le_of_ble_eq_true rfl) rfl rfl) ?_
  exact rfl
theorem b46_4 {scr : List Int32} {w : zAW} {a0 : Nat} {x1 : Int32} {x2 : Int32} {f1 : Int32} (h1 : zgf w a0 4 1 = some (.int f1)) : zd scr 46 4 [some (.ref a0), some (.int x1), some (.int x2)] [] w = if x2 < f1 then zd scr 46 12 [some (.ref a0), some (.int x1), some (.int x2)] [] w else zd scr 46 36 [some (.ref a0), some (.int x1), some (.int x2)] [] w := by
  refine Eq.trans (zd_iload_n zh46 rfl rfl) ?_
  refine Eq.trans (zd_aload_n zh46 rfl rfl) ?_
  refine Eq.trans (zd_getfield zh46 (ci := 4) (k := 1) rfl h1 rfl) ?_
  exact zd_icmpge zh46 (t := 36) (by decide) rfl
set_option maxRecDepth 20000 in
theorem b46_12 {scr : List Int32} {w : zAW} {a0 : Nat} {x1 : Int32} {x2 : Int32} {g1 : Nat} (h1 : zgf w a0 4 0 = some (.ref g1)) {f2 : Int32} (h2 : zal w g1 x2 = some f2) {f3 : Int32} {w1 : zAW} (h3 : zC scr 49 [.int x1, .int f2] w = some (some (.int f3), w1)) : zd scr 46 12 [some (.ref a0), some (.int x1), some (.int x2)] [] w = if f3 = (nI 3) then zd scr 46 28 [some (.ref a0), some (.int f3), some (.int x2)] [] w1 else zd scr 46 30 [some (.ref a0), some (.int f3), some (.int x2)] [] w1 := by
  refine Eq.trans (zd_iload_n zh46 rfl rfl) ?_
  refine Eq.trans (zd_aload_n zh46 rfl rfl) ?_
  refine Eq.trans (zd_getfield zh46 (ci := 4) (k := 0) rfl h1 rfl) ?_
  refine Eq.trans (zd_iload_n zh46 rfl rfl) ?_
  refine Eq.trans (zd_iaload zh46 h2 rfl) ?_
  refine Eq.trans (zd_invSi zh46 zh49 rfl rfl ⟨Nat.le_of_ble_eq_true rfl, Nat.le_of_ble_eq_true rfl, Nat.le_of_ble_eq_true rfl, Nat.le_of_ble_eq_true rfl, Nat.le_of_ble_eq_true rfl⟩ rfl h3 rfl) ?_
  refine Eq.trans (zd_istore_n zh46 (ls' := [some (.ref a0), some (.int f3), some (.int x2)]) (Nat.le_of_ble_eq_true rfl) rfl rfl) ?_
  refine Eq.trans (zd_iload_n zh46 rfl rfl) ?_
  refine Eq.trans (zd_iconst zh46 (v := (nI 3)) rfl rfl) ?_
  exact zd_icmpne zh46 (t := 30) (by decide) rfl
theorem b46_36 {scr : List Int32} {w : zAW} {a0 : Nat} {x1 : Int32} {x2 : Int32}  : zd scr 46 36 [some (.ref a0), some (.int x1), some (.int x2)] [] w = if x1 = 0 then zd scr 46 40 [some (.ref a0), some (.int x1), some (.int x2)] [] w else zd scr 46 52 [some (.ref a0), some (.int x1), some (.int x2)] [] w := by
  refine Eq.trans (zd_iload_n zh46 rfl rfl) ?_
  exact zd_ifne zh46 (t := 52) (by decide) rfl
theorem b46_28 {scr : List Int32} {w : zAW} {a0 : Nat} {x1 : Int32} {x2 : Int32}  : zd scr 46 28 [some (.ref a0), some (.int x1), some (.int x2)] [] w = some (some (.int x2), w) := by
  refine Eq.trans (zd_iload_n zh46 rfl rfl) ?_
  exact zd_iret zh46 rfl rfl
theorem b46_30 {scr : List Int32} {w : zAW} {a0 : Nat} {x1 : Int32} {x2 : Int32}  : zd scr 46 30 [some (.ref a0), some (.int x1), some (.int x2)] [] w = zd scr 46 4 [some (.ref a0), some (.int x1), some (.int (x2 + (nI 1)))] [] w := by
  refine Eq.trans (zd_iinc zh46 (ls' := [some (.ref a0), some (.int x1), some (.int (x2 + (nI 1)))]) (v := (x2 + (nI 1))) rfl rfl rfl rfl) ?_
  refine Eq.trans (zd_goto zh46 (t := 4) (by decide) rfl) ?_
  exact rfl
theorem b46_40 {scr : List Int32} {w : zAW} {a0 : Nat} {x1 : Int32} {x2 : Int32} {f1 : Int32} (h1 : zgf w a0 4 1 = some (.int f1)) : zd scr 46 40 [some (.ref a0), some (.int x1), some (.int x2)] [] w = if 0 < f1 then zd scr 46 47 [some (.ref a0), some (.int x1), some (.int x2)] [] w else zd scr 46 52 [some (.ref a0), some (.int x1), some (.int x2)] [] w := by
  refine Eq.trans (zd_aload_n zh46 rfl rfl) ?_
  refine Eq.trans (zd_getfield zh46 (ci := 4) (k := 1) rfl h1 rfl) ?_
  exact zd_ifle zh46 (t := 52) (by decide) rfl
theorem b46_52 {scr : List Int32} {w : zAW} {a0 : Nat} {x1 : Int32} {x2 : Int32} {f1 : Int32} (h1 : zgf w a0 4 1 = some (.int f1)) : zd scr 46 52 [some (.ref a0), some (.int x1), some (.int x2)] [] w = some (some (.int f1), w) := by
  refine Eq.trans (zd_aload_n zh46 rfl rfl) ?_
  refine Eq.trans (zd_getfield zh46 (ci := 4) (k := 1) rfl h1 rfl) ?_
  exact zd_iret zh46 rfl rfl
theorem b46_47 {scr : List Int32} {w : zAW} {a0 : Nat} {x1 : Int32} {x2 : Int32}  : zd scr 46 47 [some (.ref a0), some (.int x1), some (.int x2)] [] w = some (some (.int (-6)), w) := by
  refine Eq.trans (zd_bipush zh46 (v := (-6)) rfl rfl) ?_
  refine Eq.trans (zd_goto zh46 (t := 56) (by decide) rfl) ?_
  exact zd_iret zh46 rfl rfl
/-! yX4_dropInto: 47, MarbleHeirs$Text.dropInto(LMarbleHeirs$Marbles;)Z -/
theorem b47_0 {scr : List Int32} {w : zAW} {a0 : Nat} {a1 : Nat}  : zd scr 47 0 [some (.ref a0), some (.ref a1), none, none, none, none, none] [] w = zd scr 47 10 [some (.ref a0), some (.ref a1), some (.int (nI 0)), some (.int (nI 1)), some (.int (nI 0)), some (.int (nI 0)), none] [] w := by
  refine Eq.trans (zd_iconst zh47 (v := (nI 0)) rfl rfl) ?_
  refine Eq.trans (zd_istore_n zh47 (ls' := [some (.ref a0), some (.ref a1), some (.int (nI 0)), none, none, none, none]) (Nat.le_of_ble_eq_true rfl) rfl rfl) ?_
  refine Eq.trans (zd_iconst zh47 (v := (nI 1)) rfl rfl) ?_
  refine Eq.trans (zd_istore_n zh47 (ls' := [some (.ref a0), some (.ref a1), some (.int (nI 0)), some (.int (nI 1)), none, none, none]) (Nat.le_of_ble_eq_true rfl) rfl rfl) ?_
  refine Eq.trans (zd_iconst zh47 (v := (nI 0)) rfl rfl) ?_
  refine Eq.trans (zd_istore zh47 (ls' := [some (.ref a0), some (.ref a1), some (.int (nI 0)), some (.int (nI 1)), some (.int (nI 0)), none, none]) (Nat.le_of_ble_eq_true rfl) rfl rfl) ?_
  refine Eq.trans (zd_iconst zh47 (v := (nI 0)) rfl rfl) ?_
  refine Eq.trans (zd_istore zh47 (ls' := [some (.ref a0), some (.ref a1), some (.int (nI 0)), some (.int (nI 1)), some (.int (nI 0)), some (.int (nI 0)), none]) (Nat.le_of_ble_eq_true rfl) rfl rfl) ?_
  exact rfl
theorem b47_10 {scr : List Int32} {w : zAW} {a0 : Nat} {a1 : Nat} {x2 : Int32} {x3 : Int32} {x4 : Int32} {x5 : Int32} {v6 : Option Value} {f1 : Int32} (h1 : zgf w a0 4 1 = some (.int f1)) : zd scr 47 10 [some (.ref a0), some (.ref a1), some (.int x2), some (.int x3), some (.int x4), some (.int x5), v6] [] w = if x5 < f1 then zd scr 47 19 [some (.ref a0), some (.ref a1), some (.int x2), some (.int x3), some (.int x4), some (.int x5), v6] [] w else zd scr 47 91 [some (.ref a0), some (.ref a1), some (.int x2), some (.int x3), some (.int x4), some (.int x5), v6] [] w := by
  refine Eq.trans (zd_iload zh47 rfl rfl) ?_
  refine Eq.trans (zd_aload_n zh47 rfl rfl) ?_
  refine Eq.trans (zd_getfield zh47 (ci := 4) (k := 1) rfl h1 rfl) ?_
  exact zd_icmpge zh47 (t := 91) (by decide) rfl
set_option maxRecDepth 20000 in
theorem b47_19 {scr : List Int32} {w : zAW} {a0 : Nat} {a1 : Nat} {x2 : Int32} {x3 : Int32} {x4 : Int32} {x5 : Int32} {v6 : Option Value} {g1 : Nat} (h1 : zgf w a0 4 0 = some (.ref g1)) {f2 : Int32} (h2 : zal w g1 x5 = some f2) {f3 : Int32} {w1 : zAW} (h3 : zC scr 50 [.int f2] w = some (some (.int f3), w1)) : zd scr 47 19 [some (.ref a0), some (.ref a1), some (.int x2), some (.int x3), some (.int x4), some (.int x5), v6] [] w = if f3 = 0 then zd scr 47 46 [some (.ref a0), some (.ref a1), some (.int x2), some (.int x3), some (.int x4), some (.int x5), some (.int f2)] [] w1 else zd scr 47 36 [some (.ref a0), some (.ref a1), some (.int x2), some (.int x3), some (.int x4), some (.int x5), some (.int f2)] [] w1 := by
  refine Eq.trans (zd_aload_n zh47 rfl rfl) ?_
  refine Eq.trans (zd_getfield zh47 (ci := 4) (k := 0) rfl h1 rfl) ?_
  refine Eq.trans (zd_iload zh47 rfl rfl) ?_
  refine Eq.trans (zd_iaload zh47 h2 rfl) ?_
  refine Eq.trans (zd_istore zh47 (ls' := [some (.ref a0), some (.ref a1), some (.int x2), some (.int x3), some (.int x4), some (.int x5), some (.int f2)]) (Nat.le_of_ble_eq_true rfl) rfl rfl) ?_
  refine Eq.trans (zd_iload zh47 rfl rfl) ?_
  refine Eq.trans (zd_invSi zh47 zh50 rfl rfl ⟨Nat.le_of_ble_eq_true rfl, Nat.le_of_ble_eq_true rfl, Nat.le_of_ble_eq_true rfl, Nat.le_of_ble_eq_true rfl, Nat.le_of_ble_eq_true rfl⟩ rfl h3 rfl) ?_
  exact zd_ifeq zh47 (t := 46) (by decide) rfl
theorem b47_91 {scr : List Int32} {w : zAW} {a0 : Nat} {a1 : Nat} {x2 : Int32} {x3 : Int32} {x4 : Int32} {x5 : Int32} {v6 : Option Value}  : zd scr 47 91 [some (.ref a0), some (.ref a1), some (.int x2), some (.int x3), some (.int x4), some (.int x5), v6] [] w = some (some (.int (nI 1)), w) := by
  refine Eq.trans (zd_iconst zh47 (v := (nI 1)) rfl rfl) ?_
  exact zd_iret zh47 rfl rfl
theorem b47_46 {scr : List Int32} {w : zAW} {a0 : Nat} {a1 : Nat} {x2 : Int32} {x3 : Int32} {x4 : Int32} {x5 : Int32} {x6 : Int32}  : zd scr 47 46 [some (.ref a0), some (.ref a1), some (.int x2), some (.int x3), some (.int x4), some (.int x5), some (.int x6)] [] w = if x2 = 0 then zd scr 47 50 [some (.ref a0), some (.ref a1), some (.int x2), some (.int x3), some (.int x4), some (.int x5), some (.int x6)] [] w else zd scr 47 59 [some (.ref a0), some (.ref a1), some (.int x2), some (.int x3), some (.int x4), some (.int x5), some (.int x6)] [] w := by
  refine Eq.trans (zd_iload_n zh47 rfl rfl) ?_
  exact zd_ifne zh47 (t := 59) (by decide) rfl
set_option maxRecDepth 20000 in
theorem b47_36 {scr : List Int32} {w : zAW} {a0 : Nat} {a1 : Nat} {x2 : Int32} {x3 : Int32} {x4 : Int32} {x5 : Int32} {x6 : Int32} {f1 : Int32} {w1 : zAW} (h1 : zC scr 51 [.int x6] w = some (some (.int f1), w1)) {f2 : Int32} {w2 : zAW} (h2 : zC scr 49 [.int x2, .int x6] w1 = some (some (.int f2), w2)) : zd scr 47 36 [some (.ref a0), some (.ref a1), some (.int x2), some (.int x3), some (.int x4), some (.int x5), some (.int x6)] [] w = zd scr 47 10 [some (.ref a0), some (.ref a1), some (.int f2), some (.int x3), some (.int f1), some (.int (x5 + (nI 1))), some (.int x6)] [] w2 := by
  refine Eq.trans (zd_iload zh47 rfl rfl) ?_
  refine Eq.trans (zd_invSi zh47 zh51 rfl rfl ⟨Nat.le_of_ble_eq_true rfl, Nat.le_of_ble_eq_true rfl, Nat.le_of_ble_eq_true rfl, Nat.le_of_ble_eq_true rfl, Nat.le_of_ble_eq_true rfl⟩ rfl h1 rfl) ?_
  refine Eq.trans (zd_istore zh47 (ls' := [some (.ref a0), some (.ref a1), some (.int x2), some (.int x3), some (.int f1), some (.int x5), some (.int x6)]) (Nat.le_of_ble_eq_true rfl) rfl rfl) ?_
  refine Eq.trans (zd_goto zh47 (t := 78) (by decide) rfl) ?_
  refine Eq.trans (zd_iload_n zh47 rfl rfl) ?_
  refine Eq.trans (zd_iload zh47 rfl rfl) ?_
  refine Eq.trans (zd_invSi zh47 zh49 rfl rfl ⟨Nat.le_of_ble_eq_true rfl, Nat.le_of_ble_eq_true rfl, Nat.le_of_ble_eq_true rfl, Nat.le_of_ble_eq_true rfl, Nat.le_of_ble_eq_true rfl⟩ rfl h2 rfl) ?_
  refine Eq.trans (zd_istore_n zh47 (ls' := [some (.ref a0), some (.ref a1), some (.int f2), some (.int x3), some (.int f1), some (.int x5), some (.int x6)]) (Nat.le_of_ble_eq_true rfl) rfl rfl) ?_
  refine Eq.trans (zd_iinc zh47 (ls' := [some (.ref a0), some (.ref a1), some (.int f2), some (.int x3), some (.int f1), some (.int (x5 + (nI 1))), some (.int x6)]) (v := (x5 + (nI 1))) rfl rfl rfl rfl) ?_
  refine Eq.trans (zd_goto zh47 (t := 10) (by decide) rfl) ?_
  exact rfl
set_option maxRecDepth 20000 in
theorem b47_50 {scr : List Int32} {w : zAW} {a0 : Nat} {a1 : Nat} {x2 : Int32} {x3 : Int32} {x4 : Int32} {x5 : Int32} {x6 : Int32} {f1 : Int32} {w1 : zAW} (h1 : zC scr 49 [.int x2, .int x6] w = some (some (.int f1), w1)) : zd scr 47 50 [some (.ref a0), some (.ref a1), some (.int x2), some (.int x3), some (.int x4), some (.int x5), some (.int x6)] [] w = zd scr 47 10 [some (.ref a0), some (.ref a1), some (.int f1), some (.int (x6 - (nI 48))), some (.int x4), some (.int (x5 + (nI 1))), some (.int x6)] [] w1 := by
  refine Eq.trans (zd_iload zh47 rfl rfl) ?_
  refine Eq.trans (zd_bipush zh47 (v := (nI 48)) rfl rfl) ?_
  refine Eq.trans (zd_isub zh47 rfl) ?_
  refine Eq.trans (zd_istore_n zh47 (ls' := [some (.ref a0), some (.ref a1), some (.int x2), some (.int (x6 - (nI 48))), some (.int x4), some (.int x5), some (.int x6)]) (Nat.le_of_ble_eq_true rfl) rfl rfl) ?_
  refine Eq.trans (zd_goto zh47 (t := 78) (by decide) rfl) ?_
  refine Eq.trans (zd_iload_n zh47 rfl rfl) ?_
  refine Eq.trans (zd_iload zh47 rfl rfl) ?_
  refine Eq.trans (zd_invSi zh47 zh49 rfl rfl ⟨Nat.le_of_ble_eq_true rfl, Nat.le_of_ble_eq_true rfl, Nat.le_of_ble_eq_true rfl, Nat.le_of_ble_eq_true rfl, Nat.le_of_ble_eq_true rfl⟩ rfl h1 rfl) ?_
  refine Eq.trans (zd_istore_n zh47 (ls' := [some (.ref a0), some (.ref a1), some (.int f1), some (.int (x6 - (nI 48))), some (.int x4), some (.int x5), some (.int x6)]) (Nat.le_of_ble_eq_true rfl) rfl rfl) ?_
  refine Eq.trans (zd_iinc zh47 (ls' := [some (.ref a0), some (.ref a1), some (.int f1), some (.int (x6 - (nI 48))), some (.int x4), some (.int (x5 + (nI 1))), some (.int x6)]) (v := (x5 + (nI 1))) rfl rfl rfl rfl) ?_
  refine Eq.trans (zd_goto zh47 (t := 10) (by decide) rfl) ?_
  exact rfl
set_option maxRecDepth 20000 in
theorem b47_59 {scr : List Int32} {w : zAW} {a0 : Nat} {a1 : Nat} {x2 : Int32} {x3 : Int32} {x4 : Int32} {x5 : Int32} {x6 : Int32} {f1 : Int32} {w1 : zAW} (h1 : zC scr 48 [.ref a1, .int x3, .int x4, .int (x6 - (nI 48))] w = some (some (.int f1), w1)) : zd scr 47 59 [some (.ref a0), some (.ref a1), some (.int x2), some (.int x3), some (.int x4), some (.int x5), some (.int x6)] [] w = if f1 = 0 then zd scr 47 74 [some (.ref a0), some (.ref a1), some (.int x2), some (.int x3), some (.int x4), some (.int x5), some (.int x6)] [] w1 else zd scr 47 76 [some (.ref a0), some (.ref a1), some (.int x2), some (.int x3), some (.int x4), some (.int x5), some (.int x6)] [] w1 := by
  refine Eq.trans (zd_aload_n zh47 rfl rfl) ?_
  refine Eq.trans (zd_iload_n zh47 rfl rfl) ?_
  refine Eq.trans (zd_iload zh47 rfl rfl) ?_
  refine Eq.trans (zd_iload zh47 rfl rfl) ?_
  refine Eq.trans (zd_bipush zh47 (v := (nI 48)) rfl rfl) ?_
  refine Eq.trans (zd_isub zh47 rfl) ?_
  refine Eq.trans (zd_invSi zh47 zh48 rfl rfl ⟨Nat.le_of_ble_eq_true rfl, Nat.le_of_ble_eq_true rfl, Nat.le_of_ble_eq_true rfl, Nat.le_of_ble_eq_true rfl, Nat.le_of_ble_eq_true rfl⟩ rfl h1 rfl) ?_
  exact zd_ifne zh47 (t := 76) (by decide) rfl
theorem b47_74 {scr : List Int32} {w : zAW} {a0 : Nat} {a1 : Nat} {x2 : Int32} {x3 : Int32} {x4 : Int32} {x5 : Int32} {x6 : Int32}  : zd scr 47 74 [some (.ref a0), some (.ref a1), some (.int x2), some (.int x3), some (.int x4), some (.int x5), some (.int x6)] [] w = some (some (.int (nI 0)), w) := by
  refine Eq.trans (zd_iconst zh47 (v := (nI 0)) rfl rfl) ?_
  exact zd_iret zh47 rfl rfl
set_option maxRecDepth 20000 in
theorem b47_76 {scr : List Int32} {w : zAW} {a0 : Nat} {a1 : Nat} {x2 : Int32} {x3 : Int32} {x4 : Int32} {x5 : Int32} {x6 : Int32} {f1 : Int32} {w1 : zAW} (h1 : zC scr 49 [.int x2, .int x6] w = some (some (.int f1), w1)) : zd scr 47 76 [some (.ref a0), some (.ref a1), some (.int x2), some (.int x3), some (.int x4), some (.int x5), some (.int x6)] [] w = zd scr 47 10 [some (.ref a0), some (.ref a1), some (.int f1), some (.int (nI 1)), some (.int x4), some (.int (x5 + (nI 1))), some (.int x6)] [] w1 := by
  refine Eq.trans (zd_iconst zh47 (v := (nI 1)) rfl rfl) ?_
  refine Eq.trans (zd_istore_n zh47 (ls' := [some (.ref a0), some (.ref a1), some (.int x2), some (.int (nI 1)), some (.int x4), some (.int x5), some (.int x6)]) (Nat.le_of_ble_eq_true rfl) rfl rfl) ?_
  refine Eq.trans (zd_iload_n zh47 rfl rfl) ?_
  refine Eq.trans (zd_iload zh47 rfl rfl) ?_
  refine Eq.trans (zd_invSi zh47 zh49 rfl rfl ⟨Nat.le_of_ble_eq_true rfl, Nat.le_of_ble_eq_true rfl, Nat.le_of_ble_eq_true rfl, Nat.le_of_ble_eq_true rfl, Nat.le_of_ble_eq_true rfl⟩ rfl h1 rfl) ?_
  refine Eq.trans (zd_istore_n zh47 (ls' := [some (.ref a0), some (.ref a1), some (.int f1), some (.int (nI 1)), some (.int x4), some (.int x5), some (.int x6)]) (Nat.le_of_ble_eq_true rfl) rfl rfl) ?_
  refine Eq.trans (zd_iinc zh47 (ls' := [some (.ref a0), some (.ref a1), some (.int f1), some (.int (nI 1)), some (.int x4), some (.int (x5 + (nI 1))), some (.int x6)]) (v := (x5 + (nI 1))) rfl rfl rfl rfl) ?_
  refine Eq.trans (zd_goto zh47 (t := 10) (by decide) rfl) ?_
  exact rfl
/-! yX4_dropEach: 48, MarbleHeirs$Text.dropEach(LMarbleHeirs$Marbles;III)Z -/
theorem b48_0 {scr : List Int32} {w : zAW} {a0 : Nat} {x1 : Int32} {x2 : Int32} {x3 : Int32}  : zd scr 48 0 [some (.ref a0), some (.int x1), some (.int x2), some (.int x3), none] [] w = zd scr 48 3 [some (.ref a0), some (.int x1), some (.int x2), some (.int x3), some (.int (nI 0))] [] w := by
  refine Eq.trans (zd_iconst zh48 (v := (nI 0)) rfl rfl) ?_
  refine Eq.trans (zd_istore zh48 (ls' := [some (.ref a0), some (.int x1), some (.int x2), some (.int x3), some (.int (nI 0))]) (Nat.le_of_ble_eq_true rfl) rfl rfl) ?_
  exact rfl
theorem b48_3 {scr : List Int32} {w : zAW} {a0 : Nat} {x1 : Int32} {x2 : Int32} {x3 : Int32} {x4 : Int32}  : zd scr 48 3 [some (.ref a0), some (.int x1), some (.int x2), some (.int x3), some (.int x4)] [] w = if x4 < x1 then zd scr 48 9 [some (.ref a0), some (.int x1), some (.int x2), some (.int x3), some (.int x4)] [] w else zd scr 48 26 [some (.ref a0), some (.int x1), some (.int x2), some (.int x3), some (.int x4)] [] w := by
  refine Eq.trans (zd_iload zh48 rfl rfl) ?_
  refine Eq.trans (zd_iload_n zh48 rfl rfl) ?_
  exact zd_icmpge zh48 (t := 26) (by decide) rfl
set_option maxRecDepth 20000 in
theorem b48_9 {scr : List Int32} {w : zAW} {a0 : Nat} {x1 : Int32} {x2 : Int32} {x3 : Int32} {x4 : Int32} (h1 : zob w a0 1 = true) {f1 : Int32} {w1 : zAW} (h2 : zC scr 16 [.ref a0, .int x2, .int x3] w = some (some (.int f1), w1)) : zd scr 48 9 [some (.ref a0), some (.int x1), some (.int x2), some (.int x3), some (.int x4)] [] w = if f1 = 0 then zd scr 48 18 [some (.ref a0), some (.int x1), some (.int x2), some (.int x3), some (.int x4)] [] w1 else zd scr 48 20 [some (.ref a0), some (.int x1), some (.int x2), some (.int x3), some (.int x4)] [] w1 := by
  refine Eq.trans (zd_aload_n zh48 rfl rfl) ?_
  refine Eq.trans (zd_iload_n zh48 rfl rfl) ?_
  refine Eq.trans (zd_iload_n zh48 rfl rfl) ?_
  refine Eq.trans (zd_invVi zh48 zh16 rfl rfl ⟨Nat.le_of_ble_eq_true rfl, Nat.le_of_ble_eq_true rfl, Nat.le_of_ble_eq_true rfl, Nat.le_of_ble_eq_true rfl⟩ rfl h1 h2 rfl) ?_
  exact zd_ifne zh48 (t := 20) (by decide) rfl
theorem b48_26 {scr : List Int32} {w : zAW} {a0 : Nat} {x1 : Int32} {x2 : Int32} {x3 : Int32} {x4 : Int32}  : zd scr 48 26 [some (.ref a0), some (.int x1), some (.int x2), some (.int x3), some (.int x4)] [] w = some (some (.int (nI 1)), w) := by
  refine Eq.trans (zd_iconst zh48 (v := (nI 1)) rfl rfl) ?_
  exact zd_iret zh48 rfl rfl
theorem b48_18 {scr : List Int32} {w : zAW} {a0 : Nat} {x1 : Int32} {x2 : Int32} {x3 : Int32} {x4 : Int32}  : zd scr 48 18 [some (.ref a0), some (.int x1), some (.int x2), some (.int x3), some (.int x4)] [] w = some (some (.int (nI 0)), w) := by
  refine Eq.trans (zd_iconst zh48 (v := (nI 0)) rfl rfl) ?_
  exact zd_iret zh48 rfl rfl
theorem b48_20 {scr : List Int32} {w : zAW} {a0 : Nat} {x1 : Int32} {x2 : Int32} {x3 : Int32} {x4 : Int32}  : zd scr 48 20 [some (.ref a0), some (.int x1), some (.int x2), some (.int x3), some (.int x4)] [] w = zd scr 48 3 [some (.ref a0), some (.int x1), some (.int x2), some (.int x3), some (.int (x4 + (nI 1)))] [] w := by
  refine Eq.trans (zd_iinc zh48 (ls' := [some (.ref a0), some (.int x1), some (.int x2), some (.int x3), some (.int (x4 + (nI 1)))]) (v := (x4 + (nI 1))) rfl rfl rfl rfl) ?_
  refine Eq.trans (zd_goto zh48 (t := 3) (by decide) rfl) ?_
  exact rfl
/-! yX4_stageBehind: 49, MarbleHeirs$Text.stageBehind(II)I -/
theorem b49_0 {scr : List Int32} {w : zAW} {x0 : Int32} {x1 : Int32}  : zd scr 49 0 [some (.int x0), some (.int x1), none] [] w = if x1 < (nI 49) then zd scr 49 16 [some (.int x0), some (.int x1), none] [] w else zd scr 49 6 [some (.int x0), some (.int x1), none] [] w := by
  refine Eq.trans (zd_iload_n zh49 rfl rfl) ?_
  refine Eq.trans (zd_bipush zh49 (v := (nI 49)) rfl rfl) ?_
  exact zd_icmplt zh49 (t := 16) (by decide) rfl
theorem b49_16 {scr : List Int32} {w : zAW} {x0 : Int32} {x1 : Int32}  : zd scr 49 16 [some (.int x0), some (.int x1), none] [] w = if x0 = (nI 2) then zd scr 49 23 [some (.int x0), some (.int x1), some (.int (nI 0))] [] w else zd scr 49 33 [some (.int x0), some (.int x1), some (.int (nI 0))] [] w := by
  refine Eq.trans (zd_iconst zh49 (v := (nI 0)) rfl rfl) ?_
  refine Eq.trans (zd_istore_n zh49 (ls' := [some (.int x0), some (.int x1), some (.int (nI 0))]) (Nat.le_of_ble_eq_true rfl) rfl rfl) ?_
  refine Eq.trans (zd_iload_n zh49 rfl rfl) ?_
  refine Eq.trans (zd_iconst zh49 (v := (nI 2)) rfl rfl) ?_
  exact zd_icmpne zh49 (t := 33) (by decide) rfl
theorem b49_6 {scr : List Int32} {w : zAW} {x0 : Int32} {x1 : Int32}  : zd scr 49 6 [some (.int x0), some (.int x1), none] [] w = if x1 ≤ (nI 57) then zd scr 49 12 [some (.int x0), some (.int x1), none] [] w else zd scr 49 16 [some (.int x0), some (.int x1), none] [] w := by
  refine Eq.trans (zd_iload_n zh49 rfl rfl) ?_
  refine Eq.trans (zd_bipush zh49 (v := (nI 57)) rfl rfl) ?_
  exact zd_icmpgt zh49 (t := 16) (by decide) rfl
theorem b49_23 {scr : List Int32} {w : zAW} {x0 : Int32} {x1 : Int32} {x2 : Int32}  : zd scr 49 23 [some (.int x0), some (.int x1), some (.int x2)] [] w = if x2 = 0 then zd scr 49 31 [some (.int x0), some (.int x1), some (.int x2)] [] w else zd scr 49 27 [some (.int x0), some (.int x1), some (.int x2)] [] w := by
  refine Eq.trans (zd_iload_n zh49 rfl rfl) ?_
  exact zd_ifeq zh49 (t := 31) (by decide) rfl
set_option maxRecDepth 20000 in
theorem b49_33 {scr : List Int32} {w : zAW} {x0 : Int32} {x1 : Int32} {x2 : Int32} {f1 : Int32} {w1 : zAW} (h1 : zC scr 50 [.int x1] w = some (some (.int f1), w1)) : zd scr 49 33 [some (.int x0), some (.int x1), some (.int x2)] [] w = if f1 = 0 then zd scr 49 42 [some (.int x0), some (.int x1), some (.int x2)] [] w1 else zd scr 49 40 [some (.int x0), some (.int x1), some (.int x2)] [] w1 := by
  refine Eq.trans (zd_iload_n zh49 rfl rfl) ?_
  refine Eq.trans (zd_invSi zh49 zh50 rfl rfl ⟨Nat.le_of_ble_eq_true rfl, Nat.le_of_ble_eq_true rfl, Nat.le_of_ble_eq_true rfl, Nat.le_of_ble_eq_true rfl, Nat.le_of_ble_eq_true rfl⟩ rfl h1 rfl) ?_
  exact zd_ifeq zh49 (t := 42) (by decide) rfl
theorem b49_12 {scr : List Int32} {w : zAW} {x0 : Int32} {x1 : Int32}  : zd scr 49 12 [some (.int x0), some (.int x1), none] [] w = if x0 = (nI 2) then zd scr 49 23 [some (.int x0), some (.int x1), some (.int (nI 1))] [] w else zd scr 49 33 [some (.int x0), some (.int x1), some (.int (nI 1))] [] w := by
  refine Eq.trans (zd_iconst zh49 (v := (nI 1)) rfl rfl) ?_
  refine Eq.trans (zd_goto zh49 (t := 17) (by decide) rfl) ?_
  refine Eq.trans (zd_istore_n zh49 (ls' := [some (.int x0), some (.int x1), some (.int (nI 1))]) (Nat.le_of_ble_eq_true rfl) rfl rfl) ?_
  refine Eq.trans (zd_iload_n zh49 rfl rfl) ?_
  refine Eq.trans (zd_iconst zh49 (v := (nI 2)) rfl rfl) ?_
  exact zd_icmpne zh49 (t := 33) (by decide) rfl
theorem b49_31 {scr : List Int32} {w : zAW} {x0 : Int32} {x1 : Int32} {x2 : Int32}  : zd scr 49 31 [some (.int x0), some (.int x1), some (.int x2)] [] w = some (some (.int (nI 3)), w) := by
  refine Eq.trans (zd_iconst zh49 (v := (nI 3)) rfl rfl) ?_
  exact zd_iret zh49 rfl rfl
theorem b49_27 {scr : List Int32} {w : zAW} {x0 : Int32} {x1 : Int32} {x2 : Int32}  : zd scr 49 27 [some (.int x0), some (.int x1), some (.int x2)] [] w = some (some (.int (nI 0)), w) := by
  refine Eq.trans (zd_iconst zh49 (v := (nI 0)) rfl rfl) ?_
  refine Eq.trans (zd_goto zh49 (t := 32) (by decide) rfl) ?_
  exact zd_iret zh49 rfl rfl
theorem b49_42 {scr : List Int32} {w : zAW} {x0 : Int32} {x1 : Int32} {x2 : Int32}  : zd scr 49 42 [some (.int x0), some (.int x1), some (.int x2)] [] w = if x0 = 0 then zd scr 49 46 [some (.int x0), some (.int x1), some (.int x2)] [] w else zd scr 49 54 [some (.int x0), some (.int x1), some (.int x2)] [] w := by
  refine Eq.trans (zd_iload_n zh49 rfl rfl) ?_
  exact zd_ifne zh49 (t := 54) (by decide) rfl
theorem b49_40 {scr : List Int32} {w : zAW} {x0 : Int32} {x1 : Int32} {x2 : Int32}  : zd scr 49 40 [some (.int x0), some (.int x1), some (.int x2)] [] w = some (some (.int (nI 2)), w) := by
  refine Eq.trans (zd_iconst zh49 (v := (nI 2)) rfl rfl) ?_
  exact zd_iret zh49 rfl rfl
theorem b49_46 {scr : List Int32} {w : zAW} {x0 : Int32} {x1 : Int32} {x2 : Int32}  : zd scr 49 46 [some (.int x0), some (.int x1), some (.int x2)] [] w = if x2 = 0 then zd scr 49 54 [some (.int x0), some (.int x1), some (.int x2)] [] w else zd scr 49 50 [some (.int x0), some (.int x1), some (.int x2)] [] w := by
  refine Eq.trans (zd_iload_n zh49 rfl rfl) ?_
  exact zd_ifeq zh49 (t := 54) (by decide) rfl
theorem b49_54 {scr : List Int32} {w : zAW} {x0 : Int32} {x1 : Int32} {x2 : Int32}  : zd scr 49 54 [some (.int x0), some (.int x1), some (.int x2)] [] w = some (some (.int (nI 3)), w) := by
  refine Eq.trans (zd_iconst zh49 (v := (nI 3)) rfl rfl) ?_
  exact zd_iret zh49 rfl rfl
theorem b49_50 {scr : List Int32} {w : zAW} {x0 : Int32} {x1 : Int32} {x2 : Int32}  : zd scr 49 50 [some (.int x0), some (.int x1), some (.int x2)] [] w = some (some (.int (nI 1)), w) := by
  refine Eq.trans (zd_iconst zh49 (v := (nI 1)) rfl rfl) ?_
  refine Eq.trans (zd_goto zh49 (t := 55) (by decide) rfl) ?_
  exact zd_iret zh49 rfl rfl
/-! yX4_isColourLetter: 50, MarbleHeirs$Text.isColourLetter(I)Z -/
set_option maxRecDepth 20000 in
theorem b50_0 {scr : List Int32} {w : zAW} {x0 : Int32} {f1 : Int32} {w1 : zAW} (h1 : zC scr 51 [.int x0] w = some (some (.int f1), w1)) : zd scr 50 0 [some (.int x0)] [] w = if f1 = (-1) then zd scr 50 12 [some (.int x0)] [] w1 else zd scr 50 8 [some (.int x0)] [] w1 := by
  refine Eq.trans (zd_iload_n zh50 rfl rfl) ?_
  refine Eq.trans (zd_invSi zh50 zh51 rfl rfl ⟨Nat.le_of_ble_eq_true rfl, Nat.le_of_ble_eq_true rfl, Nat.le_of_ble_eq_true rfl, Nat.le_of_ble_eq_true rfl, Nat.le_of_ble_eq_true rfl⟩ rfl h1 rfl) ?_
  refine Eq.trans (zd_iconst zh50 (v := (-1)) rfl rfl) ?_
  exact zd_icmpeq zh50 (t := 12) (by decide) rfl
theorem b50_12 {scr : List Int32} {w : zAW} {x0 : Int32}  : zd scr 50 12 [some (.int x0)] [] w = some (some (.int (nI 0)), w) := by
  refine Eq.trans (zd_iconst zh50 (v := (nI 0)) rfl rfl) ?_
  exact zd_iret zh50 rfl rfl
theorem b50_8 {scr : List Int32} {w : zAW} {x0 : Int32}  : zd scr 50 8 [some (.int x0)] [] w = some (some (.int (nI 1)), w) := by
  refine Eq.trans (zd_iconst zh50 (v := (nI 1)) rfl rfl) ?_
  refine Eq.trans (zd_goto zh50 (t := 13) (by decide) rfl) ?_
  exact zd_iret zh50 rfl rfl
