/-! yX5_isColour: 82, MarbleHeirs.isColour(I)Z -/
theorem b82_0 {scr : List Int32} {w : zAW} {x0 : Int32}  : zd scr 82 0 [some (.int x0)] [] w = if x0 < 0 then zd scr 82 14 [some (.int x0)] [] w else zd scr 82 4 [some (.int x0)] [] w := by
  refine Eq.trans (zd_iload_n zh82 rfl rfl) ?_
  exact zd_iflt zh82 (t := 14) (by decide) rfl
theorem b82_14 {scr : List Int32} {w : zAW} {x0 : Int32}  : zd scr 82 14 [some (.int x0)] [] w = some (some (.int (nI 0)), w) := by
  refine Eq.trans (zd_iconst zh82 (v := (nI 0)) rfl rfl) ?_
  exact zd_iret zh82 rfl rfl
theorem b82_4 {scr : List Int32} {w : zAW} {x0 : Int32}  : zd scr 82 4 [some (.int x0)] [] w = if x0 < (nI 6) then zd scr 82 10 [some (.int x0)] [] w else zd scr 82 14 [some (.int x0)] [] w := by
  refine Eq.trans (zd_iload_n zh82 rfl rfl) ?_
  refine Eq.trans (zd_bipush zh82 (v := (nI 6)) rfl rfl) ?_
  exact zd_icmpge zh82 (t := 14) (by decide) rfl
theorem b82_10 {scr : List Int32} {w : zAW} {x0 : Int32}  : zd scr 82 10 [some (.int x0)] [] w = some (some (.int (nI 1)), w) := by
  refine Eq.trans (zd_iconst zh82 (v := (nI 1)) rfl rfl) ?_
  refine Eq.trans (zd_goto zh82 (t := 15) (by decide) rfl) ?_
  exact zd_iret zh82 rfl rfl
/-! yX5_moveBack: 83, MarbleHeirs.moveBack([III)V -/
theorem b83_0 {scr : List Int32} {w : zAW} {a0 : Nat} {x1 : Int32} {x2 : Int32} {f1 : Int32} (h1 : zal w a0 x1 = some f1) : zd scr 83 0 [some (.ref a0), some (.int x1), some (.int x2), none, none] [] w = zd scr 83 7 [some (.ref a0), some (.int x1), some (.int x2), some (.int f1), some (.int x1)] [] w := by
  refine Eq.trans (zd_aload_n zh83 rfl rfl) ?_
  refine Eq.trans (zd_iload_n zh83 rfl rfl) ?_
  refine Eq.trans (zd_iaload zh83 h1 rfl) ?_
  refine Eq.trans (zd_istore_n zh83 (ls' := [some (.ref a0), some (.int x1), some (.int x2), some (.int f1), none]) (Nat.le_of_ble_eq_true rfl) rfl rfl) ?_
  refine Eq.trans (zd_iload_n zh83 rfl rfl) ?_
  refine Eq.trans (zd_istore zh83 (ls' := [some (.ref a0), some (.int x1), some (.int x2), some (.int f1), some (.int x1)]) (Nat.le_of_ble_eq_true rfl) rfl rfl) ?_
  exact rfl
theorem b83_7 {scr : List Int32} {w : zAW} {a0 : Nat} {x1 : Int32} {x2 : Int32} {x3 : Int32} {x4 : Int32}  : zd scr 83 7 [some (.ref a0), some (.int x1), some (.int x2), some (.int x3), some (.int x4)] [] w = if x4 < x2 then zd scr 83 13 [some (.ref a0), some (.int x1), some (.int x2), some (.int x3), some (.int x4)] [] w else zd scr 83 29 [some (.ref a0), some (.int x1), some (.int x2), some (.int x3), some (.int x4)] [] w := by
  refine Eq.trans (zd_iload zh83 rfl rfl) ?_
  refine Eq.trans (zd_iload_n zh83 rfl rfl) ?_
  exact zd_icmpge zh83 (t := 29) (by decide) rfl
theorem b83_13 {scr : List Int32} {w : zAW} {a0 : Nat} {x1 : Int32} {x2 : Int32} {x3 : Int32} {x4 : Int32} {f1 : Int32} (h1 : zal w a0 (x4 + (nI 1)) = some f1) {w1 : zAW} (h2 : zas w a0 x4 f1 = some w1) : zd scr 83 13 [some (.ref a0), some (.int x1), some (.int x2), some (.int x3), some (.int x4)] [] w = zd scr 83 7 [some (.ref a0), some (.int x1), some (.int x2), some (.int x3), some (.int (x4 + (nI 1)))] [] w1 := by
  refine Eq.trans (zd_aload_n zh83 rfl rfl) ?_
  refine Eq.trans (zd_iload zh83 rfl rfl) ?_
  refine Eq.trans (zd_aload_n zh83 rfl rfl) ?_
  refine Eq.trans (zd_iload zh83 rfl rfl) ?_
  refine Eq.trans (zd_iconst zh83 (v := (nI 1)) rfl rfl) ?_
  refine Eq.trans (zd_iadd zh83 rfl) ?_
  refine Eq.trans (zd_iaload zh83 h1 rfl) ?_
  refine Eq.trans (zd_iastore zh83 h2 rfl) ?_
  refine Eq.trans (zd_iinc zh83 (ls' := [some (.ref a0), some (.int x1), some (.int x2), some (.int x3), some (.int (x4 + (nI 1)))]) (v := (x4 + (nI 1))) rfl rfl rfl rfl) ?_
  refine Eq.trans (zd_goto zh83 (t := 7) (by decide) rfl) ?_
  exact rfl
theorem b83_29 {scr : List Int32} {w : zAW} {a0 : Nat} {x1 : Int32} {x2 : Int32} {x3 : Int32} {x4 : Int32} {w1 : zAW} (h1 : zas w a0 x2 x3 = some w1) : zd scr 83 29 [some (.ref a0), some (.int x1), some (.int x2), some (.int x3), some (.int x4)] [] w = some (none, w1) := by
  refine Eq.trans (zd_aload_n zh83 rfl rfl) ?_
  refine Eq.trans (zd_iload_n zh83 rfl rfl) ?_
  refine Eq.trans (zd_iload_n zh83 rfl rfl) ?_
  refine Eq.trans (zd_iastore zh83 h1 rfl) ?_
  exact zd_vret zh83 rfl rfl
/-! yX5_swapError: 84, MarbleHeirs.swapError(IIII)I -/
set_option maxRecDepth 20000 in
theorem b84_0 {scr : List Int32} {w : zAW} {a0 : Nat} {x1 : Int32} {x2 : Int32} {x3 : Int32} {x4 : Int32} {g1 : Nat} (h1 : zgf w a0 5 0 = some (.ref g1)) (h2 : zob w g1 3 = true) {f2 : Int32} {w1 : zAW} (h3 : zC scr 27 [.ref g1, .int x1, .int x2] w = some (some (.int f2), w1)) : zd scr 84 0 [some (.ref a0), some (.int x1), some (.int x2), some (.int x3), some (.int x4)] [] w = if f2 = 0 then zd scr 84 25 [some (.ref a0), some (.int x1), some (.int x2), some (.int x3), some (.int x4)] [] w1 else zd scr 84 12 [some (.ref a0), some (.int x1), some (.int x2), some (.int x3), some (.int x4)] [] w1 := by
  refine Eq.trans (zd_aload_n zh84 rfl rfl) ?_
  refine Eq.trans (zd_getfield zh84 (ci := 5) (k := 0) rfl h1 rfl) ?_
  refine Eq.trans (zd_iload_n zh84 rfl rfl) ?_
  refine Eq.trans (zd_iload_n zh84 rfl rfl) ?_
  refine Eq.trans (zd_invVi zh84 zh27 rfl rfl ⟨Nat.le_of_ble_eq_true rfl, Nat.le_of_ble_eq_true rfl, Nat.le_of_ble_eq_true rfl, Nat.le_of_ble_eq_true rfl⟩ rfl h2 h3 rfl) ?_
  exact zd_ifeq zh84 (t := 25) (by decide) rfl
theorem b84_25 {scr : List Int32} {w : zAW} {a0 : Nat} {x1 : Int32} {x2 : Int32} {x3 : Int32} {x4 : Int32}  : zd scr 84 25 [some (.ref a0), some (.int x1), some (.int x2), some (.int x3), some (.int x4)] [] w = some (some (.int (-1)), w) := by
  refine Eq.trans (zd_iconst zh84 (v := (-1)) rfl rfl) ?_
  exact zd_iret zh84 rfl rfl
set_option maxRecDepth 20000 in
theorem b84_12 {scr : List Int32} {w : zAW} {a0 : Nat} {x1 : Int32} {x2 : Int32} {x3 : Int32} {x4 : Int32} {g1 : Nat} (h1 : zgf w a0 5 0 = some (.ref g1)) (h2 : zob w g1 3 = true) {f2 : Int32} {w1 : zAW} (h3 : zC scr 27 [.ref g1, .int x3, .int x4] w = some (some (.int f2), w1)) : zd scr 84 12 [some (.ref a0), some (.int x1), some (.int x2), some (.int x3), some (.int x4)] [] w = if f2 = 0 then zd scr 84 25 [some (.ref a0), some (.int x1), some (.int x2), some (.int x3), some (.int x4)] [] w1 else zd scr 84 27 [some (.ref a0), some (.int x1), some (.int x2), some (.int x3), some (.int x4)] [] w1 := by
  refine Eq.trans (zd_aload_n zh84 rfl rfl) ?_
  refine Eq.trans (zd_getfield zh84 (ci := 5) (k := 0) rfl h1 rfl) ?_
  refine Eq.trans (zd_iload_n zh84 rfl rfl) ?_
  refine Eq.trans (zd_iload zh84 rfl rfl) ?_
  refine Eq.trans (zd_invVi zh84 zh27 rfl rfl ⟨Nat.le_of_ble_eq_true rfl, Nat.le_of_ble_eq_true rfl, Nat.le_of_ble_eq_true rfl, Nat.le_of_ble_eq_true rfl⟩ rfl h2 h3 rfl) ?_
  exact zd_ifne zh84 (t := 27) (by decide) rfl
theorem b84_27 {scr : List Int32} {w : zAW} {a0 : Nat} {x1 : Int32} {x2 : Int32} {x3 : Int32} {x4 : Int32}  : zd scr 84 27 [some (.ref a0), some (.int x1), some (.int x2), some (.int x3), some (.int x4)] [] w = if x1 = x3 then zd scr 84 32 [some (.ref a0), some (.int x1), some (.int x2), some (.int x3), some (.int x4)] [] w else zd scr 84 37 [some (.ref a0), some (.int x1), some (.int x2), some (.int x3), some (.int x4)] [] w := by
  refine Eq.trans (zd_iload_n zh84 rfl rfl) ?_
  refine Eq.trans (zd_iload_n zh84 rfl rfl) ?_
  exact zd_icmpne zh84 (t := 37) (by decide) rfl
theorem b84_32 {scr : List Int32} {w : zAW} {a0 : Nat} {x1 : Int32} {x2 : Int32} {x3 : Int32} {x4 : Int32}  : zd scr 84 32 [some (.ref a0), some (.int x1), some (.int x2), some (.int x3), some (.int x4)] [] w = some (some (.int (-2)), w) := by
  refine Eq.trans (zd_bipush zh84 (v := (-2)) rfl rfl) ?_
  refine Eq.trans (zd_goto zh84 (t := 38) (by decide) rfl) ?_
  exact zd_iret zh84 rfl rfl
theorem b84_37 {scr : List Int32} {w : zAW} {a0 : Nat} {x1 : Int32} {x2 : Int32} {x3 : Int32} {x4 : Int32}  : zd scr 84 37 [some (.ref a0), some (.int x1), some (.int x2), some (.int x3), some (.int x4)] [] w = some (some (.int (nI 0)), w) := by
  refine Eq.trans (zd_iconst zh84 (v := (nI 0)) rfl rfl) ?_
  exact zd_iret zh84 rfl rfl
/-! yX5_spreadUnder: 85, MarbleHeirs.spreadUnder(I)I -/
set_option maxRecDepth 20000 in
theorem b85_0 {scr : List Int32} {w : zAW} {a0 : Nat} {x1 : Int32} {g1 : Nat} (h1 : zgf w a0 5 1 = some (.ref g1)) {g2 : Nat} (h2 : zgf w a0 5 0 = some (.ref g2)) (h3 : zob w g1 3 = true) {w1 : zAW} (h4 : zC scr 25 [.ref g1, .ref g2] w = some (none, w1)) {g3 : Nat} (h5 : zgf w1 a0 5 1 = some (.ref g3)) {w2 : zAW} (h6 : zpf w1 g3 3 6 (.int x1) = some w2) {g4 : Nat} (h7 : zgf w2 a0 5 1 = some (.ref g4)) (h8 : zob w2 g4 3 = true) {f5 : Int32} {w3 : zAW} (h9 : zC scr 31 [.ref g4] w2 = some (some (.int f5), w3)) {g6 : Nat} (h10 : zgf w3 a0 5 1 = some (.ref g6)) (h11 : zob w3 g6 3 = true) {f7 : Int32} {w4 : zAW} (h12 : zC scr 43 [.ref g6, .int (nI 3)] w3 = some (some (.int f7), w4)) : zd scr 85 0 [some (.ref a0), some (.int x1)] [] w = some (some (.int f7), w4) := by
  refine Eq.trans (zd_aload_n zh85 rfl rfl) ?_
  refine Eq.trans (zd_getfield zh85 (ci := 5) (k := 1) rfl h1 rfl) ?_
  refine Eq.trans (zd_aload_n zh85 rfl rfl) ?_
  refine Eq.trans (zd_getfield zh85 (ci := 5) (k := 0) rfl h2 rfl) ?_
  refine Eq.trans (zd_invVv zh85 zh25 rfl rfl ⟨Nat.le_of_ble_eq_true rfl, Nat.le_of_ble_eq_true rfl, Nat.le_of_ble_eq_true rfl, Nat.le_of_ble_eq_true rfl⟩ rfl h3 h4 rfl) ?_
  refine Eq.trans (zd_aload_n zh85 rfl rfl) ?_
  refine Eq.trans (zd_getfield zh85 (ci := 5) (k := 1) rfl h5 rfl) ?_
  refine Eq.trans (zd_iload_n zh85 rfl rfl) ?_
  refine Eq.trans (zd_putfield zh85 (ci := 3) (k := 6) rfl rfl h6 rfl) ?_
  refine Eq.trans (zd_aload_n zh85 rfl rfl) ?_
  refine Eq.trans (zd_getfield zh85 (ci := 5) (k := 1) rfl h7 rfl) ?_
  refine Eq.trans (zd_invVi zh85 zh31 rfl rfl ⟨Nat.le_of_ble_eq_true rfl, Nat.le_of_ble_eq_true rfl, Nat.le_of_ble_eq_true rfl, Nat.le_of_ble_eq_true rfl⟩ rfl h8 h9 rfl) ?_
  refine Eq.trans (zd_pop zh85 rfl) ?_
  refine Eq.trans (zd_aload_n zh85 rfl rfl) ?_
  refine Eq.trans (zd_getfield zh85 (ci := 5) (k := 1) rfl h10 rfl) ?_
  refine Eq.trans (zd_iconst zh85 (v := (nI 3)) rfl rfl) ?_
  refine Eq.trans (zd_invVi zh85 zh43 rfl rfl ⟨Nat.le_of_ble_eq_true rfl, Nat.le_of_ble_eq_true rfl, Nat.le_of_ble_eq_true rfl, Nat.le_of_ble_eq_true rfl⟩ rfl h11 h12 rfl) ?_
  exact zd_iret zh85 rfl rfl
/-! yX6_init: 86, MarbleHeirsModel.<init>()V -/
theorem b86_65 {scr : List Int32} {w : zAW} {a0 : Nat} {x1 : Int32}  : zd scr 86 65 [some (.ref a0), some (.int x1)] [] w = if x1 < (nI 4) then zd scr 86 70 [some (.ref a0), some (.int x1)] [] w else zd scr 86 86 [some (.ref a0), some (.int x1)] [] w := by
  refine Eq.trans (zd_iload_n zh86 rfl rfl) ?_
  refine Eq.trans (zd_iconst zh86 (v := (nI 4)) rfl rfl) ?_
  exact zd_icmpge zh86 (t := 86) (by decide) rfl
theorem b86_70 {scr : List Int32} {w : zAW} {a0 : Nat} {x1 : Int32} {g1 : Nat} (h1 : zgf w a0 6 0 = some (.ref g1)) {w1 : zAW} (h2 : zas w g1 ((nI 8) + x1) (nI 2) = some w1) : zd scr 86 70 [some (.ref a0), some (.int x1)] [] w = zd scr 86 65 [some (.ref a0), some (.int (x1 + (nI 1)))] [] w1 := by
  refine Eq.trans (zd_aload_n zh86 rfl rfl) ?_
  refine Eq.trans (zd_getfield zh86 (ci := 6) (k := 0) rfl h1 rfl) ?_
  refine Eq.trans (zd_bipush zh86 (v := (nI 8)) rfl rfl) ?_
  refine Eq.trans (zd_iload_n zh86 rfl rfl) ?_
  refine Eq.trans (zd_iadd zh86 rfl) ?_
  refine Eq.trans (zd_iconst zh86 (v := (nI 2)) rfl rfl) ?_
  refine Eq.trans (zd_iastore zh86 h2 rfl) ?_
  refine Eq.trans (zd_iinc zh86 (ls' := [some (.ref a0), some (.int (x1 + (nI 1)))]) (v := (x1 + (nI 1))) rfl rfl rfl rfl) ?_
  refine Eq.trans (zd_goto zh86 (t := 65) (by decide) rfl) ?_
  exact rfl
theorem b86_86 {scr : List Int32} {w : zAW} {a0 : Nat} {x1 : Int32}  : zd scr 86 86 [some (.ref a0), some (.int x1)] [] w = some (none, w) := by
  exact zd_vret zh86 rfl rfl
/-! yX6_in: 87, MarbleHeirsModel.in(III)Z -/
theorem b87_0 {scr : List Int32} {w : zAW} {x0 : Int32} {x1 : Int32} {x2 : Int32}  : zd scr 87 0 [some (.int x0), some (.int x1), some (.int x2)] [] w = if x0 < x1 then zd scr 87 14 [some (.int x0), some (.int x1), some (.int x2)] [] w else zd scr 87 5 [some (.int x0), some (.int x1), some (.int x2)] [] w := by
  refine Eq.trans (zd_iload_n zh87 rfl rfl) ?_
  refine Eq.trans (zd_iload_n zh87 rfl rfl) ?_
  exact zd_icmplt zh87 (t := 14) (by decide) rfl
theorem b87_14 {scr : List Int32} {w : zAW} {x0 : Int32} {x1 : Int32} {x2 : Int32}  : zd scr 87 14 [some (.int x0), some (.int x1), some (.int x2)] [] w = some (some (.int (nI 0)), w) := by
  refine Eq.trans (zd_iconst zh87 (v := (nI 0)) rfl rfl) ?_
  exact zd_iret zh87 rfl rfl
theorem b87_5 {scr : List Int32} {w : zAW} {x0 : Int32} {x1 : Int32} {x2 : Int32}  : zd scr 87 5 [some (.int x0), some (.int x1), some (.int x2)] [] w = if x0 ≤ x2 then zd scr 87 10 [some (.int x0), some (.int x1), some (.int x2)] [] w else zd scr 87 14 [some (.int x0), some (.int x1), some (.int x2)] [] w := by
  refine Eq.trans (zd_iload_n zh87 rfl rfl) ?_
  refine Eq.trans (zd_iload_n zh87 rfl rfl) ?_
  exact zd_icmpgt zh87 (t := 14) (by decide) rfl
theorem b87_10 {scr : List Int32} {w : zAW} {x0 : Int32} {x1 : Int32} {x2 : Int32}  : zd scr 87 10 [some (.int x0), some (.int x1), some (.int x2)] [] w = some (some (.int (nI 1)), w) := by
  refine Eq.trans (zd_iconst zh87 (v := (nI 1)) rfl rfl) ?_
  refine Eq.trans (zd_goto zh87 (t := 15) (by decide) rfl) ?_
  exact zd_iret zh87 rfl rfl
/-! yX6_isHeir: 88, MarbleHeirsModel.isHeir(I)Z -/
set_option maxRecDepth 20000 in
theorem b88_0 {scr : List Int32} {w : zAW} {a0 : Nat} {x1 : Int32} {g1 : Nat} (h1 : zgf w a0 6 0 = some (.ref g1)) {f2 : Int32} (h2 : zal w g1 (nI 0) = some f2) {f3 : Int32} {w1 : zAW} (h3 : zC scr 87 [.int x1, .int (nI 0), .int (f2 - (nI 1))] w = some (some (.int f3), w1)) (h4 : zrok (some .boolean) f3 = true) : zd scr 88 0 [some (.ref a0), some (.int x1)] [] w = some (some (.int f3), w1) := by
  refine Eq.trans (zd_iload_n zh88 rfl rfl) ?_
  refine Eq.trans (zd_iconst zh88 (v := (nI 0)) rfl rfl) ?_
  refine Eq.trans (zd_aload_n zh88 rfl rfl) ?_
  refine Eq.trans (zd_getfield zh88 (ci := 6) (k := 0) rfl h1 rfl) ?_
  refine Eq.trans (zd_iconst zh88 (v := (nI 0)) rfl rfl) ?_
  refine Eq.trans (zd_iaload zh88 h2 rfl) ?_
  refine Eq.trans (zd_iconst zh88 (v := (nI 1)) rfl rfl) ?_
  refine Eq.trans (zd_isub zh88 rfl) ?_
  refine Eq.trans (zd_invSi zh88 zh87 rfl rfl ⟨Nat.le_of_ble_eq_true rfl, Nat.le_of_ble_eq_true rfl, Nat.le_of_ble_eq_true rfl, Nat.le_of_ble_eq_true rfl, Nat.le_of_ble_eq_true rfl⟩ rfl h3 rfl) ?_
  exact zd_iret zh88 h4 rfl
/-! yX6_isMother: 89, MarbleHeirsModel.isMother(I)Z -/
set_option maxRecDepth 20000 in
theorem b89_0 {scr : List Int32} {w : zAW} {x0 : Int32} {f1 : Int32} {w1 : zAW} (h1 : zC scr 87 [.int x0, .int (nI 0), .int (nI 3)] w = some (some (.int f1), w1)) (h2 : zrok (some .boolean) f1 = true) : zd scr 89 0 [some (.int x0)] [] w = some (some (.int f1), w1) := by
  refine Eq.trans (zd_iload_n zh89 rfl rfl) ?_
  refine Eq.trans (zd_iconst zh89 (v := (nI 0)) rfl rfl) ?_
  refine Eq.trans (zd_iconst zh89 (v := (nI 3)) rfl rfl) ?_
  refine Eq.trans (zd_invSi zh89 zh87 rfl rfl ⟨Nat.le_of_ble_eq_true rfl, Nat.le_of_ble_eq_true rfl, Nat.le_of_ble_eq_true rfl, Nat.le_of_ble_eq_true rfl, Nat.le_of_ble_eq_true rfl⟩ rfl h1 rfl) ?_
  exact zd_iret zh89 h2 rfl
/-! yX6_isColour: 90, MarbleHeirsModel.isColour(I)Z -/
set_option maxRecDepth 20000 in
theorem b90_0 {scr : List Int32} {w : zAW} {x0 : Int32} {f1 : Int32} {w1 : zAW} (h1 : zC scr 87 [.int x0, .int (nI 0), .int (nI 5)] w = some (some (.int f1), w1)) (h2 : zrok (some .boolean) f1 = true) : zd scr 90 0 [some (.int x0)] [] w = some (some (.int f1), w1) := by
  refine Eq.trans (zd_iload_n zh90 rfl rfl) ?_
  refine Eq.trans (zd_iconst zh90 (v := (nI 0)) rfl rfl) ?_
  refine Eq.trans (zd_iconst zh90 (v := (nI 5)) rfl rfl) ?_
  refine Eq.trans (zd_invSi zh90 zh87 rfl rfl ⟨Nat.le_of_ble_eq_true rfl, Nat.le_of_ble_eq_true rfl, Nat.le_of_ble_eq_true rfl, Nat.le_of_ble_eq_true rfl, Nat.le_of_ble_eq_true rfl⟩ rfl h1 rfl) ?_
  exact zd_iret zh90 h2 rfl
/-! yX6_of: 91, MarbleHeirsModel.of(II)I -/
theorem b91_0 {scr : List Int32} {w : zAW} {a0 : Nat} {x1 : Int32} {x2 : Int32} {g1 : Nat} (h1 : zgf w a0 6 0 = some (.ref g1)) {f2 : Int32} (h2 : zal w g1 (((nI 12) + ((nI 2) * x1)) + x2) = some f2) : zd scr 91 0 [some (.ref a0), some (.int x1), some (.int x2)] [] w = some (some (.int f2), w) := by
  refine Eq.trans (zd_aload_n zh91 rfl rfl) ?_
  refine Eq.trans (zd_getfield zh91 (ci := 6) (k := 0) rfl h1 rfl) ?_
  refine Eq.trans (zd_bipush zh91 (v := (nI 12)) rfl rfl) ?_
  refine Eq.trans (zd_iconst zh91 (v := (nI 2)) rfl rfl) ?_
  refine Eq.trans (zd_iload_n zh91 rfl rfl) ?_
  refine Eq.trans (zd_imul zh91 rfl) ?_
  refine Eq.trans (zd_iadd zh91 rfl) ?_
  refine Eq.trans (zd_iload_n zh91 rfl rfl) ?_
  refine Eq.trans (zd_iadd zh91 rfl) ?_
  refine Eq.trans (zd_iaload zh91 h2 rfl) ?_
  exact zd_iret zh91 rfl rfl
/-! yX6_record: 92, MarbleHeirsModel.record()V -/
theorem b92_0 {scr : List Int32} {w : zAW} {a0 : Nat} {f1 : Int32} (h1 : zgf w a0 6 3 = some (.int f1)) : zd scr 92 0 [some (.ref a0), none] [] w = if f1 = (nI 5) then zd scr 92 8 [some (.ref a0), none] [] w else zd scr 92 49 [some (.ref a0), none] [] w := by
  refine Eq.trans (zd_aload_n zh92 rfl rfl) ?_
  refine Eq.trans (zd_getfield zh92 (ci := 6) (k := 3) rfl h1 rfl) ?_
  refine Eq.trans (zd_iconst zh92 (v := (nI 5)) rfl rfl) ?_
  exact zd_icmpne zh92 (t := 49) (by decide) rfl
theorem b92_10 {scr : List Int32} {w : zAW} {a0 : Nat} {x1 : Int32}  : zd scr 92 10 [some (.ref a0), some (.int x1)] [] w = if x1 < (nI 760) then zd scr 92 17 [some (.ref a0), some (.int x1)] [] w else zd scr 92 39 [some (.ref a0), some (.int x1)] [] w := by
  refine Eq.trans (zd_iload_n zh92 rfl rfl) ?_
  refine Eq.trans (zd_sipush zh92 (v := (nI 760)) rfl rfl) ?_
  exact zd_icmpge zh92 (t := 39) (by decide) rfl
theorem b92_51 {scr : List Int32} {w : zAW} {a0 : Nat} {x1 : Int32}  : zd scr 92 51 [some (.ref a0), some (.int x1)] [] w = if x1 < (nI 190) then zd scr 92 58 [some (.ref a0), some (.int x1)] [] w else zd scr 92 85 [some (.ref a0), some (.int x1)] [] w := by
  refine Eq.trans (zd_iload_n zh92 rfl rfl) ?_
  refine Eq.trans (zd_sipush zh92 (v := (nI 190)) rfl rfl) ?_
  exact zd_icmpge zh92 (t := 85) (by decide) rfl
theorem b92_8 {scr : List Int32} {w : zAW} {a0 : Nat}  : zd scr 92 8 [some (.ref a0), none] [] w = zd scr 92 10 [some (.ref a0), some (.int (nI 0))] [] w := by
  refine Eq.trans (zd_iconst zh92 (v := (nI 0)) rfl rfl) ?_
  refine Eq.trans (zd_istore_n zh92 (ls' := [some (.ref a0), some (.int (nI 0))]) (Nat.le_of_ble_eq_true rfl) rfl rfl) ?_
  exact rfl
theorem b92_49 {scr : List Int32} {w : zAW} {a0 : Nat} {v1 : Option Value}  : zd scr 92 49 [some (.ref a0), v1] [] w = zd scr 92 51 [some (.ref a0), some (.int (nI 0))] [] w := by
  refine Eq.trans (zd_iconst zh92 (v := (nI 0)) rfl rfl) ?_
  refine Eq.trans (zd_istore_n zh92 (ls' := [some (.ref a0), some (.int (nI 0))]) (Nat.le_of_ble_eq_true rfl) rfl rfl) ?_
  exact rfl
theorem b92_17 {scr : List Int32} {w : zAW} {a0 : Nat} {x1 : Int32} {g1 : Nat} (h1 : zgf w a0 6 2 = some (.ref g1)) {g2 : Nat} (h2 : zgf w a0 6 2 = some (.ref g2)) {f3 : Int32} (h3 : zal w g2 (x1 + (nI 190)) = some f3) {w1 : zAW} (h4 : zas w g1 x1 f3 = some w1) : zd scr 92 17 [some (.ref a0), some (.int x1)] [] w = zd scr 92 10 [some (.ref a0), some (.int (x1 + (nI 1)))] [] w1 := by
  refine Eq.trans (zd_aload_n zh92 rfl rfl) ?_
  refine Eq.trans (zd_getfield zh92 (ci := 6) (k := 2) rfl h1 rfl) ?_
  refine Eq.trans (zd_iload_n zh92 rfl rfl) ?_
  refine Eq.trans (zd_aload_n zh92 rfl rfl) ?_
  refine Eq.trans (zd_getfield zh92 (ci := 6) (k := 2) rfl h2 rfl) ?_
  refine Eq.trans (zd_iload_n zh92 rfl rfl) ?_
  refine Eq.trans (zd_sipush zh92 (v := (nI 190)) rfl rfl) ?_
  refine Eq.trans (zd_iadd zh92 rfl) ?_
  refine Eq.trans (zd_iaload zh92 h3 rfl) ?_
  refine Eq.trans (zd_iastore zh92 h4 rfl) ?_
  refine Eq.trans (zd_iinc zh92 (ls' := [some (.ref a0), some (.int (x1 + (nI 1)))]) (v := (x1 + (nI 1))) rfl rfl rfl rfl) ?_
  refine Eq.trans (zd_goto zh92 (t := 10) (by decide) rfl) ?_
  exact rfl
theorem b92_39 {scr : List Int32} {w : zAW} {a0 : Nat} {x1 : Int32} {f1 : Int32} (h1 : zgf w a0 6 3 = some (.int f1)) {w1 : zAW} (h2 : zpf w a0 6 3 (.int (f1 - (nI 1))) = some w1) : zd scr 92 39 [some (.ref a0), some (.int x1)] [] w = zd scr 92 51 [some (.ref a0), some (.int (nI 0))] [] w1 := by
  refine Eq.trans (zd_aload_n zh92 rfl rfl) ?_
  refine Eq.trans (zd_dup zh92 rfl) ?_
  refine Eq.trans (zd_getfield zh92 (ci := 6) (k := 3) rfl h1 rfl) ?_
  refine Eq.trans (zd_iconst zh92 (v := (nI 1)) rfl rfl) ?_
  refine Eq.trans (zd_isub zh92 rfl) ?_
  refine Eq.trans (zd_putfield zh92 (ci := 6) (k := 3) rfl rfl h2 rfl) ?_
  refine Eq.trans (zd_iconst zh92 (v := (nI 0)) rfl rfl) ?_
  refine Eq.trans (zd_istore_n zh92 (ls' := [some (.ref a0), some (.int (nI 0))]) (Nat.le_of_ble_eq_true rfl) rfl rfl) ?_
  exact rfl
theorem b92_58 {scr : List Int32} {w : zAW} {a0 : Nat} {x1 : Int32} {g1 : Nat} (h1 : zgf w a0 6 2 = some (.ref g1)) {f2 : Int32} (h2 : zgf w a0 6 3 = some (.int f2)) {g3 : Nat} (h3 : zgf w a0 6 0 = some (.ref g3)) {f4 : Int32} (h4 : zal w g3 x1 = some f4) {w1 : zAW} (h5 : zas w g1 (((nI 190) * f2) + x1) f4 = some w1) : zd scr 92 58 [some (.ref a0), some (.int x1)] [] w = zd scr 92 51 [some (.ref a0), some (.int (x1 + (nI 1)))] [] w1 := by
  refine Eq.trans (zd_aload_n zh92 rfl rfl) ?_
  refine Eq.trans (zd_getfield zh92 (ci := 6) (k := 2) rfl h1 rfl) ?_
  refine Eq.trans (zd_sipush zh92 (v := (nI 190)) rfl rfl) ?_
  refine Eq.trans (zd_aload_n zh92 rfl rfl) ?_
  refine Eq.trans (zd_getfield zh92 (ci := 6) (k := 3) rfl h2 rfl) ?_
  refine Eq.trans (zd_imul zh92 rfl) ?_
  refine Eq.trans (zd_iload_n zh92 rfl rfl) ?_
  refine Eq.trans (zd_iadd zh92 rfl) ?_
  refine Eq.trans (zd_aload_n zh92 rfl rfl) ?_
  refine Eq.trans (zd_getfield zh92 (ci := 6) (k := 0) rfl h3 rfl) ?_
  refine Eq.trans (zd_iload_n zh92 rfl rfl) ?_
  refine Eq.trans (zd_iaload zh92 h4 rfl) ?_
  refine Eq.trans (zd_iastore zh92 h5 rfl) ?_
  refine Eq.trans (zd_iinc zh92 (ls' := [some (.ref a0), some (.int (x1 + (nI 1)))]) (v := (x1 + (nI 1))) rfl rfl rfl rfl) ?_
  refine Eq.trans (zd_goto zh92 (t := 51) (by decide) rfl) ?_
  exact rfl
theorem b92_85 {scr : List Int32} {w : zAW} {a0 : Nat} {x1 : Int32} {f1 : Int32} (h1 : zgf w a0 6 3 = some (.int f1)) {w1 : zAW} (h2 : zpf w a0 6 3 (.int (f1 + (nI 1))) = some w1) : zd scr 92 85 [some (.ref a0), some (.int x1)] [] w = some (none, w1) := by
  refine Eq.trans (zd_aload_n zh92 rfl rfl) ?_
  refine Eq.trans (zd_dup zh92 rfl) ?_
  refine Eq.trans (zd_getfield zh92 (ci := 6) (k := 3) rfl h1 rfl) ?_
  refine Eq.trans (zd_iconst zh92 (v := (nI 1)) rfl rfl) ?_
  refine Eq.trans (zd_iadd zh92 rfl) ?_
  refine Eq.trans (zd_putfield zh92 (ci := 6) (k := 3) rfl rfl h2 rfl) ?_
  exact zd_vret zh92 rfl rfl
/-! yX6_putAside: 93, MarbleHeirsModel.putAside()V -/
theorem b93_0 {scr : List Int32} {w : zAW} {a0 : Nat}  : zd scr 93 0 [some (.ref a0), none] [] w = zd scr 93 2 [some (.ref a0), some (.int (nI 0))] [] w := by
  refine Eq.trans (zd_iconst zh93 (v := (nI 0)) rfl rfl) ?_
  refine Eq.trans (zd_istore_n zh93 (ls' := [some (.ref a0), some (.int (nI 0))]) (Nat.le_of_ble_eq_true rfl) rfl rfl) ?_
  exact rfl
theorem b93_2 {scr : List Int32} {w : zAW} {a0 : Nat} {x1 : Int32}  : zd scr 93 2 [some (.ref a0), some (.int x1)] [] w = if x1 < (nI 190) then zd scr 93 9 [some (.ref a0), some (.int x1)] [] w else zd scr 93 27 [some (.ref a0), some (.int x1)] [] w := by
  refine Eq.trans (zd_iload_n zh93 rfl rfl) ?_
  refine Eq.trans (zd_sipush zh93 (v := (nI 190)) rfl rfl) ?_
  exact zd_icmpge zh93 (t := 27) (by decide) rfl
theorem b93_9 {scr : List Int32} {w : zAW} {a0 : Nat} {x1 : Int32} {g1 : Nat} (h1 : zgf w a0 6 1 = some (.ref g1)) {g2 : Nat} (h2 : zgf w a0 6 0 = some (.ref g2)) {f3 : Int32} (h3 : zal w g2 x1 = some f3) {w1 : zAW} (h4 : zas w g1 x1 f3 = some w1) : zd scr 93 9 [some (.ref a0), some (.int x1)] [] w = zd scr 93 2 [some (.ref a0), some (.int (x1 + (nI 1)))] [] w1 := by
  refine Eq.trans (zd_aload_n zh93 rfl rfl) ?_
  refine Eq.trans (zd_getfield zh93 (ci := 6) (k := 1) rfl h1 rfl) ?_
  refine Eq.trans (zd_iload_n zh93 rfl rfl) ?_
  refine Eq.trans (zd_aload_n zh93 rfl rfl) ?_
  refine Eq.trans (zd_getfield zh93 (ci := 6) (k := 0) rfl h2 rfl) ?_
  refine Eq.trans (zd_iload_n zh93 rfl rfl) ?_
  refine Eq.trans (zd_iaload zh93 h3 rfl) ?_
  refine Eq.trans (zd_iastore zh93 h4 rfl) ?_
  refine Eq.trans (zd_iinc zh93 (ls' := [some (.ref a0), some (.int (x1 + (nI 1)))]) (v := (x1 + (nI 1))) rfl rfl rfl rfl) ?_
  refine Eq.trans (zd_goto zh93 (t := 2) (by decide) rfl) ?_
  exact rfl
theorem b93_27 {scr : List Int32} {w : zAW} {a0 : Nat} {x1 : Int32}  : zd scr 93 27 [some (.ref a0), some (.int x1)] [] w = some (none, w) := by
  exact zd_vret zh93 rfl rfl
/-! yX6_putBack: 94, MarbleHeirsModel.putBack()V -/
theorem b94_0 {scr : List Int32} {w : zAW} {a0 : Nat}  : zd scr 94 0 [some (.ref a0), none] [] w = zd scr 94 2 [some (.ref a0), some (.int (nI 0))] [] w := by
  refine Eq.trans (zd_iconst zh94 (v := (nI 0)) rfl rfl) ?_
  refine Eq.trans (zd_istore_n zh94 (ls' := [some (.ref a0), some (.int (nI 0))]) (Nat.le_of_ble_eq_true rfl) rfl rfl) ?_
  exact rfl
theorem b94_2 {scr : List Int32} {w : zAW} {a0 : Nat} {x1 : Int32}  : zd scr 94 2 [some (.ref a0), some (.int x1)] [] w = if x1 < (nI 190) then zd scr 94 9 [some (.ref a0), some (.int x1)] [] w else zd scr 94 27 [some (.ref a0), some (.int x1)] [] w := by
  refine Eq.trans (zd_iload_n zh94 rfl rfl) ?_
  refine Eq.trans (zd_sipush zh94 (v := (nI 190)) rfl rfl) ?_
  exact zd_icmpge zh94 (t := 27) (by decide) rfl
theorem b94_9 {scr : List Int32} {w : zAW} {a0 : Nat} {x1 : Int32} {g1 : Nat} (h1 : zgf w a0 6 0 = some (.ref g1)) {g2 : Nat} (h2 : zgf w a0 6 1 = some (.ref g2)) {f3 : Int32} (h3 : zal w g2 x1 = some f3) {w1 : zAW} (h4 : zas w g1 x1 f3 = some w1) : zd scr 94 9 [some (.ref a0), some (.int x1)] [] w = zd scr 94 2 [some (.ref a0), some (.int (x1 + (nI 1)))] [] w1 := by
  refine Eq.trans (zd_aload_n zh94 rfl rfl) ?_
  refine Eq.trans (zd_getfield zh94 (ci := 6) (k := 0) rfl h1 rfl) ?_
  refine Eq.trans (zd_iload_n zh94 rfl rfl) ?_
  refine Eq.trans (zd_aload_n zh94 rfl rfl) ?_
  refine Eq.trans (zd_getfield zh94 (ci := 6) (k := 1) rfl h2 rfl) ?_
  refine Eq.trans (zd_iload_n zh94 rfl rfl) ?_
  refine Eq.trans (zd_iaload zh94 h3 rfl) ?_
  refine Eq.trans (zd_iastore zh94 h4 rfl) ?_
  refine Eq.trans (zd_iinc zh94 (ls' := [some (.ref a0), some (.int (x1 + (nI 1)))]) (v := (x1 + (nI 1))) rfl rfl rfl rfl) ?_
  refine Eq.trans (zd_goto zh94 (t := 2) (by decide) rfl) ?_
  exact rfl
theorem b94_27 {scr : List Int32} {w : zAW} {a0 : Nat} {x1 : Int32}  : zd scr 94 27 [some (.ref a0), some (.int x1)] [] w = some (none, w) := by
  exact zd_vret zh94 rfl rfl
/-! yX6_ownerAt: 95, MarbleHeirsModel.ownerAt(I)I -/
theorem b95_0 {scr : List Int32} {w : zAW} {a0 : Nat} {x1 : Int32} {g1 : Nat} (h1 : zgf w a0 6 0 = some (.ref g1)) {f2 : Int32} (h2 : zal w g1 ((nI 70) + x1) = some f2) : zd scr 95 0 [some (.ref a0), some (.int x1)] [] w = some (some (.int (f2 / (nI 100))), w) := by
  refine Eq.trans (zd_aload_n zh95 rfl rfl) ?_
  refine Eq.trans (zd_getfield zh95 (ci := 6) (k := 0) rfl h1 rfl) ?_
  refine Eq.trans (zd_bipush zh95 (v := (nI 70)) rfl rfl) ?_
  refine Eq.trans (zd_iload_n zh95 rfl rfl) ?_
  refine Eq.trans (zd_iadd zh95 rfl) ?_
  refine Eq.trans (zd_iaload zh95 h2 rfl) ?_
  refine Eq.trans (zd_bipush zh95 (v := (nI 100)) rfl rfl) ?_
  refine Eq.trans (zd_idiv zh95 (by decide) rfl) ?_
  exact zd_iret zh95 rfl rfl
/-! yX6_colourAt: 96, MarbleHeirsModel.colourAt(I)I -/
theorem b96_0 {scr : List Int32} {w : zAW} {a0 : Nat} {x1 : Int32} {g1 : Nat} (h1 : zgf w a0 6 0 = some (.ref g1)) {f2 : Int32} (h2 : zal w g1 ((nI 70) + x1) = some f2) : zd scr 96 0 [some (.ref a0), some (.int x1)] [] w = some (some (.int ((zrem f2 (nI 100)) / (nI 10))), w) := by
  refine Eq.trans (zd_aload_n zh96 rfl rfl) ?_
  refine Eq.trans (zd_getfield zh96 (ci := 6) (k := 0) rfl h1 rfl) ?_
  refine Eq.trans (zd_bipush zh96 (v := (nI 70)) rfl rfl) ?_
  refine Eq.trans (zd_iload_n zh96 rfl rfl) ?_
  refine Eq.trans (zd_iadd zh96 rfl) ?_
  refine Eq.trans (zd_iaload zh96 h2 rfl) ?_
  refine Eq.trans (zd_bipush zh96 (v := (nI 100)) rfl rfl) ?_
  refine Eq.trans (zd_irem zh96 (by decide) rfl) ?_
  refine Eq.trans (zd_bipush zh96 (v := (nI 10)) rfl rfl) ?_
  refine Eq.trans (zd_idiv zh96 (by decide) rfl) ?_
  exact zd_iret zh96 rfl rfl
/-! yX6_valueAt: 97, MarbleHeirsModel.valueAt(I)I -/
theorem b97_0 {scr : List Int32} {w : zAW} {a0 : Nat} {x1 : Int32} {g1 : Nat} (h1 : zgf w a0 6 0 = some (.ref g1)) {f2 : Int32} (h2 : zal w g1 ((nI 70) + x1) = some f2) : zd scr 97 0 [some (.ref a0), some (.int x1)] [] w = some (some (.int (zrem f2 (nI 10))), w) := by
  refine Eq.trans (zd_aload_n zh97 rfl rfl) ?_
  refine Eq.trans (zd_getfield zh97 (ci := 6) (k := 0) rfl h1 rfl) ?_
  refine Eq.trans (zd_bipush zh97 (v := (nI 70)) rfl rfl) ?_
  refine Eq.trans (zd_iload_n zh97 rfl rfl) ?_
  refine Eq.trans (zd_iadd zh97 rfl) ?_
  refine Eq.trans (zd_iaload zh97 h2 rfl) ?_
  refine Eq.trans (zd_bipush zh97 (v := (nI 10)) rfl rfl) ?_
  refine Eq.trans (zd_irem zh97 (by decide) rfl) ?_
  exact zd_iret zh97 rfl rfl
/-! yX6_inBag: 98, MarbleHeirsModel.inBag(I)I -/
theorem b98_0 {scr : List Int32} {w : zAW} {a0 : Nat} {x1 : Int32}  : zd scr 98 0 [some (.ref a0), some (.int x1), none, none] [] w = zd scr 98 4 [some (.ref a0), some (.int x1), some (.int (nI 0)), some (.int (nI 0))] [] w := by
  refine Eq.trans (zd_iconst zh98 (v := (nI 0)) rfl rfl) ?_
  refine Eq.trans (zd_istore_n zh98 (ls' := [some (.ref a0), some (.int x1), some (.int (nI 0)), none]) (Nat.le_of_ble_eq_true rfl) rfl rfl) ?_
  refine Eq.trans (zd_iconst zh98 (v := (nI 0)) rfl rfl) ?_
  refine Eq.trans (zd_istore_n zh98 (ls' := [some (.ref a0), some (.int x1), some (.int (nI 0)), some (.int (nI 0))]) (Nat.le_of_ble_eq_true rfl) rfl rfl) ?_
  exact rfl
theorem b98_4 {scr : List Int32} {w : zAW} {a0 : Nat} {x1 : Int32} {x2 : Int32} {x3 : Int32} {g1 : Nat} (h1 : zgf w a0 6 0 = some (.ref g1)) {f2 : Int32} (h2 : zal w g1 (nI 7) = some f2) : zd scr 98 4 [some (.ref a0), some (.int x1), some (.int x2), some (.int x3)] [] w = if x3 < f2 then zd scr 98 15 [some (.ref a0), some (.int x1), some (.int x2), some (.int x3)] [] w else zd scr 98 38 [some (.ref a0), some (.int x1), some (.int x2), some (.int x3)] [] w := by
  refine Eq.trans (zd_iload_n zh98 rfl rfl) ?_
  refine Eq.trans (zd_aload_n zh98 rfl rfl) ?_
  refine Eq.trans (zd_getfield zh98 (ci := 6) (k := 0) rfl h1 rfl) ?_
  refine Eq.trans (zd_bipush zh98 (v := (nI 7)) rfl rfl) ?_
  refine Eq.trans (zd_iaload zh98 h2 rfl) ?_
  exact zd_icmpge zh98 (t := 38) (by decide) rfl
set_option maxRecDepth 20000 in
theorem b98_15 {scr : List Int32} {w : zAW} {a0 : Nat} {x1 : Int32} {x2 : Int32} {x3 : Int32} (h1 : zob w a0 6 = true) {f1 : Int32} {w1 : zAW} (h2 : zC scr 95 [.ref a0, .int x3] w = some (some (.int f1), w1)) : zd scr 98 15 [some (.ref a0), some (.int x1), some (.int x2), some (.int x3)] [] w = if f1 = x1 then zd scr 98 25 [some (.ref a0), some (.int x1), some (.int x2), some (.int x3)] [.int x2] w1 else zd scr 98 29 [some (.ref a0), some (.int x1), some (.int x2), some (.int x3)] [.int x2] w1 := by
  refine Eq.trans (zd_iload_n zh98 rfl rfl) ?_
  refine Eq.trans (zd_aload_n zh98 rfl rfl) ?_
  refine Eq.trans (zd_iload_n zh98 rfl rfl) ?_
  refine Eq.trans (zd_invVi zh98 zh95 rfl rfl ⟨Nat.le_of_ble_eq_true rfl, Nat.le_of_ble_eq_true rfl, Nat.le_of_ble_eq_true rfl, Nat.le_of_ble_eq_true rfl⟩ rfl h1 h2 rfl) ?_
  refine Eq.trans (zd_iload_n zh98 rfl rfl) ?_
  exact zd_icmpne zh98 (t := 29) (by decide) rfl
theorem b98_38 {scr : List Int32} {w : zAW} {a0 : Nat} {x1 : Int32} {x2 : Int32} {x3 : Int32}  : zd scr 98 38 [some (.ref a0), some (.int x1), some (.int x2), some (.int x3)] [] w = some (some (.int x2), w) := by
  refine Eq.trans (zd_iload_n zh98 rfl rfl) ?_
  exact zd_iret zh98 rfl rfl
theorem b98_25 {scr : List Int32} {w : zAW} {a0 : Nat} {x1 : Int32} {x2 : Int32} {x3 : Int32} {y0 : Int32}  : zd scr 98 25 [some (.ref a0), some (.int x1), some (.int x2), some (.int x3)] [.int y0] w = zd scr 98 4 [some (.ref a0), some (.int x1), some (.int (y0 + (nI 1))), some (.int (x3 + (nI 1)))] [] w := by
  refine Eq.trans (zd_iconst zh98 (v := (nI 1)) rfl rfl) ?_
  refine Eq.trans (zd_goto zh98 (t := 30) (by decide) rfl) ?_
  refine Eq.trans (zd_iadd zh98 rfl) ?_
  refine Eq.trans (zd_istore_n zh98 (ls' := [some (.ref a0), some (.int x1), some (.int (y0 + (nI 1))), some (.int x3)]) (Nat.le_of_ble_eq_true rfl) rfl rfl) ?_
  refine Eq.trans (zd_iinc zh98 (ls' := [some (.ref a0), some (.int x1), some (.int (y0 + (nI 1))), some (.int (x3 + (nI 1)))]) (v := (x3 + (nI 1))) rfl rfl rfl rfl) ?_
  refine Eq.trans (zd_goto zh98 (t := 4) (by decide) rfl) ?_
  exact rfl
theorem b98_29 {scr : List Int32} {w : zAW} {a0 : Nat} {x1 : Int32} {x2 : Int32} {x3 : Int32} {y0 : Int32}  : zd scr 98 29 [some (.ref a0), some (.int x1), some (.int x2), some (.int x3)] [.int y0] w = zd scr 98 4 [some (.ref a0), some (.int x1), some (.int (y0 + (nI 0))), some (.int (x3 + (nI 1)))] [] w := by
  refine Eq.trans (zd_iconst zh98 (v := (nI 0)) rfl rfl) ?_
  refine Eq.trans (zd_iadd zh98 rfl) ?_
  refine Eq.trans (zd_istore_n zh98 (ls' := [some (.ref a0), some (.int x1), some (.int (y0 + (nI 0))), some (.int x3)]) (Nat.le_of_ble_eq_true rfl) rfl rfl) ?_
  refine Eq.trans (zd_iinc zh98 (ls' := [some (.ref a0), some (.int x1), some (.int (y0 + (nI 0))), some (.int (x3 + (nI 1)))]) (v := (x3 + (nI 1))) rfl rfl rfl rfl) ?_
  refine Eq.trans (zd_goto zh98 (t := 4) (by decide) rfl) ?_
  exact rfl
/-! yX6_worth: 99, MarbleHeirsModel.worth(I)I -/
theorem b99_0 {scr : List Int32} {w : zAW} {a0 : Nat} {x1 : Int32}  : zd scr 99 0 [some (.ref a0), some (.int x1), none, none] [] w = zd scr 99 4 [some (.ref a0), some (.int x1), some (.int (nI 0)), some (.int (nI 0))] [] w := by
  refine Eq.trans (zd_iconst zh99 (v := (nI 0)) rfl rfl) ?_
  refine Eq.trans (zd_istore_n zh99 (ls' := [some (.ref a0), some (.int x1), some (.int (nI 0)), none]) (Nat.le_of_ble_eq_true rfl) rfl rfl) ?_
  refine Eq.trans (zd_iconst zh99 (v := (nI 0)) rfl rfl) ?_
  refine Eq.trans (zd_istore_n zh99 (ls' := [some (.ref a0), some (.int x1), some (.int (nI 0)), some (.int (nI 0))]) (Nat.le_of_ble_eq_true rfl) rfl rfl) ?_
  exact rfl
theorem b99_4 {scr : List Int32} {w : zAW} {a0 : Nat} {x1 : Int32} {x2 : Int32} {x3 : Int32} {g1 : Nat} (h1 : zgf w a0 6 0 = some (.ref g1)) {f2 : Int32} (h2 : zal w g1 (nI 7) = some f2) : zd scr 99 4 [some (.ref a0), some (.int x1), some (.int x2), some (.int x3)] [] w = if x3 < f2 then zd scr 99 15 [some (.ref a0), some (.int x1), some (.int x2), some (.int x3)] [] w else zd scr 99 42 [some (.ref a0), some (.int x1), some (.int x2), some (.int x3)] [] w := by
  refine Eq.trans (zd_iload_n zh99 rfl rfl) ?_
  refine Eq.trans (zd_aload_n zh99 rfl rfl) ?_
  refine Eq.trans (zd_getfield zh99 (ci := 6) (k := 0) rfl h1 rfl) ?_
  refine Eq.trans (zd_bipush zh99 (v := (nI 7)) rfl rfl) ?_
  refine Eq.trans (zd_iaload zh99 h2 rfl) ?_
  exact zd_icmpge zh99 (t := 42) (by decide) rfl
set_option maxRecDepth 20000 in
theorem b99_15 {scr : List Int32} {w : zAW} {a0 : Nat} {x1 : Int32} {x2 : Int32} {x3 : Int32} (h1 : zob w a0 6 = true) {f1 : Int32} {w1 : zAW} (h2 : zC scr 95 [.ref a0, .int x3] w = some (some (.int f1), w1)) : zd scr 99 15 [some (.ref a0), some (.int x1), some (.int x2), some (.int x3)] [] w = if f1 = x1 then zd scr 99 25 [some (.ref a0), some (.int x1), some (.int x2), some (.int x3)] [.int x2] w1 else zd scr 99 33 [some (.ref a0), some (.int x1), some (.int x2), some (.int x3)] [.int x2] w1 := by
  refine Eq.trans (zd_iload_n zh99 rfl rfl) ?_
  refine Eq.trans (zd_aload_n zh99 rfl rfl) ?_
  refine Eq.trans (zd_iload_n zh99 rfl rfl) ?_
  refine Eq.trans (zd_invVi zh99 zh95 rfl rfl ⟨Nat.le_of_ble_eq_true rfl, Nat.le_of_ble_eq_true rfl, Nat.le_of_ble_eq_true rfl, Nat.le_of_ble_eq_true rfl⟩ rfl h1 h2 rfl) ?_
  refine Eq.trans (zd_iload_n zh99 rfl rfl) ?_
  exact zd_icmpne zh99 (t := 33) (by decide) rfl
theorem b99_42 {scr : List Int32} {w : zAW} {a0 : Nat} {x1 : Int32} {x2 : Int32} {x3 : Int32}  : zd scr 99 42 [some (.ref a0), some (.int x1), some (.int x2), some (.int x3)] [] w = some (some (.int x2), w) := by
  refine Eq.trans (zd_iload_n zh99 rfl rfl) ?_
  exact zd_iret zh99 rfl rfl
set_option maxRecDepth 20000 in
theorem b99_25 {scr : List Int32} {w : zAW} {a0 : Nat} {x1 : Int32} {x2 : Int32} {x3 : Int32} {y0 : Int32} (h1 : zob w a0 6 = true) {f1 : Int32} {w1 : zAW} (h2 : zC scr 97 [.ref a0, .int x3] w = some (some (.int f1), w1)) : zd scr 99 25 [some (.ref a0), some (.int x1), some (.int x2), some (.int x3)] [.int y0] w = zd scr 99 4 [some (.ref a0), some (.int x1), some (.int (y0 + f1)), some (.int (x3 + (nI 1)))] [] w1 := by
  refine Eq.trans (zd_aload_n zh99 rfl rfl) ?_
  refine Eq.trans (zd_iload_n zh99 rfl rfl) ?_
  refine Eq.trans (zd_invVi zh99 zh97 rfl rfl ⟨Nat.le_of_ble_eq_true rfl, Nat.le_of_ble_eq_true rfl, Nat.le_of_ble_eq_true rfl, Nat.le_of_ble_eq_true rfl⟩ rfl h1 h2 rfl) ?_
  refine Eq.trans (zd_goto zh99 (t := 34) (by decide) rfl) ?_
  refine Eq.trans (zd_iadd zh99 rfl) ?_
  refine Eq.trans (zd_istore_n zh99 (ls' := [some (.ref a0), some (.int x1), some (.int (y0 + f1)), some (.int x3)]) (Nat.le_of_ble_eq_true rfl) rfl rfl) ?_
  refine Eq.trans (zd_iinc zh99 (ls' := [some (.ref a0), some (.int x1), some (.int (y0 + f1)), some (.int (x3 + (nI 1)))]) (v := (x3 + (nI 1))) rfl rfl rfl rfl) ?_
  refine Eq.trans (zd_goto zh99 (t := 4) (by decide) rfl) ?_
  exact rfl
theorem b99_33 {scr : List Int32} {w : zAW} {a0 : Nat} {x1 : Int32} {x2 : Int32} {x3 : Int32} {y0 : Int32}  : zd scr 99 33 [some (.ref a0), some (.int x1), some (.int x2), some (.int x3)] [.int y0] w = zd scr 99 4 [some (.ref a0), some (.int x1), some (.int (y0 + (nI 0))), some (.int (x3 + (nI 1)))] [] w := by
  refine Eq.trans (zd_iconst zh99 (v := (nI 0)) rfl rfl) ?_
  refine Eq.trans (zd_iadd zh99 rfl) ?_
  refine Eq.trans (zd_istore_n zh99 (ls' := [some (.ref a0), some (.int x1), some (.int (y0 + (nI 0))), some (.int x3)]) (Nat.le_of_ble_eq_true rfl) rfl rfl) ?_
  refine Eq.trans (zd_iinc zh99 (ls' := [some (.ref a0), some (.int x1), some (.int (y0 + (nI 0))), some (.int (x3 + (nI 1)))]) (v := (x3 + (nI 1))) rfl rfl rfl rfl) ?_
  refine Eq.trans (zd_goto zh99 (t := 4) (by decide) rfl) ?_
  exact rfl
/-! yX6_ofColour: 100, MarbleHeirsModel.ofColour(II)I -/
theorem b100_0 {scr : List Int32} {w : zAW} {a0 : Nat} {x1 : Int32} {x2 : Int32}  : zd scr 100 0 [some (.ref a0), some (.int x1), some (.int x2), none, none] [] w = zd scr 100 5 [some (.ref a0), some (.int x1), some (.int x2), some (.int (nI 0)), some (.int (nI 0))] [] w := by
  refine Eq.trans (zd_iconst zh100 (v := (nI 0)) rfl rfl) ?_
  refine Eq.trans (zd_istore_n zh100 (ls' := [some (.ref a0), some (.int x1), some (.int x2), some (.int (nI 0)), none]) (Nat.le_of_ble_eq_true rfl) rfl rfl) ?_
  refine Eq.trans (zd_iconst zh100 (v := (nI 0)) rfl rfl) ?_
  refine Eq.trans (zd_istore zh100 (ls' := [some (.ref a0), some (.int x1), some (.int x2), some (.int (nI 0)), some (.int (nI 0))]) (Nat.le_of_ble_eq_true rfl) rfl rfl) ?_
  exact rfl
theorem b100_5 {scr : List Int32} {w : zAW} {a0 : Nat} {x1 : Int32} {x2 : Int32} {x3 : Int32} {x4 : Int32} {g1 : Nat} (h1 : zgf w a0 6 0 = some (.ref g1)) {f2 : Int32} (h2 : zal w g1 (nI 7) = some f2) : zd scr 100 5 [some (.ref a0), some (.int x1), some (.int x2), some (.int x3), some (.int x4)] [] w = if x4 < f2 then zd scr 100 17 [some (.ref a0), some (.int x1), some (.int x2), some (.int x3), some (.int x4)] [] w else zd scr 100 51 [some (.ref a0), some (.int x1), some (.int x2), some (.int x3), some (.int x4)] [] w := by
  refine Eq.trans (zd_iload zh100 rfl rfl) ?_
  refine Eq.trans (zd_aload_n zh100 rfl rfl) ?_
  refine Eq.trans (zd_getfield zh100 (ci := 6) (k := 0) rfl h1 rfl) ?_
  refine Eq.trans (zd_bipush zh100 (v := (nI 7)) rfl rfl) ?_
  refine Eq.trans (zd_iaload zh100 h2 rfl) ?_
  exact zd_icmpge zh100 (t := 51) (by decide) rfl
set_option maxRecDepth 20000 in
theorem b100_17 {scr : List Int32} {w : zAW} {a0 : Nat} {x1 : Int32} {x2 : Int32} {x3 : Int32} {x4 : Int32} (h1 : zob w a0 6 = true) {f1 : Int32} {w1 : zAW} (h2 : zC scr 95 [.ref a0, .int x4] w = some (some (.int f1), w1)) : zd scr 100 17 [some (.ref a0), some (.int x1), some (.int x2), some (.int x3), some (.int x4)] [] w = if f1 = x1 then zd scr 100 28 [some (.ref a0), some (.int x1), some (.int x2), some (.int x3), some (.int x4)] [.int x3] w1 else zd scr 100 42 [some (.ref a0), some (.int x1), some (.int x2), some (.int x3), some (.int x4)] [.int x3] w1 := by
  refine Eq.trans (zd_iload_n zh100 rfl rfl) ?_
  refine Eq.trans (zd_aload_n zh100 rfl rfl) ?_
  refine Eq.trans (zd_iload zh100 rfl rfl) ?_
  refine Eq.trans (zd_invVi zh100 zh95 rfl rfl ⟨Nat.le_of_ble_eq_true rfl, Nat.le_of_ble_eq_true rfl, Nat.le_of_ble_eq_true rfl, Nat.le_of_ble_eq_true rfl⟩ rfl h1 h2 rfl) ?_
  refine Eq.trans (zd_iload_n zh100 rfl rfl) ?_
  exact zd_icmpne zh100 (t := 42) (by decide) rfl
theorem b100_51 {scr : List Int32} {w : zAW} {a0 : Nat} {x1 : Int32} {x2 : Int32} {x3 : Int32} {x4 : Int32}  : zd scr 100 51 [some (.ref a0), some (.int x1), some (.int x2), some (.int x3), some (.int x4)] [] w = some (some (.int x3), w) := by
  refine Eq.trans (zd_iload_n zh100 rfl rfl) ?_
  exact zd_iret zh100 rfl rfl
set_option maxRecDepth 20000 in
theorem b100_28 {scr : List Int32} {w : zAW} {a0 : Nat} {x1 : Int32} {x2 : Int32} {x3 : Int32} {x4 : Int32} {y0 : Int32} (h1 : zob w a0 6 = true) {f1 : Int32} {w1 : zAW} (h2 : zC scr 96 [.ref a0, .int x4] w = some (some (.int f1), w1)) : zd scr 100 28 [some (.ref a0), some (.int x1), some (.int x2), some (.int x3), some (.int x4)] [.int y0] w = if f1 = x2 then zd scr 100 38 [some (.ref a0), some (.int x1), some (.int x2), some (.int x3), some (.int x4)] [.int y0] w1 else zd scr 100 42 [some (.ref a0), some (.int x1), some (.int x2), some (.int x3), some (.int x4)] [.int y0] w1 := by
  refine Eq.trans (zd_aload_n zh100 rfl rfl) ?_
  refine Eq.trans (zd_iload zh100 rfl rfl) ?_
  refine Eq.trans (zd_invVi zh100 zh96 rfl rfl ⟨Nat.le_of_ble_eq_true rfl, Nat.le_of_ble_eq_true rfl, Nat.le_of_ble_eq_true rfl, Nat.le_of_ble_eq_true rfl⟩ rfl h1 h2 rfl) ?_
  refine Eq.trans (zd_iload_n zh100 rfl rfl) ?_
  exact zd_icmpne zh100 (t := 42) (by decide) rfl
theorem b100_42 {scr : List Int32} {w : zAW} {a0 : Nat} {x1 : Int32} {x2 : Int32} {x3 : Int32} {x4 : Int32} {y0 : Int32}  : zd scr 100 42 [some (.ref a0), some (.int x1), some (.int x2), some (.int x3), some (.int x4)] [.int y0] w = zd scr 100 5 [some (.ref a0), some (.int x1), some (.int x2), some (.int (y0 + (nI 0))), some (.int (x4 + (nI 1)))] [] w := by
  refine Eq.trans (zd_iconst zh100 (v := (nI 0)) rfl rfl) ?_
  refine Eq.trans (zd_iadd zh100 rfl) ?_
  refine Eq.trans (zd_istore_n zh100 (ls' := [some (.ref a0), some (.int x1), some (.int x2), some (.int (y0 + (nI 0))), some (.int x4)]) (Nat.le_of_ble_eq_true rfl) rfl rfl) ?_
  refine Eq.trans (zd_iinc zh100 (ls' := [some (.ref a0), some (.int x1), some (.int x2), some (.int (y0 + (nI 0))), some (.int (x4 + (nI 1)))]) (v := (x4 + (nI 1))) rfl rfl rfl rfl) ?_
  refine Eq.trans (zd_goto zh100 (t := 5) (by decide) rfl) ?_
  exact rfl
theorem b100_38 {scr : List Int32} {w : zAW} {a0 : Nat} {x1 : Int32} {x2 : Int32} {x3 : Int32} {x4 : Int32} {y0 : Int32}  : zd scr 100 38 [some (.ref a0), some (.int x1), some (.int x2), some (.int x3), some (.int x4)] [.int y0] w = zd scr 100 5 [some (.ref a0), some (.int x1), some (.int x2), some (.int (y0 + (nI 1))), some (.int (x4 + (nI 1)))] [] w := by
  refine Eq.trans (zd_iconst zh100 (v := (nI 1)) rfl rfl) ?_
  refine Eq.trans (zd_goto zh100 (t := 43) (by decide) rfl) ?_
  refine Eq.trans (zd_iadd zh100 rfl) ?_
  refine Eq.trans (zd_istore_n zh100 (ls' := [some (.ref a0), some (.int x1), some (.int x2), some (.int (y0 + (nI 1))), some (.int x4)]) (Nat.le_of_ble_eq_true rfl) rfl rfl) ?_
  refine Eq.trans (zd_iinc zh100 (ls' := [some (.ref a0), some (.int x1), some (.int x2), some (.int (y0 + (nI 1))), some (.int (x4 + (nI 1)))]) (v := (x4 + (nI 1))) rfl rfl rfl rfl) ?_
  refine Eq.trans (zd_goto zh100 (t := 5) (by decide) rfl) ?_
  exact rfl
/-! yX6_find: 101, MarbleHeirsModel.find(II)I -/
theorem b101_0 {scr : List Int32} {w : zAW} {a0 : Nat} {x1 : Int32} {x2 : Int32}  : zd scr 101 0 [some (.ref a0), some (.int x1), some (.int x2), none, none] [] w = zd scr 101 5 [some (.ref a0), some (.int x1), some (.int x2), some (.int (nI 0)), some (.int (nI 0))] [] w := by
  refine Eq.trans (zd_iconst zh101 (v := (nI 0)) rfl rfl) ?_
  refine Eq.trans (zd_istore_n zh101 (ls' := [some (.ref a0), some (.int x1), some (.int x2), some (.int (nI 0)), none]) (Nat.le_of_ble_eq_true rfl) rfl rfl) ?_
  refine Eq.trans (zd_iconst zh101 (v := (nI 0)) rfl rfl) ?_
  refine Eq.trans (zd_istore zh101 (ls' := [some (.ref a0), some (.int x1), some (.int x2), some (.int (nI 0)), some (.int (nI 0))]) (Nat.le_of_ble_eq_true rfl) rfl rfl) ?_
  exact rfl
theorem b101_5 {scr : List Int32} {w : zAW} {a0 : Nat} {x1 : Int32} {x2 : Int32} {x3 : Int32} {x4 : Int32} {g1 : Nat} (h1 : zgf w a0 6 0 = some (.ref g1)) {f2 : Int32} (h2 : zal w g1 (nI 7) = some f2) : zd scr 101 5 [some (.ref a0), some (.int x1), some (.int x2), some (.int x3), some (.int x4)] [] w = if x4 < f2 then zd scr 101 17 [some (.ref a0), some (.int x1), some (.int x2), some (.int x3), some (.int x4)] [] w else zd scr 101 52 [some (.ref a0), some (.int x1), some (.int x2), some (.int x3), some (.int x4)] [] w := by
  refine Eq.trans (zd_iload zh101 rfl rfl) ?_
  refine Eq.trans (zd_aload_n zh101 rfl rfl) ?_
  refine Eq.trans (zd_getfield zh101 (ci := 6) (k := 0) rfl h1 rfl) ?_
  refine Eq.trans (zd_bipush zh101 (v := (nI 7)) rfl rfl) ?_
  refine Eq.trans (zd_iaload zh101 h2 rfl) ?_
  exact zd_icmpge zh101 (t := 52) (by decide) rfl
set_option maxRecDepth 20000 in
theorem b101_17 {scr : List Int32} {w : zAW} {a0 : Nat} {x1 : Int32} {x2 : Int32} {x3 : Int32} {x4 : Int32} (h1 : zob w a0 6 = true) {f1 : Int32} {w1 : zAW} (h2 : zC scr 88 [.ref a0, .int x1] w = some (some (.int f1), w1)) : zd scr 101 17 [some (.ref a0), some (.int x1), some (.int x2), some (.int x3), some (.int x4)] [] w = if f1 = 0 then zd scr 101 52 [some (.ref a0), some (.int x1), some (.int x2), some (.int x3), some (.int x4)] [] w1 else zd scr 101 25 [some (.ref a0), some (.int x1), some (.int x2), some (.int x3), some (.int x4)] [] w1 := by
  refine Eq.trans (zd_aload_n zh101 rfl rfl) ?_
  refine Eq.trans (zd_iload_n zh101 rfl rfl) ?_
  refine Eq.trans (zd_invVi zh101 zh88 rfl rfl ⟨Nat.le_of_ble_eq_true rfl, Nat.le_of_ble_eq_true rfl, Nat.le_of_ble_eq_true rfl, Nat.le_of_ble_eq_true rfl⟩ rfl h1 h2 rfl) ?_
  exact zd_ifeq zh101 (t := 52) (by decide) rfl
theorem b101_52 {scr : List Int32} {w : zAW} {a0 : Nat} {x1 : Int32} {x2 : Int32} {x3 : Int32} {x4 : Int32}  : zd scr 101 52 [some (.ref a0), some (.int x1), some (.int x2), some (.int x3), some (.int x4)] [] w = some (some (.int (-6)), w) := by
  refine Eq.trans (zd_bipush zh101 (v := (-6)) rfl rfl) ?_
  exact zd_iret zh101 rfl rfl
set_option maxRecDepth 20000 in
theorem b101_25 {scr : List Int32} {w : zAW} {a0 : Nat} {x1 : Int32} {x2 : Int32} {x3 : Int32} {x4 : Int32} (h1 : zob w a0 6 = true) {f1 : Int32} {w1 : zAW} (h2 : zC scr 95 [.ref a0, .int x4] w = some (some (.int f1), w1)) : zd scr 101 25 [some (.ref a0), some (.int x1), some (.int x2), some (.int x3), some (.int x4)] [] w = if f1 = x1 then zd scr 101 35 [some (.ref a0), some (.int x1), some (.int x2), some (.int x3), some (.int x4)] [] w1 else zd scr 101 46 [some (.ref a0), some (.int x1), some (.int x2), some (.int x3), some (.int x4)] [] w1 := by
  refine Eq.trans (zd_aload_n zh101 rfl rfl) ?_
  refine Eq.trans (zd_iload zh101 rfl rfl) ?_
  refine Eq.trans (zd_invVi zh101 zh95 rfl rfl ⟨Nat.le_of_ble_eq_true rfl, Nat.le_of_ble_eq_true rfl, Nat.le_of_ble_eq_true rfl, Nat.le_of_ble_eq_true rfl⟩ rfl h1 h2 rfl) ?_
  refine Eq.trans (zd_iload_n zh101 rfl rfl) ?_
  exact zd_icmpne zh101 (t := 46) (by decide) rfl
theorem b101_35 {scr : List Int32} {w : zAW} {a0 : Nat} {x1 : Int32} {x2 : Int32} {x3 : Int32} {x4 : Int32}  : zd scr 101 35 [some (.ref a0), some (.int x1), some (.int x2), some (.int x3), some (.int x4)] [] w = if x3 = x2 then zd scr 101 40 [some (.ref a0), some (.int x1), some (.int x2), some (.int x3), some (.int x4)] [] w else zd scr 101 43 [some (.ref a0), some (.int x1), some (.int x2), some (.int x3), some (.int x4)] [] w := by
  refine Eq.trans (zd_iload_n zh101 rfl rfl) ?_
  refine Eq.trans (zd_iload_n zh101 rfl rfl) ?_
  exact zd_icmpne zh101 (t := 43) (by decide) rfl
theorem b101_46 {scr : List Int32} {w : zAW} {a0 : Nat} {x1 : Int32} {x2 : Int32} {x3 : Int32} {x4 : Int32}  : zd scr 101 46 [some (.ref a0), some (.int x1), some (.int x2), some (.int x3), some (.int x4)] [] w = zd scr 101 5 [some (.ref a0), some (.int x1), some (.int x2), some (.int x3), some (.int (x4 + (nI 1)))] [] w := by
  refine Eq.trans (zd_iinc zh101 (ls' := [some (.ref a0), some (.int x1), some (.int x2), some (.int x3), some (.int (x4 + (nI 1)))]) (v := (x4 + (nI 1))) rfl rfl rfl rfl) ?_
  refine Eq.trans (zd_goto zh101 (t := 5) (by decide) rfl) ?_
  exact rfl
theorem b101_40 {scr : List Int32} {w : zAW} {a0 : Nat} {x1 : Int32} {x2 : Int32} {x3 : Int32} {x4 : Int32}  : zd scr 101 40 [some (.ref a0), some (.int x1), some (.int x2), some (.int x3), some (.int x4)] [] w = some (some (.int x4), w) := by
  refine Eq.trans (zd_iload zh101 rfl rfl) ?_
  exact zd_iret zh101 rfl rfl
theorem b101_43 {scr : List Int32} {w : zAW} {a0 : Nat} {x1 : Int32} {x2 : Int32} {x3 : Int32} {x4 : Int32}  : zd scr 101 43 [some (.ref a0), some (.int x1), some (.int x2), some (.int x3), some (.int x4)] [] w = zd scr 101 5 [some (.ref a0), some (.int x1), some (.int x2), some (.int (x3 + (nI 1))), some (.int (x4 + (nI 1)))] [] w := by
  refine Eq.trans (zd_iinc zh101 (ls' := [some (.ref a0), some (.int x1), some (.int x2), some (.int (x3 + (nI 1))), some (.int x4)]) (v := (x3 + (nI 1))) rfl rfl rfl rfl) ?_
  refine Eq.trans (zd_iinc zh101 (ls' := [some (.ref a0), some (.int x1), some (.int x2), some (.int (x3 + (nI 1))), some (.int (x4 + (nI 1)))]) (v := (x4 + (nI 1))) rfl rfl rfl rfl) ?_
  refine Eq.trans (zd_goto zh101 (t := 5) (by decide) rfl) ?_
  exact rfl
/-! yX6_wishes: 102, MarbleHeirsModel.wishes()I -/
theorem b102_0 {scr : List Int32} {w : zAW} {a0 : Nat}  : zd scr 102 0 [some (.ref a0), none, none] [] w = zd scr 102 4 [some (.ref a0), some (.int (nI 0)), some (.int (nI 0))] [] w := by
  refine Eq.trans (zd_iconst zh102 (v := (nI 0)) rfl rfl) ?_
  refine Eq.trans (zd_istore_n zh102 (ls' := [some (.ref a0), some (.int (nI 0)), none]) (Nat.le_of_ble_eq_true rfl) rfl rfl) ?_
  refine Eq.trans (zd_iconst zh102 (v := (nI 0)) rfl rfl) ?_
  refine Eq.trans (zd_istore_n zh102 (ls' := [some (.ref a0), some (.int (nI 0)), some (.int (nI 0))]) (Nat.le_of_ble_eq_true rfl) rfl rfl) ?_
  exact rfl
theorem b102_4 {scr : List Int32} {w : zAW} {a0 : Nat} {x1 : Int32} {x2 : Int32} {g1 : Nat} (h1 : zgf w a0 6 0 = some (.ref g1)) {f2 : Int32} (h2 : zal w g1 (nI 7) = some f2) : zd scr 102 4 [some (.ref a0), some (.int x1), some (.int x2)] [] w = if x2 < f2 then zd scr 102 15 [some (.ref a0), some (.int x1), some (.int x2)] [] w else zd scr 102 47 [some (.ref a0), some (.int x1), some (.int x2)] [] w := by
  refine Eq.trans (zd_iload_n zh102 rfl rfl) ?_
  refine Eq.trans (zd_aload_n zh102 rfl rfl) ?_
  refine Eq.trans (zd_getfield zh102 (ci := 6) (k := 0) rfl h1 rfl) ?_
  refine Eq.trans (zd_bipush zh102 (v := (nI 7)) rfl rfl) ?_
  refine Eq.trans (zd_iaload zh102 h2 rfl) ?_
  exact zd_icmpge zh102 (t := 47) (by decide) rfl
set_option maxRecDepth 20000 in
theorem b102_15 {scr : List Int32} {w : zAW} {a0 : Nat} {x1 : Int32} {x2 : Int32} (h1 : zob w a0 6 = true) {f1 : Int32} {w1 : zAW} (h2 : zC scr 95 [.ref a0, .int x2] w = some (some (.int f1), w1)) (h3 : zob w1 a0 6 = true) {f2 : Int32} {w2 : zAW} (h4 : zC scr 91 [.ref a0, .int f1, .int (nI 1)] w1 = some (some (.int f2), w2)) (h5 : zob w2 a0 6 = true) {f3 : Int32} {w3 : zAW} (h6 : zC scr 96 [.ref a0, .int x2] w2 = some (some (.int f3), w3)) : zd scr 102 15 [some (.ref a0), some (.int x1), some (.int x2)] [] w = if f2 = f3 then zd scr 102 34 [some (.ref a0), some (.int x1), some (.int x2)] [.int x1] w3 else zd scr 102 38 [some (.ref a0), some (.int x1), some (.int x2)] [.int x1] w3 := by
  refine Eq.trans (zd_iload_n zh102 rfl rfl) ?_
  refine Eq.trans (zd_aload_n zh102 rfl rfl) ?_
  refine Eq.trans (zd_aload_n zh102 rfl rfl) ?_
  refine Eq.trans (zd_iload_n zh102 rfl rfl) ?_
  refine Eq.trans (zd_invVi zh102 zh95 rfl rfl ⟨Nat.le_of_ble_eq_true rfl, Nat.le_of_ble_eq_true rfl, Nat.le_of_ble_eq_true rfl, Nat.le_of_ble_eq_true rfl⟩ rfl h1 h2 rfl) ?_
  refine Eq.trans (zd_iconst zh102 (v := (nI 1)) rfl rfl) ?_
  refine Eq.trans (zd_invVi zh102 zh91 rfl rfl ⟨Nat.le_of_ble_eq_true rfl, Nat.le_of_ble_eq_true rfl, Nat.le_of_ble_eq_true rfl, Nat.le_of_ble_eq_true rfl⟩ rfl h3 h4 rfl) ?_
  refine Eq.trans (zd_aload_n zh102 rfl rfl) ?_
  refine Eq.trans (zd_iload_n zh102 rfl rfl) ?_
  refine Eq.trans (zd_invVi zh102 zh96 rfl rfl ⟨Nat.le_of_ble_eq_true rfl, Nat.le_of_ble_eq_true rfl, Nat.le_of_ble_eq_true rfl, Nat.le_of_ble_eq_true rfl⟩ rfl h5 h6 rfl) ?_
  exact zd_icmpne zh102 (t := 38) (by decide) rfl
theorem b102_47 {scr : List Int32} {w : zAW} {a0 : Nat} {x1 : Int32} {x2 : Int32}  : zd scr 102 47 [some (.ref a0), some (.int x1), some (.int x2)] [] w = some (some (.int x1), w) := by
  refine Eq.trans (zd_iload_n zh102 rfl rfl) ?_
  exact zd_iret zh102 rfl rfl
theorem b102_34 {scr : List Int32} {w : zAW} {a0 : Nat} {x1 : Int32} {x2 : Int32} {y0 : Int32}  : zd scr 102 34 [some (.ref a0), some (.int x1), some (.int x2)] [.int y0] w = zd scr 102 4 [some (.ref a0), some (.int (y0 + (nI 1))), some (.int (x2 + (nI 1)))] [] w := by
  refine Eq.trans (zd_iconst zh102 (v := (nI 1)) rfl rfl) ?_
  refine Eq.trans (zd_goto zh102 (t := 39) (by decide) rfl) ?_
  refine Eq.trans (zd_iadd zh102 rfl) ?_
  refine Eq.trans (zd_istore_n zh102 (ls' := [some (.ref a0), some (.int (y0 + (nI 1))), some (.int x2)]) (Nat.le_of_ble_eq_true rfl) rfl rfl) ?_
  refine Eq.trans (zd_iinc zh102 (ls' := [some (.ref a0), some (.int (y0 + (nI 1))), some (.int (x2 + (nI 1)))]) (v := (x2 + (nI 1))) rfl rfl rfl rfl) ?_
  refine Eq.trans (zd_goto zh102 (t := 4) (by decide) rfl) ?_
  exact rfl
theorem b102_38 {scr : List Int32} {w : zAW} {a0 : Nat} {x1 : Int32} {x2 : Int32} {y0 : Int32}  : zd scr 102 38 [some (.ref a0), some (.int x1), some (.int x2)] [.int y0] w = zd scr 102 4 [some (.ref a0), some (.int (y0 + (nI 0))), some (.int (x2 + (nI 1)))] [] w := by
  refine Eq.trans (zd_iconst zh102 (v := (nI 0)) rfl rfl) ?_
  refine Eq.trans (zd_iadd zh102 rfl) ?_
  refine Eq.trans (zd_istore_n zh102 (ls' := [some (.ref a0), some (.int (y0 + (nI 0))), some (.int x2)]) (Nat.le_of_ble_eq_true rfl) rfl rfl) ?_
  refine Eq.trans (zd_iinc zh102 (ls' := [some (.ref a0), some (.int (y0 + (nI 0))), some (.int (x2 + (nI 1)))]) (v := (x2 + (nI 1))) rfl rfl rfl rfl) ?_
  refine Eq.trans (zd_goto zh102 (t := 4) (by decide) rfl) ?_
  exact rfl
/-! yX6_spread: 103, MarbleHeirsModel.spread(Z)I -/
theorem b103_0 {scr : List Int32} {w : zAW} {a0 : Nat} {x1 : Int32}  : zd scr 103 0 [some (.ref a0), some (.int x1), none, none, none, none] [] w = zd scr 103 7 [some (.ref a0), some (.int x1), some (.int (nI 0)), some (.int (nI 0)), some (.int (nI 0)), none] [] w := by
  refine Eq.trans (zd_iconst zh103 (v := (nI 0)) rfl rfl) ?_
  refine Eq.trans (zd_istore_n zh103 (ls' := [some (.ref a0), some (.int x1), some (.int (nI 0)), none, none, none]) (Nat.le_of_ble_eq_true rfl) rfl rfl) ?_
  refine Eq.trans (zd_iconst zh103 (v := (nI 0)) rfl rfl) ?_
  refine Eq.trans (zd_istore_n zh103 (ls' := [some (.ref a0), some (.int x1), some (.int (nI 0)), some (.int (nI 0)), none, none]) (Nat.le_of_ble_eq_true rfl) rfl rfl) ?_
  refine Eq.trans (zd_iconst zh103 (v := (nI 0)) rfl rfl) ?_
  refine Eq.trans (zd_istore zh103 (ls' := [some (.ref a0), some (.int x1), some (.int (nI 0)), some (.int (nI 0)), some (.int (nI 0)), none]) (Nat.le_of_ble_eq_true rfl) rfl rfl) ?_
  exact rfl
theorem b103_7 {scr : List Int32} {w : zAW} {a0 : Nat} {x1 : Int32} {x2 : Int32} {x3 : Int32} {x4 : Int32} {v5 : Option Value} {g1 : Nat} (h1 : zgf w a0 6 0 = some (.ref g1)) {f2 : Int32} (h2 : zal w g1 (nI 0) = some f2) : zd scr 103 7 [some (.ref a0), some (.int x1), some (.int x2), some (.int x3), some (.int x4), v5] [] w = if x4 < f2 then zd scr 103 18 [some (.ref a0), some (.int x1), some (.int x2), some (.int x3), some (.int x4), v5] [] w else zd scr 103 81 [some (.ref a0), some (.int x1), some (.int x2), some (.int x3), some (.int x4), v5] [] w := by
  refine Eq.trans (zd_iload zh103 rfl rfl) ?_
  refine Eq.trans (zd_aload_n zh103 rfl rfl) ?_
  refine Eq.trans (zd_getfield zh103 (ci := 6) (k := 0) rfl h1 rfl) ?_
  refine Eq.trans (zd_iconst zh103 (v := (nI 0)) rfl rfl) ?_
  refine Eq.trans (zd_iaload zh103 h2 rfl) ?_
  exact zd_icmpge zh103 (t := 81) (by decide) rfl
theorem b103_18 {scr : List Int32} {w : zAW} {a0 : Nat} {x1 : Int32} {x2 : Int32} {x3 : Int32} {x4 : Int32} {v5 : Option Value}  : zd scr 103 18 [some (.ref a0), some (.int x1), some (.int x2), some (.int x3), some (.int x4), v5] [] w = if x1 = 0 then zd scr 103 31 [some (.ref a0), some (.int x1), some (.int x2), some (.int x3), some (.int x4), v5] [] w else zd scr 103 22 [some (.ref a0), some (.int x1), some (.int x2), some (.int x3), some (.int x4), v5] [] w := by
  refine Eq.trans (zd_iload_n zh103 rfl rfl) ?_
  exact zd_ifeq zh103 (t := 31) (by decide) rfl
theorem b103_81 {scr : List Int32} {w : zAW} {a0 : Nat} {x1 : Int32} {x2 : Int32} {x3 : Int32} {x4 : Int32} {v5 : Option Value}  : zd scr 103 81 [some (.ref a0), some (.int x1), some (.int x2), some (.int x3), some (.int x4), v5] [] w = some (some (.int (x3 - x2)), w) := by
  refine Eq.trans (zd_iload_n zh103 rfl rfl) ?_
  refine Eq.trans (zd_iload_n zh103 rfl rfl) ?_
  refine Eq.trans (zd_isub zh103 rfl) ?_
  exact zd_iret zh103 rfl rfl
set_option maxRecDepth 20000 in
theorem b103_31 {scr : List Int32} {w : zAW} {a0 : Nat} {x1 : Int32} {x2 : Int32} {x3 : Int32} {x4 : Int32} {v5 : Option Value} (h1 : zob w a0 6 = true) {f1 : Int32} {w1 : zAW} (h2 : zC scr 98 [.ref a0, .int x4] w = some (some (.int f1), w1)) : zd scr 103 31 [some (.ref a0), some (.int x1), some (.int x2), some (.int x3), some (.int x4), v5] [] w = if x4 = 0 then zd scr 103 50 [some (.ref a0), some (.int x1), some (.int x2), some (.int x3), some (.int x4), some (.int f1)] [] w1 else zd scr 103 44 [some (.ref a0), some (.int x1), some (.int x2), some (.int x3), some (.int x4), some (.int f1)] [] w1 := by
  refine Eq.trans (zd_aload_n zh103 rfl rfl) ?_
  refine Eq.trans (zd_iload zh103 rfl rfl) ?_
  refine Eq.trans (zd_invVi zh103 zh98 rfl rfl ⟨Nat.le_of_ble_eq_true rfl, Nat.le_of_ble_eq_true rfl, Nat.le_of_ble_eq_true rfl, Nat.le_of_ble_eq_true rfl⟩ rfl h1 h2 rfl) ?_
  refine Eq.trans (zd_istore zh103 (ls' := [some (.ref a0), some (.int x1), some (.int x2), some (.int x3), some (.int x4), some (.int f1)]) (Nat.le_of_ble_eq_true rfl) rfl rfl) ?_
  refine Eq.trans (zd_iload zh103 rfl rfl) ?_
  exact zd_ifeq zh103 (t := 50) (by decide) rfl
set_option maxRecDepth 20000 in
theorem b103_22 {scr : List Int32} {w : zAW} {a0 : Nat} {x1 : Int32} {x2 : Int32} {x3 : Int32} {x4 : Int32} {v5 : Option Value} (h1 : zob w a0 6 = true) {f1 : Int32} {w1 : zAW} (h2 : zC scr 99 [.ref a0, .int x4] w = some (some (.int f1), w1)) : zd scr 103 22 [some (.ref a0), some (.int x1), some (.int x2), some (.int x3), some (.int x4), v5] [] w = if x4 = 0 then zd scr 103 50 [some (.ref a0), some (.int x1), some (.int x2), some (.int x3), some (.int x4), some (.int f1)] [] w1 else zd scr 103 44 [some (.ref a0), some (.int x1), some (.int x2), some (.int x3), some (.int x4), some (.int f1)] [] w1 := by
  refine Eq.trans (zd_aload_n zh103 rfl rfl) ?_
  refine Eq.trans (zd_iload zh103 rfl rfl) ?_
  refine Eq.trans (zd_invVi zh103 zh99 rfl rfl ⟨Nat.le_of_ble_eq_true rfl, Nat.le_of_ble_eq_true rfl, Nat.le_of_ble_eq_true rfl, Nat.le_of_ble_eq_true rfl⟩ rfl h1 h2 rfl) ?_
  refine Eq.trans (zd_goto zh103 (t := 37) (by decide) rfl) ?_
  refine Eq.trans (zd_istore zh103 (ls' := [some (.ref a0), some (.int x1), some (.int x2), some (.int x3), some (.int x4), some (.int f1)]) (Nat.le_of_ble_eq_true rfl) rfl rfl) ?_
  refine Eq.trans (zd_iload zh103 rfl rfl) ?_
  exact zd_ifeq zh103 (t := 50) (by decide) rfl
theorem b103_50 {scr : List Int32} {w : zAW} {a0 : Nat} {x1 : Int32} {x2 : Int32} {x3 : Int32} {x4 : Int32} {x5 : Int32}  : zd scr 103 50 [some (.ref a0), some (.int x1), some (.int x2), some (.int x3), some (.int x4), some (.int x5)] [] w = if x4 = 0 then zd scr 103 68 [some (.ref a0), some (.int x1), some (.int x5), some (.int x3), some (.int x4), some (.int x5)] [] w else zd scr 103 62 [some (.ref a0), some (.int x1), some (.int x5), some (.int x3), some (.int x4), some (.int x5)] [] w := by
  refine Eq.trans (zd_iload zh103 rfl rfl) ?_
  refine Eq.trans (zd_goto zh103 (t := 56) (by decide) rfl) ?_
  refine Eq.trans (zd_istore_n zh103 (ls' := [some (.ref a0), some (.int x1), some (.int x5), some (.int x3), some (.int x4), some (.int x5)]) (Nat.le_of_ble_eq_true rfl) rfl rfl) ?_
  refine Eq.trans (zd_iload zh103 rfl rfl) ?_
  exact zd_ifeq zh103 (t := 68) (by decide) rfl
theorem b103_44 {scr : List Int32} {w : zAW} {a0 : Nat} {x1 : Int32} {x2 : Int32} {x3 : Int32} {x4 : Int32} {x5 : Int32}  : zd scr 103 44 [some (.ref a0), some (.int x1), some (.int x2), some (.int x3), some (.int x4), some (.int x5)] [] w = if x5 < x2 then zd scr 103 50 [some (.ref a0), some (.int x1), some (.int x2), some (.int x3), some (.int x4), some (.int x5)] [] w else zd scr 103 55 [some (.ref a0), some (.int x1), some (.int x2), some (.int x3), some (.int x4), some (.int x5)] [] w := by
  refine Eq.trans (zd_iload zh103 rfl rfl) ?_
  refine Eq.trans (zd_iload_n zh103 rfl rfl) ?_
  exact zd_icmpge zh103 (t := 55) (by decide) rfl
theorem b103_68 {scr : List Int32} {w : zAW} {a0 : Nat} {x1 : Int32} {x2 : Int32} {x3 : Int32} {x4 : Int32} {x5 : Int32}  : zd scr 103 68 [some (.ref a0), some (.int x1), some (.int x2), some (.int x3), some (.int x4), some (.int x5)] [] w = zd scr 103 7 [some (.ref a0), some (.int x1), some (.int x2), some (.int x5), some (.int (x4 + (nI 1))), some (.int x5)] [] w := by
  refine Eq.trans (zd_iload zh103 rfl rfl) ?_
  refine Eq.trans (zd_goto zh103 (t := 74) (by decide) rfl) ?_
  refine Eq.trans (zd_istore_n zh103 (ls' := [some (.ref a0), some (.int x1), some (.int x2), some (.int x5), some (.int x4), some (.int x5)]) (Nat.le_of_ble_eq_true rfl) rfl rfl) ?_
  refine Eq.trans (zd_iinc zh103 (ls' := [some (.ref a0), some (.int x1), some (.int x2), some (.int x5), some (.int (x4 + (nI 1))), some (.int x5)]) (v := (x4 + (nI 1))) rfl rfl rfl rfl) ?_
  refine Eq.trans (zd_goto zh103 (t := 7) (by decide) rfl) ?_
  exact rfl
theorem b103_62 {scr : List Int32} {w : zAW} {a0 : Nat} {x1 : Int32} {x2 : Int32} {x3 : Int32} {x4 : Int32} {x5 : Int32}  : zd scr 103 62 [some (.ref a0), some (.int x1), some (.int x2), some (.int x3), some (.int x4), some (.int x5)] [] w = if x3 < x5 then zd scr 103 68 [some (.ref a0), some (.int x1), some (.int x2), some (.int x3), some (.int x4), some (.int x5)] [] w else zd scr 103 73 [some (.ref a0), some (.int x1), some (.int x2), some (.int x3), some (.int x4), some (.int x5)] [] w := by
  refine Eq.trans (zd_iload zh103 rfl rfl) ?_
  refine Eq.trans (zd_iload_n zh103 rfl rfl) ?_
  exact zd_icmple zh103 (t := 73) (by decide) rfl
theorem b103_55 {scr : List Int32} {w : zAW} {a0 : Nat} {x1 : Int32} {x2 : Int32} {x3 : Int32} {x4 : Int32} {x5 : Int32}  : zd scr 103 55 [some (.ref a0), some (.int x1), some (.int x2), some (.int x3), some (.int x4), some (.int x5)] [] w = if x4 = 0 then zd scr 103 68 [some (.ref a0), some (.int x1), some (.int x2), some (.int x3), some (.int x4), some (.int x5)] [] w else zd scr 103 62 [some (.ref a0), some (.int x1), some (.int x2), some (.int x3), some (.int x4), some (.int x5)] [] w := by
  refine Eq.trans (zd_iload_n zh103 rfl rfl) ?_
  refine Eq.trans (zd_istore_n zh103 (ls' := [some (.ref a0), some (.int x1), some (.int x2), some (.int x3), some (.int x4), some (.int x5)]) (Nat.le_of_ble_eq_true rfl) rfl rfl) ?_
  refine Eq.trans (zd_iload zh103 rfl rfl) ?_
  exact zd_ifeq zh103 (t := 68) (by decide) rfl
theorem b103_73 {scr : List Int32} {w : zAW} {a0 : Nat} {x1 : Int32} {x2 : Int32} {x3 : Int32} {x4 : Int32} {x5 : Int32}  : zd scr 103 73 [some (.ref a0), some (.int x1), some (.int x2), some (.int x3), some (.int x4), some (.int x5)] [] w = zd scr 103 7 [some (.ref a0), some (.int x1), some (.int x2), some (.int x3), some (.int (x4 + (nI 1))), some (.int x5)] [] w := by
  refine Eq.trans (zd_iload_n zh103 rfl rfl) ?_
  refine Eq.trans (zd_istore_n zh103 (ls' := [some (.ref a0), some (.int x1), some (.int x2), some (.int x3), some (.int x4), some (.int x5)]) (Nat.le_of_ble_eq_true rfl) rfl rfl) ?_
  refine Eq.trans (zd_iinc zh103 (ls' := [some (.ref a0), some (.int x1), some (.int x2), some (.int x3), some (.int (x4 + (nI 1))), some (.int x5)]) (v := (x4 + (nI 1))) rfl rfl rfl rfl) ?_
  refine Eq.trans (zd_goto zh103 (t := 7) (by decide) rfl) ?_
  exact rfl
/-! yX6_gives: 104, MarbleHeirsModel.gives(I)V -/
theorem b104_0 {scr : List Int32} {w : zAW} {a0 : Nat} {x1 : Int32} {g1 : Nat} (h1 : zgf w a0 6 0 = some (.ref g1)) {g2 : Nat} (h2 : zgf w a0 6 0 = some (.ref g2)) {f3 : Int32} (h3 : zal w g2 (nI 7) = some f3) {g4 : Nat} (h4 : zgf w a0 6 0 = some (.ref g4)) {f5 : Int32} (h5 : zal w g4 (nI 30) = some f5) {w1 : zAW} (h6 : zas w g1 ((nI 70) + f3) (((nI 100) * x1) + f5) = some w1) {g6 : Nat} (h7 : zgf w1 a0 6 0 = some (.ref g6)) {f7 : Int32} (h8 : zal w1 g6 (nI 7) = some f7) {w2 : zAW} (h9 : zas w1 g6 (nI 7) (f7 + (nI 1)) = some w2) {g8 : Nat} (h10 : zgf w2 a0 6 0 = some (.ref g8)) {f9 : Int32} (h11 : zal w2 g8 (nI 6) = some f9) {w3 : zAW} (h12 : zas w2 g8 (nI 6) (f9 - (nI 1)) = some w3) : zd scr 104 0 [some (.ref a0), some (.int x1), none] [] w = zd scr 104 51 [some (.ref a0), some (.int x1), some (.int (nI 0))] [] w3 := by
  refine Eq.trans (zd_aload_n zh104 rfl rfl) ?_
  refine Eq.trans (zd_getfield zh104 (ci := 6) (k := 0) rfl h1 rfl) ?_
  refine Eq.trans (zd_bipush zh104 (v := (nI 70)) rfl rfl) ?_
  refine Eq.trans (zd_aload_n zh104 rfl rfl) ?_
  refine Eq.trans (zd_getfield zh104 (ci := 6) (k := 0) rfl h2 rfl) ?_
  refine Eq.trans (zd_bipush zh104 (v := (nI 7)) rfl rfl) ?_
  refine Eq.trans (zd_iaload zh104 h3 rfl) ?_
  refine Eq.trans (zd_iadd zh104 rfl) ?_
  refine Eq.trans (zd_bipush zh104 (v := (nI 100)) rfl rfl) ?_
  refine Eq.trans (zd_iload_n zh104 rfl rfl) ?_
  refine Eq.trans (zd_imul zh104 rfl) ?_
  refine Eq.trans (zd_aload_n zh104 rfl rfl) ?_
  refine Eq.trans (zd_getfield zh104 (ci := 6) (k := 0) rfl h4 rfl) ?_
  refine Eq.trans (zd_bipush zh104 (v := (nI 30)) rfl rfl) ?_
  refine Eq.trans (zd_iaload zh104 h5 rfl) ?_
  refine Eq.trans (zd_iadd zh104 rfl) ?_
  refine Eq.trans (zd_iastore zh104 h6 rfl) ?_
  refine Eq.trans (zd_aload_n zh104 rfl rfl) ?_
  refine Eq.trans (zd_getfield zh104 (ci := 6) (k := 0) rfl h7 rfl) ?_
  refine Eq.trans (zd_bipush zh104 (v := (nI 7)) rfl rfl) ?_
  refine Eq.trans (zd_dup2 zh104 rfl) ?_
  refine Eq.trans (zd_iaload zh104 h8 rfl) ?_
  refine Eq.trans (zd_iconst zh104 (v := (nI 1)) rfl rfl) ?_
  refine Eq.trans (zd_iadd zh104 rfl) ?_
  refine Eq.trans (zd_iastore zh104 h9 rfl) ?_
  refine Eq.trans (zd_aload_n zh104 rfl rfl) ?_
  refine Eq.trans (zd_getfield zh104 (ci := 6) (k := 0) rfl h10 rfl) ?_
  refine Eq.trans (zd_bipush zh104 (v := (nI 6)) rfl rfl) ?_
  refine Eq.trans (zd_dup2 zh104 rfl) ?_
  refine Eq.trans (zd_iaload zh104 h11 rfl) ?_
  refine Eq.trans (zd_iconst zh104 (v := (nI 1)) rfl rfl) ?_
  refine Eq.trans (zd_isub zh104 rfl) ?_
  refine Eq.trans (zd_iastore zh104 h12 rfl) ?_
  refine Eq.trans (zd_iconst zh104 (v := (nI 0)) rfl rfl) ?_
  refine Eq.trans (zd_istore_n zh104 (ls' := [some (.ref a0), some (.int x1), some (.int (nI 0))]) (Nat.le_of_ble_eq_true rfl) rfl rfl) ?_
  exact rfl
theorem b104_51 {scr : List Int32} {w : zAW} {a0 : Nat} {x1 : Int32} {x2 : Int32} {g1 : Nat} (h1 : zgf w a0 6 0 = some (.ref g1)) {f2 : Int32} (h2 : zal w g1 (nI 6) = some f2) : zd scr 104 51 [some (.ref a0), some (.int x1), some (.int x2)] [] w = if x2 < f2 then zd scr 104 62 [some (.ref a0), some (.int x1), some (.int x2)] [] w else zd scr 104 88 [some (.ref a0), some (.int x1), some (.int x2)] [] w := by
  refine Eq.trans (zd_iload_n zh104 rfl rfl) ?_
  refine Eq.trans (zd_aload_n zh104 rfl rfl) ?_
  refine Eq.trans (zd_getfield zh104 (ci := 6) (k := 0) rfl h1 rfl) ?_
  refine Eq.trans (zd_bipush zh104 (v := (nI 6)) rfl rfl) ?_
  refine Eq.trans (zd_iaload zh104 h2 rfl) ?_
  exact zd_icmpge zh104 (t := 88) (by decide) rfl
theorem b104_62 {scr : List Int32} {w : zAW} {a0 : Nat} {x1 : Int32} {x2 : Int32} {g1 : Nat} (h1 : zgf w a0 6 0 = some (.ref g1)) {g2 : Nat} (h2 : zgf w a0 6 0 = some (.ref g2)) {f3 : Int32} (h3 : zal w g2 (((nI 30) + x2) + (nI 1)) = some f3) {w1 : zAW} (h4 : zas w g1 ((nI 30) + x2) f3 = some w1) : zd scr 104 62 [some (.ref a0), some (.int x1), some (.int x2)] [] w = zd scr 104 51 [some (.ref a0), some (.int x1), some (.int (x2 + (nI 1)))] [] w1 := by
  refine Eq.trans (zd_aload_n zh104 rfl rfl) ?_
  refine Eq.trans (zd_getfield zh104 (ci := 6) (k := 0) rfl h1 rfl) ?_
  refine Eq.trans (zd_bipush zh104 (v := (nI 30)) rfl rfl) ?_
  refine Eq.trans (zd_iload_n zh104 rfl rfl) ?_
  refine Eq.trans (zd_iadd zh104 rfl) ?_
  refine Eq.trans (zd_aload_n zh104 rfl rfl) ?_
  refine Eq.trans (zd_getfield zh104 (ci := 6) (k := 0) rfl h2 rfl) ?_
  refine Eq.trans (zd_bipush zh104 (v := (nI 30)) rfl rfl) ?_
  refine Eq.trans (zd_iload_n zh104 rfl rfl) ?_
  refine Eq.trans (zd_iadd zh104 rfl) ?_
  refine Eq.trans (zd_iconst zh104 (v := (nI 1)) rfl rfl) ?_
  refine Eq.trans (zd_iadd zh104 rfl) ?_
  refine Eq.trans (zd_iaload zh104 h3 rfl) ?_
  refine Eq.trans (zd_iastore zh104 h4 rfl) ?_
  refine Eq.trans (zd_iinc zh104 (ls' := [some (.ref a0), some (.int x1), some (.int (x2 + (nI 1)))]) (v := (x2 + (nI 1))) rfl rfl rfl rfl) ?_
  refine Eq.trans (zd_goto zh104 (t := 51) (by decide) rfl) ?_
  exact rfl
theorem b104_88 {scr : List Int32} {w : zAW} {a0 : Nat} {x1 : Int32} {x2 : Int32} {g1 : Nat} (h1 : zgf w a0 6 0 = some (.ref g1)) {g2 : Nat} (h2 : zgf w a0 6 0 = some (.ref g2)) {f3 : Int32} (h3 : zal w g2 (nI 6) = some f3) {w1 : zAW} (h4 : zas w g1 ((nI 30) + f3) (nI 0) = some w1) : zd scr 104 88 [some (.ref a0), some (.int x1), some (.int x2)] [] w = some (none, w1) := by
  refine Eq.trans (zd_aload_n zh104 rfl rfl) ?_
  refine Eq.trans (zd_getfield zh104 (ci := 6) (k := 0) rfl h1 rfl) ?_
  refine Eq.trans (zd_bipush zh104 (v := (nI 30)) rfl rfl) ?_
  refine Eq.trans (zd_aload_n zh104 rfl rfl) ?_
  refine Eq.trans (zd_getfield zh104 (ci := 6) (k := 0) rfl h2 rfl) ?_
  refine Eq.trans (zd_bipush zh104 (v := (nI 6)) rfl rfl) ?_
  refine Eq.trans (zd_iaload zh104 h3 rfl) ?_
  refine Eq.trans (zd_iadd zh104 rfl) ?_
  refine Eq.trans (zd_iconst zh104 (v := (nI 0)) rfl rfl) ?_
  refine Eq.trans (zd_iastore zh104 h4 rfl) ?_
  exact zd_vret zh104 rfl rfl
/-! yX6_poorest: 105, MarbleHeirsModel.poorest(I)I -/
theorem b105_0 {scr : List Int32} {w : zAW} {a0 : Nat} {x1 : Int32} {g1 : Nat} (h1 : zgf w a0 6 0 = some (.ref g1)) {f2 : Int32} (h2 : zal w g1 (nI 0) = some f2) : zd scr 105 0 [some (.ref a0), some (.int x1), none, none, none] [] w = zd scr 105 12 [some (.ref a0), some (.int x1), some (.int (-6)), some (.int (f2 - (nI 1))), none] [] w := by
  refine Eq.trans (zd_bipush zh105 (v := (-6)) rfl rfl) ?_
  refine Eq.trans (zd_istore_n zh105 (ls' := [some (.ref a0), some (.int x1), some (.int (-6)), none, none]) (Nat.le_of_ble_eq_true rfl) rfl rfl) ?_
  refine Eq.trans (zd_aload_n zh105 rfl rfl) ?_
  refine Eq.trans (zd_getfield zh105 (ci := 6) (k := 0) rfl h1 rfl) ?_
  refine Eq.trans (zd_iconst zh105 (v := (nI 0)) rfl rfl) ?_
  refine Eq.trans (zd_iaload zh105 h2 rfl) ?_
  refine Eq.trans (zd_iconst zh105 (v := (nI 1)) rfl rfl) ?_
  refine Eq.trans (zd_isub zh105 rfl) ?_
  refine Eq.trans (zd_istore_n zh105 (ls' := [some (.ref a0), some (.int x1), some (.int (-6)), some (.int (f2 - (nI 1))), none]) (Nat.le_of_ble_eq_true rfl) rfl rfl) ?_
  exact rfl
theorem b105_12 {scr : List Int32} {w : zAW} {a0 : Nat} {x1 : Int32} {x2 : Int32} {x3 : Int32} {v4 : Option Value}  : zd scr 105 12 [some (.ref a0), some (.int x1), some (.int x2), some (.int x3), v4] [] w = if x3 < 0 then zd scr 105 69 [some (.ref a0), some (.int x1), some (.int x2), some (.int x3), v4] [] w else zd scr 105 16 [some (.ref a0), some (.int x1), some (.int x2), some (.int x3), v4] [] w := by
  refine Eq.trans (zd_iload_n zh105 rfl rfl) ?_
  exact zd_iflt zh105 (t := 69) (by decide) rfl
theorem b105_69 {scr : List Int32} {w : zAW} {a0 : Nat} {x1 : Int32} {x2 : Int32} {x3 : Int32} {v4 : Option Value}  : zd scr 105 69 [some (.ref a0), some (.int x1), some (.int x2), some (.int x3), v4] [] w = some (some (.int x2), w) := by
  refine Eq.trans (zd_iload_n zh105 rfl rfl) ?_
  exact zd_iret zh105 rfl rfl
theorem b105_16 {scr : List Int32} {w : zAW} {a0 : Nat} {x1 : Int32} {x2 : Int32} {x3 : Int32} {v4 : Option Value} {g1 : Nat} (h1 : zgf w a0 6 0 = some (.ref g1)) {f2 : Int32} (h2 : zal w g1 ((nI 24) + x3) = some f2) : zd scr 105 16 [some (.ref a0), some (.int x1), some (.int x2), some (.int x3), v4] [] w = if ((x1 >>> (f2 &&& 31)) &&& (nI 1)) = 0 then zd scr 105 36 [some (.ref a0), some (.int x1), some (.int x2), some (.int x3), some (.int f2)] [] w else zd scr 105 61 [some (.ref a0), some (.int x1), some (.int x2), some (.int x3), some (.int f2)] [] w := by
  refine Eq.trans (zd_aload_n zh105 rfl rfl) ?_
  refine Eq.trans (zd_getfield zh105 (ci := 6) (k := 0) rfl h1 rfl) ?_
  refine Eq.trans (zd_bipush zh105 (v := (nI 24)) rfl rfl) ?_
  refine Eq.trans (zd_iload_n zh105 rfl rfl) ?_
  refine Eq.trans (zd_iadd zh105 rfl) ?_
  refine Eq.trans (zd_iaload zh105 h2 rfl) ?_
  refine Eq.trans (zd_istore zh105 (ls' := [some (.ref a0), some (.int x1), some (.int x2), some (.int x3), some (.int f2)]) (Nat.le_of_ble_eq_true rfl) rfl rfl) ?_
  refine Eq.trans (zd_iload_n zh105 rfl rfl) ?_
  refine Eq.trans (zd_iload zh105 rfl rfl) ?_
  refine Eq.trans (zd_ishr zh105 rfl) ?_
  refine Eq.trans (zd_iconst zh105 (v := (nI 1)) rfl rfl) ?_
  refine Eq.trans (zd_iand zh105 rfl) ?_
  exact zd_ifne zh105 (t := 61) (by decide) rfl
theorem b105_36 {scr : List Int32} {w : zAW} {a0 : Nat} {x1 : Int32} {x2 : Int32} {x3 : Int32} {x4 : Int32}  : zd scr 105 36 [some (.ref a0), some (.int x1), some (.int x2), some (.int x3), some (.int x4)] [] w = if x2 = (-6) then zd scr 105 56 [some (.ref a0), some (.int x1), some (.int x2), some (.int x3), some (.int x4)] [] w else zd scr 105 42 [some (.ref a0), some (.int x1), some (.int x2), some (.int x3), some (.int x4)] [] w := by
  refine Eq.trans (zd_iload_n zh105 rfl rfl) ?_
  refine Eq.trans (zd_bipush zh105 (v := (-6)) rfl rfl) ?_
  exact zd_icmpeq zh105 (t := 56) (by decide) rfl
theorem b105_61 {scr : List Int32} {w : zAW} {a0 : Nat} {x1 : Int32} {x2 : Int32} {x3 : Int32} {x4 : Int32}  : zd scr 105 61 [some (.ref a0), some (.int x1), some (.int x2), some (.int x3), some (.int x4)] [] w = zd scr 105 12 [some (.ref a0), some (.int x1), some (.int x2), some (.int (x3 - (nI 1))), some (.int x4)] [] w := by
  refine Eq.trans (zd_iload_n zh105 rfl rfl) ?_
  refine Eq.trans (zd_istore_n zh105 (ls' := [some (.ref a0), some (.int x1), some (.int x2), some (.int x3), some (.int x4)]) (Nat.le_of_ble_eq_true rfl) rfl rfl) ?_
  refine Eq.trans (zd_iinc zh105 (ls' := [some (.ref a0), some (.int x1), some (.int x2), some (.int (x3 - (nI 1))), some (.int x4)]) (v := (x3 - (nI 1))) rfl (zdecr _) rfl rfl) ?_
  refine Eq.trans (zd_goto zh105 (t := 12) (by decide) rfl) ?_
  exact rfl
theorem b105_56 {scr : List Int32} {w : zAW} {a0 : Nat} {x1 : Int32} {x2 : Int32} {x3 : Int32} {x4 : Int32}  : zd scr 105 56 [some (.ref a0), some (.int x1), some (.int x2), some (.int x3), some (.int x4)] [] w = zd scr 105 12 [some (.ref a0), some (.int x1), some (.int x4), some (.int (x3 - (nI 1))), some (.int x4)] [] w := by
  refine Eq.trans (zd_iload zh105 rfl rfl) ?_
  refine Eq.trans (zd_goto zh105 (t := 62) (by decide) rfl) ?_
  refine Eq.trans (zd_istore_n zh105 (ls' := [some (.ref a0), some (.int x1), some (.int x4), some (.int x3), some (.int x4)]) (Nat.le_of_ble_eq_true rfl) rfl rfl) ?_
  refine Eq.trans (zd_iinc zh105 (ls' := [some (.ref a0), some (.int x1), some (.int x4), some (.int (x3 - (nI 1))), some (.int x4)]) (v := (x3 - (nI 1))) rfl (zdecr _) rfl rfl) ?_
  refine Eq.trans (zd_goto zh105 (t := 12) (by decide) rfl) ?_
  exact rfl
set_option maxRecDepth 20000 in
theorem b105_42 {scr : List Int32} {w : zAW} {a0 : Nat} {x1 : Int32} {x2 : Int32} {x3 : Int32} {x4 : Int32} (h1 : zob w a0 6 = true) {f1 : Int32} {w1 : zAW} (h2 : zC scr 99 [.ref a0, .int x4] w = some (some (.int f1), w1)) (h3 : zob w1 a0 6 = true) {f2 : Int32} {w2 : zAW} (h4 : zC scr 99 [.ref a0, .int x2] w1 = some (some (.int f2), w2)) : zd scr 105 42 [some (.ref a0), some (.int x1), some (.int x2), some (.int x3), some (.int x4)] [] w = if f1 ≤ f2 then zd scr 105 56 [some (.ref a0), some (.int x1), some (.int x2), some (.int x3), some (.int x4)] [] w2 else zd scr 105 61 [some (.ref a0), some (.int x1), some (.int x2), some (.int x3), some (.int x4)] [] w2 := by
  refine Eq.trans (zd_aload_n zh105 rfl rfl) ?_
  refine Eq.trans (zd_iload zh105 rfl rfl) ?_
  refine Eq.trans (zd_invVi zh105 zh99 rfl rfl ⟨Nat.le_of_ble_eq_true rfl, Nat.le_of_ble_eq_true rfl, Nat.le_of_ble_eq_true rfl, Nat.le_of_ble_eq_true rfl⟩ rfl h1 h2 rfl) ?_
  refine Eq.trans (zd_aload_n zh105 rfl rfl) ?_
  refine Eq.trans (zd_iload_n zh105 rfl rfl) ?_
  refine Eq.trans (zd_invVi zh105 zh99 rfl rfl ⟨Nat.le_of_ble_eq_true rfl, Nat.le_of_ble_eq_true rfl, Nat.le_of_ble_eq_true rfl, Nat.le_of_ble_eq_true rfl⟩ rfl h3 h4 rfl) ?_
  exact zd_icmpgt zh105 (t := 61) (by decide) rfl
/-! yX6_rounds: 106, MarbleHeirsModel.rounds()I -/
theorem b106_0 {scr : List Int32} {w : zAW} {a0 : Nat} {g1 : Nat} (h1 : zgf w a0 6 0 = some (.ref g1)) {f2 : Int32} (h2 : zal w g1 (nI 0) = some f2) {g3 : Nat} (h3 : zgf w a0 6 0 = some (.ref g3)) {f4 : Int32} (h4 : zal w g3 (nI 6) = some f4) : zd scr 106 0 [some (.ref a0), none, none, none, none, none, none] [] w = if f4 < f2 then zd scr 106 22 [some (.ref a0), some (.int f2), none, none, none, none, none] [] w else zd scr 106 18 [some (.ref a0), some (.int f2), none, none, none, none, none] [] w := by
  refine Eq.trans (zd_aload_n zh106 rfl rfl) ?_
  refine Eq.trans (zd_getfield zh106 (ci := 6) (k := 0) rfl h1 rfl) ?_
  refine Eq.trans (zd_iconst zh106 (v := (nI 0)) rfl rfl) ?_
  refine Eq.trans (zd_iaload zh106 h2 rfl) ?_
  refine Eq.trans (zd_istore_n zh106 (ls' := [some (.ref a0), some (.int f2), none, none, none, none, none]) (Nat.le_of_ble_eq_true rfl) rfl rfl) ?_
  refine Eq.trans (zd_aload_n zh106 rfl rfl) ?_
  refine Eq.trans (zd_getfield zh106 (ci := 6) (k := 0) rfl h3 rfl) ?_
  refine Eq.trans (zd_bipush zh106 (v := (nI 6)) rfl rfl) ?_
  refine Eq.trans (zd_iaload zh106 h4 rfl) ?_
  refine Eq.trans (zd_iload_n zh106 rfl rfl) ?_
  exact zd_icmplt zh106 (t := 22) (by decide) rfl
theorem b106_77 {scr : List Int32} {w : zAW} {a0 : Nat} {x1 : Int32} {x2 : Int32} {x3 : Int32} {x4 : Int32} {x5 : Int32} {v6 : Option Value}  : zd scr 106 77 [some (.ref a0), some (.int x1), some (.int x2), some (.int x3), some (.int x4), some (.int x5), v6] [] w = if x5 < x2 then zd scr 106 83 [some (.ref a0), some (.int x1), some (.int x2), some (.int x3), some (.int x4), some (.int x5), v6] [] w else zd scr 106 129 [some (.ref a0), some (.int x1), some (.int x2), some (.int x3), some (.int x4), some (.int x5), v6] [] w := by
  refine Eq.trans (zd_iload zh106 rfl rfl) ?_
  refine Eq.trans (zd_iload_n zh106 rfl rfl) ?_
  exact zd_icmpge zh106 (t := 129) (by decide) rfl
theorem b106_145 {scr : List Int32} {w : zAW} {a0 : Nat} {x1 : Int32} {x2 : Int32} {x3 : Int32} {x4 : Int32} {x5 : Int32} {x6 : Int32}  : zd scr 106 145 [some (.ref a0), some (.int x1), some (.int x2), some (.int x3), some (.int x4), some (.int x5), some (.int x6)] [] w = if x6 < (x1 - (nI 1)) then zd scr 106 153 [some (.ref a0), some (.int x1), some (.int x2), some (.int x3), some (.int x4), some (.int x5), some (.int x6)] [] w else zd scr 106 181 [some (.ref a0), some (.int x1), some (.int x2), some (.int x3), some (.int x4), some (.int x5), some (.int x6)] [] w := by
  refine Eq.trans (zd_iload zh106 rfl rfl) ?_
  refine Eq.trans (zd_iload_n zh106 rfl rfl) ?_
  refine Eq.trans (zd_iconst zh106 (v := (nI 1)) rfl rfl) ?_
  refine Eq.trans (zd_isub zh106 rfl) ?_
  exact zd_icmpge zh106 (t := 181) (by decide) rfl
theorem b106_22 {scr : List Int32} {w : zAW} {a0 : Nat} {x1 : Int32} {g1 : Nat} (h1 : zgf w a0 6 0 = some (.ref g1)) {f2 : Int32} (h2 : zal w g1 (nI 1) = some f2) : zd scr 106 22 [some (.ref a0), some (.int x1), none, none, none, none, none] [] w = if f2 = (nI 2) then zd scr 106 32 [some (.ref a0), some (.int x1), none, none, none, none, none] [] w else zd scr 106 36 [some (.ref a0), some (.int x1), none, none, none, none, none] [] w := by
  refine Eq.trans (zd_aload_n zh106 rfl rfl) ?_
  refine Eq.trans (zd_getfield zh106 (ci := 6) (k := 0) rfl h1 rfl) ?_
  refine Eq.trans (zd_iconst zh106 (v := (nI 1)) rfl rfl) ?_
  refine Eq.trans (zd_iaload zh106 h2 rfl) ?_
  refine Eq.trans (zd_iconst zh106 (v := (nI 2)) rfl rfl) ?_
  exact zd_icmpne zh106 (t := 36) (by decide) rfl
theorem b106_18 {scr : List Int32} {w : zAW} {a0 : Nat} {x1 : Int32} {g1 : Nat} (h1 : zgf w a0 6 0 = some (.ref g1)) {f2 : Int32} (h2 : zal w g1 (nI 6) = some f2) : zd scr 106 18 [some (.ref a0), some (.int x1), none, none, none, none, none] [] w = if f2 < x1 then zd scr 106 55 [some (.ref a0), some (.int x1), some (.int x1), none, none, none, none] [] w else zd scr 106 69 [some (.ref a0), some (.int x1), some (.int x1), none, none, none, none] [] w := by
  refine Eq.trans (zd_iload_n zh106 rfl rfl) ?_
  refine Eq.trans (zd_goto zh106 (t := 43) (by decide) rfl) ?_
  refine Eq.trans (zd_istore_n zh106 (ls' := [some (.ref a0), some (.int x1), some (.int x1), none, none, none, none]) (Nat.le_of_ble_eq_true rfl) rfl rfl) ?_
  refine Eq.trans (zd_aload_n zh106 rfl rfl) ?_
  refine Eq.trans (zd_getfield zh106 (ci := 6) (k := 0) rfl h1 rfl) ?_
  refine Eq.trans (zd_bipush zh106 (v := (nI 6)) rfl rfl) ?_
  refine Eq.trans (zd_iaload zh106 h2 rfl) ?_
  refine Eq.trans (zd_iload_n zh106 rfl rfl) ?_
  exact zd_icmpge zh106 (t := 69) (by decide) rfl
theorem b106_83 {scr : List Int32} {w : zAW} {a0 : Nat} {x1 : Int32} {x2 : Int32} {x3 : Int32} {x4 : Int32} {x5 : Int32} {v6 : Option Value}  : zd scr 106 83 [some (.ref a0), some (.int x1), some (.int x2), some (.int x3), some (.int x4), some (.int x5), v6] [] w = if x3 = 0 then zd scr 106 96 [some (.ref a0), some (.int x1), some (.int x2), some (.int x3), some (.int x4), some (.int x5), v6] [] w else zd scr 106 87 [some (.ref a0), some (.int x1), some (.int x2), some (.int x3), some (.int x4), some (.int x5), v6] [] w := by
  refine Eq.trans (zd_iload_n zh106 rfl rfl) ?_
  exact zd_ifeq zh106 (t := 96) (by decide) rfl
theorem b106_129 {scr : List Int32} {w : zAW} {a0 : Nat} {x1 : Int32} {x2 : Int32} {x3 : Int32} {x4 : Int32} {x5 : Int32} {v6 : Option Value}  : zd scr 106 129 [some (.ref a0), some (.int x1), some (.int x2), some (.int x3), some (.int x4), some (.int x5), v6] [] w = if 0 < x2 then zd scr 106 133 [some (.ref a0), some (.int x1), some (.int x2), some (.int x3), some (.int x4), some (.int x5), v6] [] w else zd scr 106 204 [some (.ref a0), some (.int x1), some (.int x2), some (.int x3), some (.int x4), some (.int x5), v6] [] w := by
  refine Eq.trans (zd_iload_n zh106 rfl rfl) ?_
  exact zd_ifle zh106 (t := 204) (by decide) rfl
theorem b106_153 {scr : List Int32} {w : zAW} {a0 : Nat} {x1 : Int32} {x2 : Int32} {x3 : Int32} {x4 : Int32} {x5 : Int32} {x6 : Int32} {g1 : Nat} (h1 : zgf w a0 6 0 = some (.ref g1)) {g2 : Nat} (h2 : zgf w a0 6 0 = some (.ref g2)) {f3 : Int32} (h3 : zal w g2 (((nI 24) + x6) + (nI 1)) = some f3) {w1 : zAW} (h4 : zas w g1 ((nI 24) + x6) f3 = some w1) : zd scr 106 153 [some (.ref a0), some (.int x1), some (.int x2), some (.int x3), some (.int x4), some (.int x5), some (.int x6)] [] w = zd scr 106 145 [some (.ref a0), some (.int x1), some (.int x2), some (.int x3), some (.int x4), some (.int x5), some (.int (x6 + (nI 1)))] [] w1 := by
  refine Eq.trans (zd_aload_n zh106 rfl rfl) ?_
  refine Eq.trans (zd_getfield zh106 (ci := 6) (k := 0) rfl h1 rfl) ?_
  refine Eq.trans (zd_bipush zh106 (v := (nI 24)) rfl rfl) ?_
  refine Eq.trans (zd_iload zh106 rfl rfl) ?_
  refine Eq.trans (zd_iadd zh106 rfl) ?_
  refine Eq.trans (zd_aload_n zh106 rfl rfl) ?_
  refine Eq.trans (zd_getfield zh106 (ci := 6) (k := 0) rfl h2 rfl) ?_
  refine Eq.trans (zd_bipush zh106 (v := (nI 24)) rfl rfl) ?_
  refine Eq.trans (zd_iload zh106 rfl rfl) ?_
  refine Eq.trans (zd_iadd zh106 rfl) ?_
  refine Eq.trans (zd_iconst zh106 (v := (nI 1)) rfl rfl) ?_
  refine Eq.trans (zd_iadd zh106 rfl) ?_
  refine Eq.trans (zd_iaload zh106 h3 rfl) ?_
  refine Eq.trans (zd_iastore zh106 h4 rfl) ?_
  refine Eq.trans (zd_iinc zh106 (ls' := [some (.ref a0), some (.int x1), some (.int x2), some (.int x3), some (.int x4), some (.int x5), some (.int (x6 + (nI 1)))]) (v := (x6 + (nI 1))) rfl rfl rfl rfl) ?_
  refine Eq.trans (zd_goto zh106 (t := 145) (by decide) rfl) ?_
  exact rfl
theorem b106_181 {scr : List Int32} {w : zAW} {a0 : Nat} {x1 : Int32} {x2 : Int32} {x3 : Int32} {x4 : Int32} {x5 : Int32} {x6 : Int32} {g1 : Nat} (h1 : zgf w a0 6 0 = some (.ref g1)) {w1 : zAW} (h2 : zas w g1 (((nI 24) + x1) - (nI 1)) x5 = some w1) {g2 : Nat} (h3 : zgf w1 a0 6 0 = some (.ref g2)) {f3 : Int32} (h4 : zal w1 g2 (nI 3) = some f3) {w2 : zAW} (h5 : zas w1 g2 (nI 3) (f3 + (nI 1)) = some w2) : zd scr 106 181 [some (.ref a0), some (.int x1), some (.int x2), some (.int x3), some (.int x4), some (.int x5), some (.int x6)] [] w = some (some (.int x2), w2) := by
  refine Eq.trans (zd_aload_n zh106 rfl rfl) ?_
  refine Eq.trans (zd_getfield zh106 (ci := 6) (k := 0) rfl h1 rfl) ?_
  refine Eq.trans (zd_bipush zh106 (v := (nI 24)) rfl rfl) ?_
  refine Eq.trans (zd_iload_n zh106 rfl rfl) ?_
  refine Eq.trans (zd_iadd zh106 rfl) ?_
  refine Eq.trans (zd_iconst zh106 (v := (nI 1)) rfl rfl) ?_
  refine Eq.trans (zd_isub zh106 rfl) ?_
  refine Eq.trans (zd_iload zh106 rfl rfl) ?_
  refine Eq.trans (zd_iastore zh106 h2 rfl) ?_
  refine Eq.trans (zd_aload_n zh106 rfl rfl) ?_
  refine Eq.trans (zd_getfield zh106 (ci := 6) (k := 0) rfl h3 rfl) ?_
  refine Eq.trans (zd_iconst zh106 (v := (nI 3)) rfl rfl) ?_
  refine Eq.trans (zd_dup2 zh106 rfl) ?_
  refine Eq.trans (zd_iaload zh106 h4 rfl) ?_
  refine Eq.trans (zd_iconst zh106 (v := (nI 1)) rfl rfl) ?_
  refine Eq.trans (zd_iadd zh106 rfl) ?_
  refine Eq.trans (zd_iastore zh106 h5 rfl) ?_
  refine Eq.trans (zd_iload_n zh106 rfl rfl) ?_
  exact zd_iret zh106 rfl rfl
theorem b106_32 {scr : List Int32} {w : zAW} {a0 : Nat} {x1 : Int32} {g1 : Nat} (h1 : zgf w a0 6 0 = some (.ref g1)) {f2 : Int32} (h2 : zal w g1 (nI 6) = some f2) : zd scr 106 32 [some (.ref a0), some (.int x1), none, none, none, none, none] [] w = if f2 < x1 then zd scr 106 55 [some (.ref a0), some (.int x1), some (.int (nI 0)), none, none, none, none] [] w else zd scr 106 69 [some (.ref a0), some (.int x1), some (.int (nI 0)), none, none, none, none] [] w := by
  refine Eq.trans (zd_iconst zh106 (v := (nI 0)) rfl rfl) ?_
  refine Eq.trans (zd_goto zh106 (t := 43) (by decide) rfl) ?_
  refine Eq.trans (zd_istore_n zh106 (ls' := [some (.ref a0), some (.int x1), some (.int (nI 0)), none, none, none, none]) (Nat.le_of_ble_eq_true rfl) rfl rfl) ?_
  refine Eq.trans (zd_aload_n zh106 rfl rfl) ?_
  refine Eq.trans (zd_getfield zh106 (ci := 6) (k := 0) rfl h1 rfl) ?_
  refine Eq.trans (zd_bipush zh106 (v := (nI 6)) rfl rfl) ?_
  refine Eq.trans (zd_iaload zh106 h2 rfl) ?_
  refine Eq.trans (zd_iload_n zh106 rfl rfl) ?_
  exact zd_icmpge zh106 (t := 69) (by decide) rfl
theorem b106_36 {scr : List Int32} {w : zAW} {a0 : Nat} {x1 : Int32} {g1 : Nat} (h1 : zgf w a0 6 0 = some (.ref g1)) {f2 : Int32} (h2 : zal w g1 (nI 6) = some f2) {g3 : Nat} (h3 : zgf w a0 6 0 = some (.ref g3)) {f4 : Int32} (h4 : zal w g3 (nI 6) = some f4) : zd scr 106 36 [some (.ref a0), some (.int x1), none, none, none, none, none] [] w = if f4 < x1 then zd scr 106 55 [some (.ref a0), some (.int x1), some (.int f2), none, none, none, none] [] w else zd scr 106 69 [some (.ref a0), some (.int x1), some (.int f2), none, none, none, none] [] w := by
  refine Eq.trans (zd_aload_n zh106 rfl rfl) ?_
  refine Eq.trans (zd_getfield zh106 (ci := 6) (k := 0) rfl h1 rfl) ?_
  refine Eq.trans (zd_bipush zh106 (v := (nI 6)) rfl rfl) ?_
  refine Eq.trans (zd_iaload zh106 h2 rfl) ?_
  refine Eq.trans (zd_istore_n zh106 (ls' := [some (.ref a0), some (.int x1), some (.int f2), none, none, none, none]) (Nat.le_of_ble_eq_true rfl) rfl rfl) ?_
  refine Eq.trans (zd_aload_n zh106 rfl rfl) ?_
  refine Eq.trans (zd_getfield zh106 (ci := 6) (k := 0) rfl h3 rfl) ?_
  refine Eq.trans (zd_bipush zh106 (v := (nI 6)) rfl rfl) ?_
  refine Eq.trans (zd_iaload zh106 h4 rfl) ?_
  refine Eq.trans (zd_iload_n zh106 rfl rfl) ?_
  exact zd_icmpge zh106 (t := 69) (by decide) rfl
theorem b106_55 {scr : List Int32} {w : zAW} {a0 : Nat} {x1 : Int32} {x2 : Int32} {g1 : Nat} (h1 : zgf w a0 6 0 = some (.ref g1)) {f2 : Int32} (h2 : zal w g1 (nI 1) = some f2) : zd scr 106 55 [some (.ref a0), some (.int x1), some (.int x2), none, none, none, none] [] w = if f2 = (nI 1) then zd scr 106 65 [some (.ref a0), some (.int x1), some (.int x2), none, none, none, none] [] w else zd scr 106 69 [some (.ref a0), some (.int x1), some (.int x2), none, none, none, none] [] w := by
  refine Eq.trans (zd_aload_n zh106 rfl rfl) ?_
  refine Eq.trans (zd_getfield zh106 (ci := 6) (k := 0) rfl h1 rfl) ?_
  refine Eq.trans (zd_iconst zh106 (v := (nI 1)) rfl rfl) ?_
  refine Eq.trans (zd_iaload zh106 h2 rfl) ?_
  refine Eq.trans (zd_iconst zh106 (v := (nI 1)) rfl rfl) ?_
  exact zd_icmpne zh106 (t := 69) (by decide) rfl
theorem b106_69 {scr : List Int32} {w : zAW} {a0 : Nat} {x1 : Int32} {x2 : Int32}  : zd scr 106 69 [some (.ref a0), some (.int x1), some (.int x2), none, none, none, none] [] w = zd scr 106 77 [some (.ref a0), some (.int x1), some (.int x2), some (.int (nI 0)), some (.int (nI 0)), some (.int (nI 0)), none] [] w := by
  refine Eq.trans (zd_iconst zh106 (v := (nI 0)) rfl rfl) ?_
  refine Eq.trans (zd_istore_n zh106 (ls' := [some (.ref a0), some (.int x1), some (.int x2), some (.int (nI 0)), none, none, none]) (Nat.le_of_ble_eq_true rfl) rfl rfl) ?_
  refine Eq.trans (zd_iconst zh106 (v := (nI 0)) rfl rfl) ?_
  refine Eq.trans (zd_istore zh106 (ls' := [some (.ref a0), some (.int x1), some (.int x2), some (.int (nI 0)), some (.int (nI 0)), none, none]) (Nat.le_of_ble_eq_true rfl) rfl rfl) ?_
  refine Eq.trans (zd_iconst zh106 (v := (nI 0)) rfl rfl) ?_
  refine Eq.trans (zd_istore zh106 (ls' := [some (.ref a0), some (.int x1), some (.int x2), some (.int (nI 0)), some (.int (nI 0)), some (.int (nI 0)), none]) (Nat.le_of_ble_eq_true rfl) rfl rfl) ?_
  exact rfl
set_option maxRecDepth 20000 in
theorem b106_96 {scr : List Int32} {w : zAW} {a0 : Nat} {x1 : Int32} {x2 : Int32} {x3 : Int32} {x4 : Int32} {x5 : Int32} {v6 : Option Value} {g1 : Nat} (h1 : zgf w a0 6 0 = some (.ref g1)) {f2 : Int32} (h2 : zal w g1 ((nI 24) + x5) = some f2) (h3 : zob w a0 6 = true) {w1 : zAW} (h4 : zC scr 104 [.ref a0, .int f2] w = some (none, w1)) : zd scr 106 96 [some (.ref a0), some (.int x1), some (.int x2), some (.int x3), some (.int x4), some (.int x5), v6] [] w = zd scr 106 77 [some (.ref a0), some (.int x1), some (.int x2), some (.int x3), some (.int (x4 ||| ((nI 1) <<< (f2 &&& 31)))), some (.int (x5 + (nI 1))), some (.int f2)] [] w1 := by
  refine Eq.trans (zd_aload_n zh106 rfl rfl) ?_
  refine Eq.trans (zd_getfield zh106 (ci := 6) (k := 0) rfl h1 rfl) ?_
  refine Eq.trans (zd_bipush zh106 (v := (nI 24)) rfl rfl) ?_
  refine Eq.trans (zd_iload zh106 rfl rfl) ?_
  refine Eq.trans (zd_iadd zh106 rfl) ?_
  refine Eq.trans (zd_iaload zh106 h2 rfl) ?_
  refine Eq.trans (zd_istore zh106 (ls' := [some (.ref a0), some (.int x1), some (.int x2), some (.int x3), some (.int x4), some (.int x5), some (.int f2)]) (Nat.le_of_ble_eq_true rfl) rfl rfl) ?_
  refine Eq.trans (zd_iload zh106 rfl rfl) ?_
  refine Eq.trans (zd_iconst zh106 (v := (nI 1)) rfl rfl) ?_
  refine Eq.trans (zd_iload zh106 rfl rfl) ?_
  refine Eq.trans (zd_ishl zh106 rfl) ?_
  refine Eq.trans (zd_ior zh106 rfl) ?_
  refine Eq.trans (zd_istore zh106 (ls' := [some (.ref a0), some (.int x1), some (.int x2), some (.int x3), some (.int (x4 ||| ((nI 1) <<< (f2 &&& 31)))), some (.int x5), some (.int f2)]) (Nat.le_of_ble_eq_true rfl) rfl rfl) ?_
  refine Eq.trans (zd_aload_n zh106 rfl rfl) ?_
  refine Eq.trans (zd_iload zh106 rfl rfl) ?_
  refine Eq.trans (zd_invVv zh106 zh104 rfl rfl ⟨Nat.le_of_ble_eq_true rfl, Nat.le_of_ble_eq_true rfl, Nat.le_of_ble_eq_true rfl, Nat.le_of_ble_eq_true rfl⟩ rfl h3 h4 rfl) ?_
  refine Eq.trans (zd_iinc zh106 (ls' := [some (.ref a0), some (.int x1), some (.int x2), some (.int x3), some (.int (x4 ||| ((nI 1) <<< (f2 &&& 31)))), some (.int (x5 + (nI 1))), some (.int f2)]) (v := (x5 + (nI 1))) rfl rfl rfl rfl) ?_
  refine Eq.trans (zd_goto zh106 (t := 77) (by decide) rfl) ?_
  exact rfl
set_option maxRecDepth 20000 in
theorem b106_87 {scr : List Int32} {w : zAW} {a0 : Nat} {x1 : Int32} {x2 : Int32} {x3 : Int32} {x4 : Int32} {x5 : Int32} {v6 : Option Value} (h1 : zob w a0 6 = true) {f1 : Int32} {w1 : zAW} (h2 : zC scr 105 [.ref a0, .int x4] w = some (some (.int f1), w1)) (h3 : zob w1 a0 6 = true) {w2 : zAW} (h4 : zC scr 104 [.ref a0, .int f1] w1 = some (none, w2)) : zd scr 106 87 [some (.ref a0), some (.int x1), some (.int x2), some (.int x3), some (.int x4), some (.int x5), v6] [] w = zd scr 106 77 [some (.ref a0), some (.int x1), some (.int x2), some (.int x3), some (.int (x4 ||| ((nI 1) <<< (f1 &&& 31)))), some (.int (x5 + (nI 1))), some (.int f1)] [] w2 := by
  refine Eq.trans (zd_aload_n zh106 rfl rfl) ?_
  refine Eq.trans (zd_iload zh106 rfl rfl) ?_
  refine Eq.trans (zd_invVi zh106 zh105 rfl rfl ⟨Nat.le_of_ble_eq_true rfl, Nat.le_of_ble_eq_true rfl, Nat.le_of_ble_eq_true rfl, Nat.le_of_ble_eq_true rfl⟩ rfl h1 h2 rfl) ?_
  refine Eq.trans (zd_goto zh106 (t := 106) (by decide) rfl) ?_
  refine Eq.trans (zd_istore zh106 (ls' := [some (.ref a0), some (.int x1), some (.int x2), some (.int x3), some (.int x4), some (.int x5), some (.int f1)]) (Nat.le_of_ble_eq_true rfl) rfl rfl) ?_
  refine Eq.trans (zd_iload zh106 rfl rfl) ?_
  refine Eq.trans (zd_iconst zh106 (v := (nI 1)) rfl rfl) ?_
  refine Eq.trans (zd_iload zh106 rfl rfl) ?_
  refine Eq.trans (zd_ishl zh106 rfl) ?_
  refine Eq.trans (zd_ior zh106 rfl) ?_
  refine Eq.trans (zd_istore zh106 (ls' := [some (.ref a0), some (.int x1), some (.int x2), some (.int x3), some (.int (x4 ||| ((nI 1) <<< (f1 &&& 31)))), some (.int x5), some (.int f1)]) (Nat.le_of_ble_eq_true rfl) rfl rfl) ?_
  refine Eq.trans (zd_aload_n zh106 rfl rfl) ?_
  refine Eq.trans (zd_iload zh106 rfl rfl) ?_
  refine Eq.trans (zd_invVv zh106 zh104 rfl rfl ⟨Nat.le_of_ble_eq_true rfl, Nat.le_of_ble_eq_true rfl, Nat.le_of_ble_eq_true rfl, Nat.le_of_ble_eq_true rfl⟩ rfl h3 h4 rfl) ?_
  refine Eq.trans (zd_iinc zh106 (ls' := [some (.ref a0), some (.int x1), some (.int x2), some (.int x3), some (.int (x4 ||| ((nI 1) <<< (f1 &&& 31)))), some (.int (x5 + (nI 1))), some (.int f1)]) (v := (x5 + (nI 1))) rfl rfl rfl rfl) ?_
  refine Eq.trans (zd_goto zh106 (t := 77) (by decide) rfl) ?_
  exact rfl
theorem b106_133 {scr : List Int32} {w : zAW} {a0 : Nat} {x1 : Int32} {x2 : Int32} {x3 : Int32} {x4 : Int32} {x5 : Int32} {v6 : Option Value} {g1 : Nat} (h1 : zgf w a0 6 0 = some (.ref g1)) {f2 : Int32} (h2 : zal w g1 (nI 24) = some f2) : zd scr 106 133 [some (.ref a0), some (.int x1), some (.int x2), some (.int x3), some (.int x4), some (.int x5), v6] [] w = zd scr 106 145 [some (.ref a0), some (.int x1), some (.int x2), some (.int x3), some (.int x4), some (.int f2), some (.int (nI 0))] [] w := by
  refine Eq.trans (zd_aload_n zh106 rfl rfl) ?_
  refine Eq.trans (zd_getfield zh106 (ci := 6) (k := 0) rfl h1 rfl) ?_
  refine Eq.trans (zd_bipush zh106 (v := (nI 24)) rfl rfl) ?_
  refine Eq.trans (zd_iaload zh106 h2 rfl) ?_
  refine Eq.trans (zd_istore zh106 (ls' := [some (.ref a0), some (.int x1), some (.int x2), some (.int x3), some (.int x4), some (.int f2), v6]) (Nat.le_of_ble_eq_true rfl) rfl rfl) ?_
  refine Eq.trans (zd_iconst zh106 (v := (nI 0)) rfl rfl) ?_
  refine Eq.trans (zd_istore zh106 (ls' := [some (.ref a0), some (.int x1), some (.int x2), some (.int x3), some (.int x4), some (.int f2), some (.int (nI 0))]) (Nat.le_of_ble_eq_true rfl) rfl rfl) ?_
  exact rfl
theorem b106_204 {scr : List Int32} {w : zAW} {a0 : Nat} {x1 : Int32} {x2 : Int32} {x3 : Int32} {x4 : Int32} {x5 : Int32} {v6 : Option Value}  : zd scr 106 204 [some (.ref a0), some (.int x1), some (.int x2), some (.int x3), some (.int x4), some (.int x5), v6] [] w = some (some (.int x2), w) := by
  refine Eq.trans (zd_iload_n zh106 rfl rfl) ?_
  exact zd_iret zh106 rfl rfl
theorem b106_65 {scr : List Int32} {w : zAW} {a0 : Nat} {x1 : Int32} {x2 : Int32}  : zd scr 106 65 [some (.ref a0), some (.int x1), some (.int x2), none, none, none, none] [] w = zd scr 106 77 [some (.ref a0), some (.int x1), some (.int x2), some (.int (nI 1)), some (.int (nI 0)), some (.int (nI 0)), none] [] w := by
  refine Eq.trans (zd_iconst zh106 (v := (nI 1)) rfl rfl) ?_
  refine Eq.trans (zd_goto zh106 (t := 70) (by decide) rfl) ?_
  refine Eq.trans (zd_istore_n zh106 (ls' := [some (.ref a0), some (.int x1), some (.int x2), some (.int (nI 1)), none, none, none]) (Nat.le_of_ble_eq_true rfl) rfl rfl) ?_
  refine Eq.trans (zd_iconst zh106 (v := (nI 0)) rfl rfl) ?_
  refine Eq.trans (zd_istore zh106 (ls' := [some (.ref a0), some (.int x1), some (.int x2), some (.int (nI 1)), some (.int (nI 0)), none, none]) (Nat.le_of_ble_eq_true rfl) rfl rfl) ?_
  refine Eq.trans (zd_iconst zh106 (v := (nI 0)) rfl rfl) ?_
  refine Eq.trans (zd_istore zh106 (ls' := [some (.ref a0), some (.int x1), some (.int x2), some (.int (nI 1)), some (.int (nI 0)), some (.int (nI 0)), none]) (Nat.le_of_ble_eq_true rfl) rfl rfl) ?_
  exact rfl
/-! yX6_divides: 107, MarbleHeirsModel.divides()I -/
theorem b107_0 {scr : List Int32} {w : zAW} {a0 : Nat}  : zd scr 107 0 [some (.ref a0), none] [] w = zd scr 107 2 [some (.ref a0), some (.int (nI 0))] [] w := by
  refine Eq.trans (zd_iconst zh107 (v := (nI 0)) rfl rfl) ?_
  refine Eq.trans (zd_istore_n zh107 (ls' := [some (.ref a0), some (.int (nI 0))]) (Nat.le_of_ble_eq_true rfl) rfl rfl) ?_
  exact rfl
set_option maxRecDepth 20000 in
theorem b107_2 {scr : List Int32} {w : zAW} {a0 : Nat} {x1 : Int32} (h1 : zob w a0 6 = true) {f1 : Int32} {w1 : zAW} (h2 : zC scr 106 [.ref a0] w = some (some (.int f1), w1)) : zd scr 107 2 [some (.ref a0), some (.int x1)] [] w = if 0 < f1 then zd scr 107 9 [some (.ref a0), some (.int x1)] [] w1 else zd scr 107 15 [some (.ref a0), some (.int x1)] [] w1 := by
  refine Eq.trans (zd_aload_n zh107 rfl rfl) ?_
  refine Eq.trans (zd_invVi zh107 zh106 rfl rfl ⟨Nat.le_of_ble_eq_true rfl, Nat.le_of_ble_eq_true rfl, Nat.le_of_ble_eq_true rfl, Nat.le_of_ble_eq_true rfl⟩ rfl h1 h2 rfl) ?_
  exact zd_ifle zh107 (t := 15) (by decide) rfl
theorem b107_9 {scr : List Int32} {w : zAW} {a0 : Nat} {x1 : Int32}  : zd scr 107 9 [some (.ref a0), some (.int x1)] [] w = zd scr 107 2 [some (.ref a0), some (.int (x1 + (nI 1)))] [] w := by
  refine Eq.trans (zd_iinc zh107 (ls' := [some (.ref a0), some (.int (x1 + (nI 1)))]) (v := (x1 + (nI 1))) rfl rfl rfl rfl) ?_
  refine Eq.trans (zd_goto zh107 (t := 2) (by decide) rfl) ?_
  exact rfl
theorem b107_15 {scr : List Int32} {w : zAW} {a0 : Nat} {x1 : Int32}  : zd scr 107 15 [some (.ref a0), some (.int x1)] [] w = some (some (.int x1), w) := by
  refine Eq.trans (zd_iload_n zh107 rfl rfl) ?_
  exact zd_iret zh107 rfl rfl
/-! yX6_vetoer: 108, MarbleHeirsModel.vetoer(II)I -/
set_option maxRecDepth 20000 in
theorem b108_0 {scr : List Int32} {w : zAW} {a0 : Nat} {x1 : Int32} {x2 : Int32} (h1 : zob w a0 6 = true) {f1 : Int32} {w1 : zAW} (h2 : zC scr 95 [.ref a0, .int x1] w = some (some (.int f1), w1)) (h3 : zob w1 a0 6 = true) {f2 : Int32} {w2 : zAW} (h4 : zC scr 91 [.ref a0, .int f1, .int (nI 0)] w1 = some (some (.int f2), w2)) (h5 : zob w2 a0 6 = true) {f3 : Int32} {w3 : zAW} (h6 : zC scr 95 [.ref a0, .int x2] w2 = some (some (.int f3), w3)) (h7 : zob w3 a0 6 = true) {f4 : Int32} {w4 : zAW} (h8 : zC scr 91 [.ref a0, .int f3, .int (nI 0)] w3 = some (some (.int f4), w4)) (h9 : zob w4 a0 6 = true) {f5 : Int32} {w5 : zAW} (h10 : zC scr 97 [.ref a0, .int x1] w4 = some (some (.int f5), w5)) (h11 : zob w5 a0 6 = true) {f6 : Int32} {w6 : zAW} (h12 : zC scr 97 [.ref a0, .int x2] w5 = some (some (.int f6), w6)) {g7 : Nat} (h13 : zgf w6 a0 6 0 = some (.ref g7)) {f8 : Int32} (h14 : zal w6 g7 (nI 2) = some f8) : zd scr 108 0 [some (.ref a0), some (.int x1), some (.int x2), none, none, none] [] w = if f8 < (f5 - f6) then zd scr 108 47 [some (.ref a0), some (.int x1), some (.int x2), some (.int f2), some (.int f4), some (.int (f5 - f6))] [] w6 else zd scr 108 61 [some (.ref a0), some (.int x1), some (.int x2), some (.int f2), some (.int f4), some (.int (f5 - f6))] [] w6 := by
  refine Eq.trans (zd_aload_n zh108 rfl rfl) ?_
  refine Eq.trans (zd_aload_n zh108 rfl rfl) ?_
  refine Eq.trans (zd_iload_n zh108 rfl rfl) ?_
  refine Eq.trans (zd_invVi zh108 zh95 rfl rfl ⟨Nat.le_of_ble_eq_true rfl, Nat.le_of_ble_eq_true rfl, Nat.le_of_ble_eq_true rfl, Nat.le_of_ble_eq_true rfl⟩ rfl h1 h2 rfl) ?_
  refine Eq.trans (zd_iconst zh108 (v := (nI 0)) rfl rfl) ?_
  refine Eq.trans (zd_invVi zh108 zh91 rfl rfl ⟨Nat.le_of_ble_eq_true rfl, Nat.le_of_ble_eq_true rfl, Nat.le_of_ble_eq_true rfl, Nat.le_of_ble_eq_true rfl⟩ rfl h3 h4 rfl) ?_
  refine Eq.trans (zd_istore_n zh108 (ls' := [some (.ref a0), some (.int x1), some (.int x2), some (.int f2), none, none]) (Nat.le_of_ble_eq_true rfl) rfl rfl) ?_
  refine Eq.trans (zd_aload_n zh108 rfl rfl) ?_
  refine Eq.trans (zd_aload_n zh108 rfl rfl) ?_
  refine Eq.trans (zd_iload_n zh108 rfl rfl) ?_
  refine Eq.trans (zd_invVi zh108 zh95 rfl rfl ⟨Nat.le_of_ble_eq_true rfl, Nat.le_of_ble_eq_true rfl, Nat.le_of_ble_eq_true rfl, Nat.le_of_ble_eq_true rfl⟩ rfl h5 h6 rfl) ?_
  refine Eq.trans (zd_iconst zh108 (v := (nI 0)) rfl rfl) ?_
  refine Eq.trans (zd_invVi zh108 zh91 rfl rfl ⟨Nat.le_of_ble_eq_true rfl, Nat.le_of_ble_eq_true rfl, Nat.le_of_ble_eq_true rfl, Nat.le_of_ble_eq_true rfl⟩ rfl h7 h8 rfl) ?_
  refine Eq.trans (zd_istore zh108 (ls' := [some (.ref a0), some (.int x1), some (.int x2), some (.int f2), some (.int f4), none]) (Nat.le_of_ble_eq_true rfl) rfl rfl) ?_
  refine Eq.trans (zd_aload_n zh108 rfl rfl) ?_
  refine Eq.trans (zd_iload_n zh108 rfl rfl) ?_
  refine Eq.trans (zd_invVi zh108 zh97 rfl rfl ⟨Nat.le_of_ble_eq_true rfl, Nat.le_of_ble_eq_true rfl, Nat.le_of_ble_eq_true rfl, Nat.le_of_ble_eq_true rfl⟩ rfl h9 h10 rfl) ?_
  refine Eq.trans (zd_aload_n zh108 rfl rfl) ?_
  refine Eq.trans (zd_iload_n zh108 rfl rfl) ?_
  refine Eq.trans (zd_invVi zh108 zh97 rfl rfl ⟨Nat.le_of_ble_eq_true rfl, Nat.le_of_ble_eq_true rfl, Nat.le_of_ble_eq_true rfl, Nat.le_of_ble_eq_true rfl⟩ rfl h11 h12 rfl) ?_
  refine Eq.trans (zd_isub zh108 rfl) ?_
  refine Eq.trans (zd_istore zh108 (ls' := [some (.ref a0), some (.int x1), some (.int x2), some (.int f2), some (.int f4), some (.int (f5 - f6))]) (Nat.le_of_ble_eq_true rfl) rfl rfl) ?_
  refine Eq.trans (zd_iload zh108 rfl rfl) ?_
  refine Eq.trans (zd_aload_n zh108 rfl rfl) ?_
  refine Eq.trans (zd_getfield zh108 (ci := 6) (k := 0) rfl h13 rfl) ?_
  refine Eq.trans (zd_iconst zh108 (v := (nI 2)) rfl rfl) ?_
  refine Eq.trans (zd_iaload zh108 h14 rfl) ?_
  exact zd_icmple zh108 (t := 61) (by decide) rfl
theorem b108_47 {scr : List Int32} {w : zAW} {a0 : Nat} {x1 : Int32} {x2 : Int32} {x3 : Int32} {x4 : Int32} {x5 : Int32} {g1 : Nat} (h1 : zgf w a0 6 0 = some (.ref g1)) {f2 : Int32} (h2 : zal w g1 ((nI 8) + x3) = some f2) : zd scr 108 47 [some (.ref a0), some (.int x1), some (.int x2), some (.int x3), some (.int x4), some (.int x5)] [] w = if 0 < f2 then zd scr 108 59 [some (.ref a0), some (.int x1), some (.int x2), some (.int x3), some (.int x4), some (.int x5)] [] w else zd scr 108 61 [some (.ref a0), some (.int x1), some (.int x2), some (.int x3), some (.int x4), some (.int x5)] [] w := by
  refine Eq.trans (zd_aload_n zh108 rfl rfl) ?_
  refine Eq.trans (zd_getfield zh108 (ci := 6) (k := 0) rfl h1 rfl) ?_
  refine Eq.trans (zd_bipush zh108 (v := (nI 8)) rfl rfl) ?_
  refine Eq.trans (zd_iload_n zh108 rfl rfl) ?_
  refine Eq.trans (zd_iadd zh108 rfl) ?_
  refine Eq.trans (zd_iaload zh108 h2 rfl) ?_
  exact zd_ifle zh108 (t := 61) (by decide) rfl
theorem b108_61 {scr : List Int32} {w : zAW} {a0 : Nat} {x1 : Int32} {x2 : Int32} {x3 : Int32} {x4 : Int32} {x5 : Int32} {g1 : Nat} (h1 : zgf w a0 6 0 = some (.ref g1)) {f2 : Int32} (h2 : zal w g1 (nI 2) = some f2) : zd scr 108 61 [some (.ref a0), some (.int x1), some (.int x2), some (.int x3), some (.int x4), some (.int x5)] [] w = if f2 < (-x5) then zd scr 108 73 [some (.ref a0), some (.int x1), some (.int x2), some (.int x3), some (.int x4), some (.int x5)] [] w else zd scr 108 91 [some (.ref a0), some (.int x1), some (.int x2), some (.int x3), some (.int x4), some (.int x5)] [] w := by
  refine Eq.trans (zd_iload zh108 rfl rfl) ?_
  refine Eq.trans (zd_ineg zh108 rfl) ?_
  refine Eq.trans (zd_aload_n zh108 rfl rfl) ?_
  refine Eq.trans (zd_getfield zh108 (ci := 6) (k := 0) rfl h1 rfl) ?_
  refine Eq.trans (zd_iconst zh108 (v := (nI 2)) rfl rfl) ?_
  refine Eq.trans (zd_iaload zh108 h2 rfl) ?_
  exact zd_icmple zh108 (t := 91) (by decide) rfl
theorem b108_59 {scr : List Int32} {w : zAW} {a0 : Nat} {x1 : Int32} {x2 : Int32} {x3 : Int32} {x4 : Int32} {x5 : Int32}  : zd scr 108 59 [some (.ref a0), some (.int x1), some (.int x2), some (.int x3), some (.int x4), some (.int x5)] [] w = some (some (.int x3), w) := by
  refine Eq.trans (zd_iload_n zh108 rfl rfl) ?_
  exact zd_iret zh108 rfl rfl
theorem b108_73 {scr : List Int32} {w : zAW} {a0 : Nat} {x1 : Int32} {x2 : Int32} {x3 : Int32} {x4 : Int32} {x5 : Int32} {g1 : Nat} (h1 : zgf w a0 6 0 = some (.ref g1)) {f2 : Int32} (h2 : zal w g1 ((nI 8) + x4) = some f2) : zd scr 108 73 [some (.ref a0), some (.int x1), some (.int x2), some (.int x3), some (.int x4), some (.int x5)] [] w = if 0 < f2 then zd scr 108 86 [some (.ref a0), some (.int x1), some (.int x2), some (.int x3), some (.int x4), some (.int x5)] [] w else zd scr 108 91 [some (.ref a0), some (.int x1), some (.int x2), some (.int x3), some (.int x4), some (.int x5)] [] w := by
  refine Eq.trans (zd_aload_n zh108 rfl rfl) ?_
  refine Eq.trans (zd_getfield zh108 (ci := 6) (k := 0) rfl h1 rfl) ?_
  refine Eq.trans (zd_bipush zh108 (v := (nI 8)) rfl rfl) ?_
  refine Eq.trans (zd_iload zh108 rfl rfl) ?_
  refine Eq.trans (zd_iadd zh108 rfl) ?_
  refine Eq.trans (zd_iaload zh108 h2 rfl) ?_
  exact zd_ifle zh108 (t := 91) (by decide) rfl
theorem b108_91 {scr : List Int32} {w : zAW} {a0 : Nat} {x1 : Int32} {x2 : Int32} {x3 : Int32} {x4 : Int32} {x5 : Int32}  : zd scr 108 91 [some (.ref a0), some (.int x1), some (.int x2), some (.int x3), some (.int x4), some (.int x5)] [] w = some (some (.int (-6)), w) := by
  refine Eq.trans (zd_bipush zh108 (v := (-6)) rfl rfl) ?_
  exact zd_iret zh108 rfl rfl
theorem b108_86 {scr : List Int32} {w : zAW} {a0 : Nat} {x1 : Int32} {x2 : Int32} {x3 : Int32} {x4 : Int32} {x5 : Int32}  : zd scr 108 86 [some (.ref a0), some (.int x1), some (.int x2), some (.int x3), some (.int x4), some (.int x5)] [] w = some (some (.int x4), w) := by
  refine Eq.trans (zd_iload zh108 rfl rfl) ?_
  refine Eq.trans (zd_goto zh108 (t := 93) (by decide) rfl) ?_
  exact zd_iret zh108 rfl rfl
