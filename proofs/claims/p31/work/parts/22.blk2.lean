/-! yX5_swap: 62, MarbleHeirs.swap(IIII)I -/
set_option maxRecDepth 20000 in
theorem b62_0 {scr : List Int32} {w : zAW} {a0 : Nat} {x1 : Int32} {x2 : Int32} {x3 : Int32} {x4 : Int32} (h1 : zob w a0 5 = true) {f1 : Int32} {w1 : zAW} (h2 : zC scr 84 [.ref a0, .int x1, .int x2, .int x3, .int x4] w = some (some (.int f1), w1)) : zd scr 62 0 [some (.ref a0), some (.int x1), some (.int x2), some (.int x3), some (.int x4), none] [] w = if f1 = 0 then zd scr 62 19 [some (.ref a0), some (.int x1), some (.int x2), some (.int x3), some (.int x4), some (.int f1)] [] w1 else zd scr 62 16 [some (.ref a0), some (.int x1), some (.int x2), some (.int x3), some (.int x4), some (.int f1)] [] w1 := by
  refine Eq.trans (zd_aload_n zh62 rfl rfl) ?_
  refine Eq.trans (zd_iload_n zh62 rfl rfl) ?_
  refine Eq.trans (zd_iload_n zh62 rfl rfl) ?_
  refine Eq.trans (zd_iload_n zh62 rfl rfl) ?_
  refine Eq.trans (zd_iload zh62 rfl rfl) ?_
  refine Eq.trans (zd_invVi zh62 zh84 rfl rfl ⟨Nat.le_of_ble_eq_true rfl, Nat.le_of_ble_eq_true rfl, Nat.le_of_ble_eq_true rfl, Nat.le_of_ble_eq_true rfl⟩ rfl h1 h2 rfl) ?_
  refine Eq.trans (zd_istore zh62 (ls' := [some (.ref a0), some (.int x1), some (.int x2), some (.int x3), some (.int x4), some (.int f1)]) (Nat.le_of_ble_eq_true rfl) rfl rfl) ?_
  refine Eq.trans (zd_iload zh62 rfl rfl) ?_
  exact zd_ifeq zh62 (t := 19) (by decide) rfl
set_option maxRecDepth 20000 in
theorem b62_19 {scr : List Int32} {w : zAW} {a0 : Nat} {x1 : Int32} {x2 : Int32} {x3 : Int32} {x4 : Int32} {x5 : Int32} {g1 : Nat} (h1 : zgf w a0 5 4 = some (.ref g1)) {g2 : Nat} (h2 : zgf w a0 5 0 = some (.ref g2)) (h3 : zob w g1 2 = true) {w1 : zAW} (h4 : zC scr 21 [.ref g1, .ref g2] w = some (none, w1)) {g3 : Nat} (h5 : zgf w1 a0 5 0 = some (.ref g3)) (h6 : zob w1 g3 3 = true) {f4 : Int32} {w2 : zAW} (h7 : zC scr 36 [.ref g3, .int x1, .int x2, .int x3, .int x4] w1 = some (some (.int f4), w2)) : zd scr 62 19 [some (.ref a0), some (.int x1), some (.int x2), some (.int x3), some (.int x4), some (.int x5)] [] w = some (some (.int f4), w2) := by
  refine Eq.trans (zd_aload_n zh62 rfl rfl) ?_
  refine Eq.trans (zd_getfield zh62 (ci := 5) (k := 4) rfl h1 rfl) ?_
  refine Eq.trans (zd_aload_n zh62 rfl rfl) ?_
  refine Eq.trans (zd_getfield zh62 (ci := 5) (k := 0) rfl h2 rfl) ?_
  refine Eq.trans (zd_invVv zh62 zh21 rfl rfl ⟨Nat.le_of_ble_eq_true rfl, Nat.le_of_ble_eq_true rfl, Nat.le_of_ble_eq_true rfl, Nat.le_of_ble_eq_true rfl⟩ rfl h3 h4 rfl) ?_
  refine Eq.trans (zd_aload_n zh62 rfl rfl) ?_
  refine Eq.trans (zd_getfield zh62 (ci := 5) (k := 0) rfl h5 rfl) ?_
  refine Eq.trans (zd_iload_n zh62 rfl rfl) ?_
  refine Eq.trans (zd_iload_n zh62 rfl rfl) ?_
  refine Eq.trans (zd_iload_n zh62 rfl rfl) ?_
  refine Eq.trans (zd_iload zh62 rfl rfl) ?_
  refine Eq.trans (zd_invVi zh62 zh36 rfl rfl ⟨Nat.le_of_ble_eq_true rfl, Nat.le_of_ble_eq_true rfl, Nat.le_of_ble_eq_true rfl, Nat.le_of_ble_eq_true rfl⟩ rfl h6 h7 rfl) ?_
  exact zd_iret zh62 rfl rfl
theorem b62_16 {scr : List Int32} {w : zAW} {a0 : Nat} {x1 : Int32} {x2 : Int32} {x3 : Int32} {x4 : Int32} {x5 : Int32}  : zd scr 62 16 [some (.ref a0), some (.int x1), some (.int x2), some (.int x3), some (.int x4), some (.int x5)] [] w = some (some (.int x5), w) := by
  refine Eq.trans (zd_iload zh62 rfl rfl) ?_
  exact zd_iret zh62 rfl rfl
/-! yX5_settle: 63, MarbleHeirs.settle()I -/
set_option maxRecDepth 20000 in
theorem b63_0 {scr : List Int32} {w : zAW} {a0 : Nat} {g1 : Nat} (h1 : zgf w a0 5 4 = some (.ref g1)) {g2 : Nat} (h2 : zgf w a0 5 0 = some (.ref g2)) (h3 : zob w g1 2 = true) {w1 : zAW} (h4 : zC scr 21 [.ref g1, .ref g2] w = some (none, w1)) {g3 : Nat} (h5 : zgf w1 a0 5 6 = some (.ref g3)) {g4 : Nat} (h6 : zgf w1 a0 5 0 = some (.ref g4)) (h7 : zob w1 g3 0 = true) {w2 : zAW} (h8 : zC scr 2 [.ref g3, .ref g4] w1 = some (none, w2)) : zd scr 63 0 [some (.ref a0), none] [] w = zd scr 63 24 [some (.ref a0), some (.int (nI 0))] [] w2 := by
  refine Eq.trans (zd_aload_n zh63 rfl rfl) ?_
  refine Eq.trans (zd_getfield zh63 (ci := 5) (k := 4) rfl h1 rfl) ?_
  refine Eq.trans (zd_aload_n zh63 rfl rfl) ?_
  refine Eq.trans (zd_getfield zh63 (ci := 5) (k := 0) rfl h2 rfl) ?_
  refine Eq.trans (zd_invVv zh63 zh21 rfl rfl ⟨Nat.le_of_ble_eq_true rfl, Nat.le_of_ble_eq_true rfl, Nat.le_of_ble_eq_true rfl, Nat.le_of_ble_eq_true rfl⟩ rfl h3 h4 rfl) ?_
  refine Eq.trans (zd_aload_n zh63 rfl rfl) ?_
  refine Eq.trans (zd_getfield zh63 (ci := 5) (k := 6) rfl h5 rfl) ?_
  refine Eq.trans (zd_aload_n zh63 rfl rfl) ?_
  refine Eq.trans (zd_getfield zh63 (ci := 5) (k := 0) rfl h6 rfl) ?_
  refine Eq.trans (zd_invVv zh63 zh2 rfl rfl ⟨Nat.le_of_ble_eq_true rfl, Nat.le_of_ble_eq_true rfl, Nat.le_of_ble_eq_true rfl, Nat.le_of_ble_eq_true rfl⟩ rfl h7 h8 rfl) ?_
  refine Eq.trans (zd_iconst zh63 (v := (nI 0)) rfl rfl) ?_
  refine Eq.trans (zd_istore_n zh63 (ls' := [some (.ref a0), some (.int (nI 0))]) (Nat.le_of_ble_eq_true rfl) rfl rfl) ?_
  exact rfl
theorem b63_24 {scr : List Int32} {w : zAW} {a0 : Nat} {x1 : Int32} {g1 : Nat} (h1 : zgf w a0 5 6 = some (.ref g1)) {f2 : Int32} (h2 : zgf w g1 0 4 = some (.int f2)) : zd scr 63 24 [some (.ref a0), some (.int x1)] [] w = if 0 < f2 then zd scr 63 34 [some (.ref a0), some (.int x1)] [] w else zd scr 63 92 [some (.ref a0), some (.int x1)] [] w := by
  refine Eq.trans (zd_aload_n zh63 rfl rfl) ?_
  refine Eq.trans (zd_getfield zh63 (ci := 5) (k := 6) rfl h1 rfl) ?_
  refine Eq.trans (zd_getfield zh63 (ci := 0) (k := 4) rfl h2 rfl) ?_
  exact zd_ifle zh63 (t := 92) (by decide) rfl
theorem b63_34 {scr : List Int32} {w : zAW} {a0 : Nat} {x1 : Int32}  : zd scr 63 34 [some (.ref a0), some (.int x1)] [] w = if x1 < (nI 120) then zd scr 63 40 [some (.ref a0), some (.int x1)] [] w else zd scr 63 92 [some (.ref a0), some (.int x1)] [] w := by
  refine Eq.trans (zd_iload_n zh63 rfl rfl) ?_
  refine Eq.trans (zd_bipush zh63 (v := (nI 120)) rfl rfl) ?_
  exact zd_icmpge zh63 (t := 92) (by decide) rfl
theorem b63_92 {scr : List Int32} {w : zAW} {a0 : Nat} {x1 : Int32}  : zd scr 63 92 [some (.ref a0), some (.int x1)] [] w = some (some (.int x1), w) := by
  refine Eq.trans (zd_iload_n zh63 rfl rfl) ?_
  exact zd_iret zh63 rfl rfl
set_option maxRecDepth 20000 in
theorem b63_40 {scr : List Int32} {w : zAW} {a0 : Nat} {x1 : Int32} {g1 : Nat} (h1 : zgf w a0 5 0 = some (.ref g1)) {g2 : Nat} (h2 : zgf w a0 5 6 = some (.ref g2)) {f3 : Int32} (h3 : zgf w g2 0 0 = some (.int f3)) {g4 : Nat} (h4 : zgf w a0 5 6 = some (.ref g4)) {f5 : Int32} (h5 : zgf w g4 0 1 = some (.int f5)) {g6 : Nat} (h6 : zgf w a0 5 6 = some (.ref g6)) {f7 : Int32} (h7 : zgf w g6 0 2 = some (.int f7)) {g8 : Nat} (h8 : zgf w a0 5 6 = some (.ref g8)) {f9 : Int32} (h9 : zgf w g8 0 3 = some (.int f9)) (h10 : zob w g1 3 = true) {w1 : zAW} (h11 : zC scr 37 [.ref g1, .int f3, .int f5, .int f7, .int f9] w = some (none, w1)) {g10 : Nat} (h12 : zgf w1 a0 5 6 = some (.ref g10)) {g11 : Nat} (h13 : zgf w1 a0 5 0 = some (.ref g11)) (h14 : zob w1 g10 0 = true) {w2 : zAW} (h15 : zC scr 2 [.ref g10, .ref g11] w1 = some (none, w2)) : zd scr 63 40 [some (.ref a0), some (.int x1)] [] w = zd scr 63 24 [some (.ref a0), some (.int (x1 + (nI 1)))] [] w2 := by
  refine Eq.trans (zd_aload_n zh63 rfl rfl) ?_
  refine Eq.trans (zd_getfield zh63 (ci := 5) (k := 0) rfl h1 rfl) ?_
  refine Eq.trans (zd_aload_n zh63 rfl rfl) ?_
  refine Eq.trans (zd_getfield zh63 (ci := 5) (k := 6) rfl h2 rfl) ?_
  refine Eq.trans (zd_getfield zh63 (ci := 0) (k := 0) rfl h3 rfl) ?_
  refine Eq.trans (zd_aload_n zh63 rfl rfl) ?_
  refine Eq.trans (zd_getfield zh63 (ci := 5) (k := 6) rfl h4 rfl) ?_
  refine Eq.trans (zd_getfield zh63 (ci := 0) (k := 1) rfl h5 rfl) ?_
  refine Eq.trans (zd_aload_n zh63 rfl rfl) ?_
  refine Eq.trans (zd_getfield zh63 (ci := 5) (k := 6) rfl h6 rfl) ?_
  refine Eq.trans (zd_getfield zh63 (ci := 0) (k := 2) rfl h7 rfl) ?_
  refine Eq.trans (zd_aload_n zh63 rfl rfl) ?_
  refine Eq.trans (zd_getfield zh63 (ci := 5) (k := 6) rfl h8 rfl) ?_
  refine Eq.trans (zd_getfield zh63 (ci := 0) (k := 3) rfl h9 rfl) ?_
  refine Eq.trans (zd_invVv zh63 zh37 rfl rfl ⟨Nat.le_of_ble_eq_true rfl, Nat.le_of_ble_eq_true rfl, Nat.le_of_ble_eq_true rfl, Nat.le_of_ble_eq_true rfl⟩ rfl h10 h11 rfl) ?_
  refine Eq.trans (zd_iinc zh63 (ls' := [some (.ref a0), some (.int (x1 + (nI 1)))]) (v := (x1 + (nI 1))) rfl rfl rfl rfl) ?_
  refine Eq.trans (zd_aload_n zh63 rfl rfl) ?_
  refine Eq.trans (zd_getfield zh63 (ci := 5) (k := 6) rfl h12 rfl) ?_
  refine Eq.trans (zd_aload_n zh63 rfl rfl) ?_
  refine Eq.trans (zd_getfield zh63 (ci := 5) (k := 0) rfl h13 rfl) ?_
  refine Eq.trans (zd_invVv zh63 zh2 rfl rfl ⟨Nat.le_of_ble_eq_true rfl, Nat.le_of_ble_eq_true rfl, Nat.le_of_ble_eq_true rfl, Nat.le_of_ble_eq_true rfl⟩ rfl h14 h15 rfl) ?_
  refine Eq.trans (zd_goto zh63 (t := 24) (by decide) rfl) ?_
  exact rfl
/-! yX5_heir: 64, MarbleHeirs.heir(II)I -/
set_option maxRecDepth 20000 in
theorem b64_0 {scr : List Int32} {w : zAW} {a0 : Nat} {x1 : Int32} {x2 : Int32} {g1 : Nat} (h1 : zgf w a0 5 0 = some (.ref g1)) (h2 : zob w g1 3 = true) {f2 : Int32} {w1 : zAW} (h3 : zC scr 26 [.ref g1, .int x1] w = some (some (.int f2), w1)) : zd scr 64 0 [some (.ref a0), some (.int x1), some (.int x2)] [] w = if f2 = 0 then zd scr 64 11 [some (.ref a0), some (.int x1), some (.int x2)] [] w1 else zd scr 64 13 [some (.ref a0), some (.int x1), some (.int x2)] [] w1 := by
  refine Eq.trans (zd_aload_n zh64 rfl rfl) ?_
  refine Eq.trans (zd_getfield zh64 (ci := 5) (k := 0) rfl h1 rfl) ?_
  refine Eq.trans (zd_iload_n zh64 rfl rfl) ?_
  refine Eq.trans (zd_invVi zh64 zh26 rfl rfl ⟨Nat.le_of_ble_eq_true rfl, Nat.le_of_ble_eq_true rfl, Nat.le_of_ble_eq_true rfl, Nat.le_of_ble_eq_true rfl⟩ rfl h2 h3 rfl) ?_
  exact zd_ifne zh64 (t := 13) (by decide) rfl
theorem b64_11 {scr : List Int32} {w : zAW} {a0 : Nat} {x1 : Int32} {x2 : Int32}  : zd scr 64 11 [some (.ref a0), some (.int x1), some (.int x2)] [] w = some (some (.int (-1)), w) := by
  refine Eq.trans (zd_iconst zh64 (v := (-1)) rfl rfl) ?_
  exact zd_iret zh64 rfl rfl
theorem b64_13 {scr : List Int32} {w : zAW} {a0 : Nat} {x1 : Int32} {x2 : Int32}  : zd scr 64 13 [some (.ref a0), some (.int x1), some (.int x2)] [] w = if x2 < 0 then zd scr 64 22 [some (.ref a0), some (.int x1), some (.int x2)] [] w else zd scr 64 17 [some (.ref a0), some (.int x1), some (.int x2)] [] w := by
  refine Eq.trans (zd_iload_n zh64 rfl rfl) ?_
  exact zd_iflt zh64 (t := 22) (by decide) rfl
theorem b64_22 {scr : List Int32} {w : zAW} {a0 : Nat} {x1 : Int32} {x2 : Int32}  : zd scr 64 22 [some (.ref a0), some (.int x1), some (.int x2)] [] w = some (some (.int (-2)), w) := by
  refine Eq.trans (zd_bipush zh64 (v := (-2)) rfl rfl) ?_
  exact zd_iret zh64 rfl rfl
theorem b64_17 {scr : List Int32} {w : zAW} {a0 : Nat} {x1 : Int32} {x2 : Int32}  : zd scr 64 17 [some (.ref a0), some (.int x1), some (.int x2)] [] w = if (nI 5) < x2 then zd scr 64 22 [some (.ref a0), some (.int x1), some (.int x2)] [] w else zd scr 64 25 [some (.ref a0), some (.int x1), some (.int x2)] [] w := by
  refine Eq.trans (zd_iload_n zh64 rfl rfl) ?_
  refine Eq.trans (zd_iconst zh64 (v := (nI 5)) rfl rfl) ?_
  exact zd_icmple zh64 (t := 25) (by decide) rfl
set_option maxRecDepth 20000 in
theorem b64_25 {scr : List Int32} {w : zAW} {a0 : Nat} {x1 : Int32} {x2 : Int32} {g1 : Nat} (h1 : zgf w a0 5 0 = some (.ref g1)) (h2 : zob w g1 3 = true) {f2 : Int32} {w1 : zAW} (h3 : zC scr 40 [.ref g1, .int x1, .int x2] w = some (some (.int f2), w1)) : zd scr 64 25 [some (.ref a0), some (.int x1), some (.int x2)] [] w = some (some (.int f2), w1) := by
  refine Eq.trans (zd_aload_n zh64 rfl rfl) ?_
  refine Eq.trans (zd_getfield zh64 (ci := 5) (k := 0) rfl h1 rfl) ?_
  refine Eq.trans (zd_iload_n zh64 rfl rfl) ?_
  refine Eq.trans (zd_iload_n zh64 rfl rfl) ?_
  refine Eq.trans (zd_invVi zh64 zh40 rfl rfl ⟨Nat.le_of_ble_eq_true rfl, Nat.le_of_ble_eq_true rfl, Nat.le_of_ble_eq_true rfl, Nat.le_of_ble_eq_true rfl⟩ rfl h2 h3 rfl) ?_
  exact zd_iret zh64 rfl rfl
/-! yX5_bag: 65, MarbleHeirs.bag(III)I -/
set_option maxRecDepth 20000 in
theorem b65_0 {scr : List Int32} {w : zAW} {a0 : Nat} {x1 : Int32} {x2 : Int32} {x3 : Int32} {g1 : Nat} (h1 : zgf w a0 5 0 = some (.ref g1)) (h2 : zob w g1 3 = true) {f2 : Int32} {w1 : zAW} (h3 : zC scr 27 [.ref g1, .int x1, .int x2] w = some (some (.int f2), w1)) : zd scr 65 0 [some (.ref a0), some (.int x1), some (.int x2), some (.int x3)] [] w = if f2 = 0 then zd scr 65 12 [some (.ref a0), some (.int x1), some (.int x2), some (.int x3)] [] w1 else zd scr 65 14 [some (.ref a0), some (.int x1), some (.int x2), some (.int x3)] [] w1 := by
  refine Eq.trans (zd_aload_n zh65 rfl rfl) ?_
  refine Eq.trans (zd_getfield zh65 (ci := 5) (k := 0) rfl h1 rfl) ?_
  refine Eq.trans (zd_iload_n zh65 rfl rfl) ?_
  refine Eq.trans (zd_iload_n zh65 rfl rfl) ?_
  refine Eq.trans (zd_invVi zh65 zh27 rfl rfl ⟨Nat.le_of_ble_eq_true rfl, Nat.le_of_ble_eq_true rfl, Nat.le_of_ble_eq_true rfl, Nat.le_of_ble_eq_true rfl⟩ rfl h2 h3 rfl) ?_
  exact zd_ifne zh65 (t := 14) (by decide) rfl
theorem b65_12 {scr : List Int32} {w : zAW} {a0 : Nat} {x1 : Int32} {x2 : Int32} {x3 : Int32}  : zd scr 65 12 [some (.ref a0), some (.int x1), some (.int x2), some (.int x3)] [] w = some (some (.int (-1)), w) := by
  refine Eq.trans (zd_iconst zh65 (v := (-1)) rfl rfl) ?_
  exact zd_iret zh65 rfl rfl
set_option maxRecDepth 20000 in
theorem b65_14 {scr : List Int32} {w : zAW} {a0 : Nat} {x1 : Int32} {x2 : Int32} {x3 : Int32} {g1 : Nat} (h1 : zgf w a0 5 0 = some (.ref g1)) {g2 : Nat} (h2 : zgf w g1 3 0 = some (.ref g2)) (h3 : zob w g2 1 = true) {f3 : Int32} {w1 : zAW} (h4 : zC scr 12 [.ref g2, .int x1, .int x2, .int x3] w = some (some (.int f3), w1)) : zd scr 65 14 [some (.ref a0), some (.int x1), some (.int x2), some (.int x3)] [] w = some (some (.int f3), w1) := by
  refine Eq.trans (zd_aload_n zh65 rfl rfl) ?_
  refine Eq.trans (zd_getfield zh65 (ci := 5) (k := 0) rfl h1 rfl) ?_
  refine Eq.trans (zd_getfield zh65 (ci := 3) (k := 0) rfl h2 rfl) ?_
  refine Eq.trans (zd_iload_n zh65 rfl rfl) ?_
  refine Eq.trans (zd_iload_n zh65 rfl rfl) ?_
  refine Eq.trans (zd_iload_n zh65 rfl rfl) ?_
  refine Eq.trans (zd_invVi zh65 zh12 rfl rfl ⟨Nat.le_of_ble_eq_true rfl, Nat.le_of_ble_eq_true rfl, Nat.le_of_ble_eq_true rfl, Nat.le_of_ble_eq_true rfl⟩ rfl h3 h4 rfl) ?_
  exact zd_iret zh65 rfl rfl
/-! yX5_hopper: 66, MarbleHeirs.hopper(II)I -/
set_option maxRecDepth 20000 in
theorem b66_0 {scr : List Int32} {w : zAW} {a0 : Nat} {x1 : Int32} {x2 : Int32} {g1 : Nat} (h1 : zgf w a0 5 0 = some (.ref g1)) {g2 : Nat} (h2 : zgf w g1 3 0 = some (.ref g2)) (h3 : zob w g2 1 = true) {f3 : Int32} {w1 : zAW} (h4 : zC scr 9 [.ref g2, .int (nI 6), .int x1] w = some (some (.int f3), w1)) : zd scr 66 0 [some (.ref a0), some (.int x1), some (.int x2)] [] w = if f3 = 0 then zd scr 66 16 [some (.ref a0), some (.int x1), some (.int x2)] [] w1 else zd scr 66 18 [some (.ref a0), some (.int x1), some (.int x2)] [] w1 := by
  refine Eq.trans (zd_aload_n zh66 rfl rfl) ?_
  refine Eq.trans (zd_getfield zh66 (ci := 5) (k := 0) rfl h1 rfl) ?_
  refine Eq.trans (zd_getfield zh66 (ci := 3) (k := 0) rfl h2 rfl) ?_
  refine Eq.trans (zd_bipush zh66 (v := (nI 6)) rfl rfl) ?_
  refine Eq.trans (zd_iload_n zh66 rfl rfl) ?_
  refine Eq.trans (zd_invVi zh66 zh9 rfl rfl ⟨Nat.le_of_ble_eq_true rfl, Nat.le_of_ble_eq_true rfl, Nat.le_of_ble_eq_true rfl, Nat.le_of_ble_eq_true rfl⟩ rfl h3 h4 rfl) ?_
  exact zd_ifne zh66 (t := 18) (by decide) rfl
theorem b66_16 {scr : List Int32} {w : zAW} {a0 : Nat} {x1 : Int32} {x2 : Int32}  : zd scr 66 16 [some (.ref a0), some (.int x1), some (.int x2)] [] w = some (some (.int (-1)), w) := by
  refine Eq.trans (zd_iconst zh66 (v := (-1)) rfl rfl) ?_
  exact zd_iret zh66 rfl rfl
set_option maxRecDepth 20000 in
theorem b66_18 {scr : List Int32} {w : zAW} {a0 : Nat} {x1 : Int32} {x2 : Int32} {g1 : Nat} (h1 : zgf w a0 5 0 = some (.ref g1)) {g2 : Nat} (h2 : zgf w g1 3 0 = some (.ref g2)) (h3 : zob w g2 1 = true) {f3 : Int32} {w1 : zAW} (h4 : zC scr 12 [.ref g2, .int (nI 6), .int x1, .int x2] w = some (some (.int f3), w1)) : zd scr 66 18 [some (.ref a0), some (.int x1), some (.int x2)] [] w = some (some (.int f3), w1) := by
  refine Eq.trans (zd_aload_n zh66 rfl rfl) ?_
  refine Eq.trans (zd_getfield zh66 (ci := 5) (k := 0) rfl h1 rfl) ?_
  refine Eq.trans (zd_getfield zh66 (ci := 3) (k := 0) rfl h2 rfl) ?_
  refine Eq.trans (zd_bipush zh66 (v := (nI 6)) rfl rfl) ?_
  refine Eq.trans (zd_iload_n zh66 rfl rfl) ?_
  refine Eq.trans (zd_iload_n zh66 rfl rfl) ?_
  refine Eq.trans (zd_invVi zh66 zh12 rfl rfl ⟨Nat.le_of_ble_eq_true rfl, Nat.le_of_ble_eq_true rfl, Nat.le_of_ble_eq_true rfl, Nat.le_of_ble_eq_true rfl⟩ rfl h3 h4 rfl) ?_
  exact zd_iret zh66 rfl rfl
/-! yX5_vetoes: 67, MarbleHeirs.vetoes(I)I -/
set_option maxRecDepth 20000 in
theorem b67_0 {scr : List Int32} {w : zAW} {a0 : Nat} {x1 : Int32} {f1 : Int32} {w1 : zAW} (h1 : zC scr 81 [.int x1] w = some (some (.int f1), w1)) : zd scr 67 0 [some (.ref a0), some (.int x1)] [] w = if f1 = 0 then zd scr 67 7 [some (.ref a0), some (.int x1)] [] w1 else zd scr 67 9 [some (.ref a0), some (.int x1)] [] w1 := by
  refine Eq.trans (zd_iload_n zh67 rfl rfl) ?_
  refine Eq.trans (zd_invSi zh67 zh81 rfl rfl ⟨Nat.le_of_ble_eq_true rfl, Nat.le_of_ble_eq_true rfl, Nat.le_of_ble_eq_true rfl, Or.inl (Nat.le_of_ble_eq_true rfl), Nat.le_of_ble_eq_true rfl⟩ rfl h1 rfl) ?_
  exact zd_ifne zh67 (t := 9) (by decide) rfl
theorem b67_7 {scr : List Int32} {w : zAW} {a0 : Nat} {x1 : Int32}  : zd scr 67 7 [some (.ref a0), some (.int x1)] [] w = some (some (.int (-1)), w) := by
  refine Eq.trans (zd_iconst zh67 (v := (-1)) rfl rfl) ?_
  exact zd_iret zh67 rfl rfl
theorem b67_9 {scr : List Int32} {w : zAW} {a0 : Nat} {x1 : Int32} {g1 : Nat} (h1 : zgf w a0 5 0 = some (.ref g1)) {g2 : Nat} (h2 : zgf w g1 3 5 = some (.ref g2)) {f3 : Int32} (h3 : zal w g2 x1 = some f3) : zd scr 67 9 [some (.ref a0), some (.int x1)] [] w = some (some (.int f3), w) := by
  refine Eq.trans (zd_aload_n zh67 rfl rfl) ?_
  refine Eq.trans (zd_getfield zh67 (ci := 5) (k := 0) rfl h1 rfl) ?_
  refine Eq.trans (zd_getfield zh67 (ci := 3) (k := 5) rfl h2 rfl) ?_
  refine Eq.trans (zd_iload_n zh67 rfl rfl) ?_
  refine Eq.trans (zd_iaload zh67 h3 rfl) ?_
  exact zd_iret zh67 rfl rfl
/-! yX5_at: 68, MarbleHeirs.at(I)I -/
theorem b68_0 {scr : List Int32} {w : zAW} {a0 : Nat} {x1 : Int32}  : zd scr 68 0 [some (.ref a0), some (.int x1)] [] w = if x1 < 0 then zd scr 68 15 [some (.ref a0), some (.int x1)] [] w else zd scr 68 4 [some (.ref a0), some (.int x1)] [] w := by
  refine Eq.trans (zd_iload_n zh68 rfl rfl) ?_
  exact zd_iflt zh68 (t := 15) (by decide) rfl
theorem b68_15 {scr : List Int32} {w : zAW} {a0 : Nat} {x1 : Int32}  : zd scr 68 15 [some (.ref a0), some (.int x1)] [] w = some (some (.int (-1)), w) := by
  refine Eq.trans (zd_iconst zh68 (v := (-1)) rfl rfl) ?_
  exact zd_iret zh68 rfl rfl
theorem b68_4 {scr : List Int32} {w : zAW} {a0 : Nat} {x1 : Int32} {g1 : Nat} (h1 : zgf w a0 5 0 = some (.ref g1)) {f2 : Int32} (h2 : zgf w g1 3 1 = some (.int f2)) : zd scr 68 4 [some (.ref a0), some (.int x1)] [] w = if x1 < f2 then zd scr 68 17 [some (.ref a0), some (.int x1)] [] w else zd scr 68 15 [some (.ref a0), some (.int x1)] [] w := by
  refine Eq.trans (zd_iload_n zh68 rfl rfl) ?_
  refine Eq.trans (zd_aload_n zh68 rfl rfl) ?_
  refine Eq.trans (zd_getfield zh68 (ci := 5) (k := 0) rfl h1 rfl) ?_
  refine Eq.trans (zd_getfield zh68 (ci := 3) (k := 1) rfl h2 rfl) ?_
  exact zd_icmplt zh68 (t := 17) (by decide) rfl
theorem b68_17 {scr : List Int32} {w : zAW} {a0 : Nat} {x1 : Int32} {g1 : Nat} (h1 : zgf w a0 5 0 = some (.ref g1)) {g2 : Nat} (h2 : zgf w g1 3 4 = some (.ref g2)) {f3 : Int32} (h3 : zal w g2 x1 = some f3) : zd scr 68 17 [some (.ref a0), some (.int x1)] [] w = some (some (.int f3), w) := by
  refine Eq.trans (zd_aload_n zh68 rfl rfl) ?_
  refine Eq.trans (zd_getfield zh68 (ci := 5) (k := 0) rfl h1 rfl) ?_
  refine Eq.trans (zd_getfield zh68 (ci := 3) (k := 4) rfl h2 rfl) ?_
  refine Eq.trans (zd_iload_n zh68 rfl rfl) ?_
  refine Eq.trans (zd_iaload zh68 h3 rfl) ?_
  exact zd_iret zh68 rfl rfl
/-! yX5_total: 69, MarbleHeirs.total(I)I -/
theorem b69_0 {scr : List Int32} {w : zAW} {a0 : Nat} {x1 : Int32}  : zd scr 69 0 [some (.ref a0), some (.int x1)] [] w = if x1 < 0 then zd scr 69 10 [some (.ref a0), some (.int x1)] [] w else zd scr 69 4 [some (.ref a0), some (.int x1)] [] w := by
  refine Eq.trans (zd_iload_n zh69 rfl rfl) ?_
  exact zd_iflt zh69 (t := 10) (by decide) rfl
theorem b69_10 {scr : List Int32} {w : zAW} {a0 : Nat} {x1 : Int32}  : zd scr 69 10 [some (.ref a0), some (.int x1)] [] w = some (some (.int (-2)), w) := by
  refine Eq.trans (zd_bipush zh69 (v := (-2)) rfl rfl) ?_
  exact zd_iret zh69 rfl rfl
theorem b69_4 {scr : List Int32} {w : zAW} {a0 : Nat} {x1 : Int32}  : zd scr 69 4 [some (.ref a0), some (.int x1)] [] w = if (nI 12) < x1 then zd scr 69 10 [some (.ref a0), some (.int x1)] [] w else zd scr 69 13 [some (.ref a0), some (.int x1)] [] w := by
  refine Eq.trans (zd_iload_n zh69 rfl rfl) ?_
  refine Eq.trans (zd_bipush zh69 (v := (nI 12)) rfl rfl) ?_
  exact zd_icmple zh69 (t := 13) (by decide) rfl
set_option maxRecDepth 20000 in
theorem b69_13 {scr : List Int32} {w : zAW} {a0 : Nat} {x1 : Int32} {g1 : Nat} (h1 : zgf w a0 5 0 = some (.ref g1)) (h2 : zob w g1 3 = true) {f2 : Int32} {w1 : zAW} (h3 : zC scr 41 [.ref g1, .int x1] w = some (some (.int f2), w1)) : zd scr 69 13 [some (.ref a0), some (.int x1)] [] w = some (some (.int f2), w1) := by
  refine Eq.trans (zd_aload_n zh69 rfl rfl) ?_
  refine Eq.trans (zd_getfield zh69 (ci := 5) (k := 0) rfl h1 rfl) ?_
  refine Eq.trans (zd_iload_n zh69 rfl rfl) ?_
  refine Eq.trans (zd_invVi zh69 zh41 rfl rfl ⟨Nat.le_of_ble_eq_true rfl, Nat.le_of_ble_eq_true rfl, Nat.le_of_ble_eq_true rfl, Nat.le_of_ble_eq_true rfl⟩ rfl h2 h3 rfl) ?_
  exact zd_iret zh69 rfl rfl
/-! yX5_ifDivided: 70, MarbleHeirs.ifDivided(II)I -/
set_option maxRecDepth 20000 in
theorem b70_0 {scr : List Int32} {w : zAW} {a0 : Nat} {x1 : Int32} {x2 : Int32} {g1 : Nat} (h1 : zgf w a0 5 0 = some (.ref g1)) (h2 : zob w g1 3 = true) {f2 : Int32} {w1 : zAW} (h3 : zC scr 26 [.ref g1, .int x1] w = some (some (.int f2), w1)) : zd scr 70 0 [some (.ref a0), some (.int x1), some (.int x2)] [] w = if f2 = 0 then zd scr 70 11 [some (.ref a0), some (.int x1), some (.int x2)] [] w1 else zd scr 70 13 [some (.ref a0), some (.int x1), some (.int x2)] [] w1 := by
  refine Eq.trans (zd_aload_n zh70 rfl rfl) ?_
  refine Eq.trans (zd_getfield zh70 (ci := 5) (k := 0) rfl h1 rfl) ?_
  refine Eq.trans (zd_iload_n zh70 rfl rfl) ?_
  refine Eq.trans (zd_invVi zh70 zh26 rfl rfl ⟨Nat.le_of_ble_eq_true rfl, Nat.le_of_ble_eq_true rfl, Nat.le_of_ble_eq_true rfl, Nat.le_of_ble_eq_true rfl⟩ rfl h2 h3 rfl) ?_
  exact zd_ifne zh70 (t := 13) (by decide) rfl
theorem b70_11 {scr : List Int32} {w : zAW} {a0 : Nat} {x1 : Int32} {x2 : Int32}  : zd scr 70 11 [some (.ref a0), some (.int x1), some (.int x2)] [] w = some (some (.int (-1)), w) := by
  refine Eq.trans (zd_iconst zh70 (v := (-1)) rfl rfl) ?_
  exact zd_iret zh70 rfl rfl
theorem b70_13 {scr : List Int32} {w : zAW} {a0 : Nat} {x1 : Int32} {x2 : Int32}  : zd scr 70 13 [some (.ref a0), some (.int x1), some (.int x2)] [] w = if x2 < 0 then zd scr 70 22 [some (.ref a0), some (.int x1), some (.int x2)] [] w else zd scr 70 17 [some (.ref a0), some (.int x1), some (.int x2)] [] w := by
  refine Eq.trans (zd_iload_n zh70 rfl rfl) ?_
  exact zd_iflt zh70 (t := 22) (by decide) rfl
theorem b70_22 {scr : List Int32} {w : zAW} {a0 : Nat} {x1 : Int32} {x2 : Int32}  : zd scr 70 22 [some (.ref a0), some (.int x1), some (.int x2)] [] w = some (some (.int (-2)), w) := by
  refine Eq.trans (zd_bipush zh70 (v := (-2)) rfl rfl) ?_
  exact zd_iret zh70 rfl rfl
theorem b70_17 {scr : List Int32} {w : zAW} {a0 : Nat} {x1 : Int32} {x2 : Int32}  : zd scr 70 17 [some (.ref a0), some (.int x1), some (.int x2)] [] w = if (nI 2) < x2 then zd scr 70 22 [some (.ref a0), some (.int x1), some (.int x2)] [] w else zd scr 70 25 [some (.ref a0), some (.int x1), some (.int x2)] [] w := by
  refine Eq.trans (zd_iload_n zh70 rfl rfl) ?_
  refine Eq.trans (zd_iconst zh70 (v := (nI 2)) rfl rfl) ?_
  exact zd_icmple zh70 (t := 25) (by decide) rfl
set_option maxRecDepth 20000 in
theorem b70_25 {scr : List Int32} {w : zAW} {a0 : Nat} {x1 : Int32} {x2 : Int32} {g1 : Nat} (h1 : zgf w a0 5 1 = some (.ref g1)) {g2 : Nat} (h2 : zgf w a0 5 0 = some (.ref g2)) (h3 : zob w g1 3 = true) {w1 : zAW} (h4 : zC scr 25 [.ref g1, .ref g2] w = some (none, w1)) {g3 : Nat} (h5 : zgf w1 a0 5 1 = some (.ref g3)) (h6 : zob w1 g3 3 = true) {f4 : Int32} {w2 : zAW} (h7 : zC scr 31 [.ref g3] w1 = some (some (.int f4), w2)) {g5 : Nat} (h8 : zgf w2 a0 5 1 = some (.ref g5)) (h9 : zob w2 g5 3 = true) {f6 : Int32} {w3 : zAW} (h10 : zC scr 40 [.ref g5, .int x1, .int ((nI 2) + x2)] w2 = some (some (.int f6), w3)) : zd scr 70 25 [some (.ref a0), some (.int x1), some (.int x2)] [] w = some (some (.int f6), w3) := by
  refine Eq.trans (zd_aload_n zh70 rfl rfl) ?_
  refine Eq.trans (zd_getfield zh70 (ci := 5) (k := 1) rfl h1 rfl) ?_
  refine Eq.trans (zd_aload_n zh70 rfl rfl) ?_
  refine Eq.trans (zd_getfield zh70 (ci := 5) (k := 0) rfl h2 rfl) ?_
  refine Eq.trans (zd_invVv zh70 zh25 rfl rfl ⟨Nat.le_of_ble_eq_true rfl, Nat.le_of_ble_eq_true rfl, Nat.le_of_ble_eq_true rfl, Nat.le_of_ble_eq_true rfl⟩ rfl h3 h4 rfl) ?_
  refine Eq.trans (zd_aload_n zh70 rfl rfl) ?_
  refine Eq.trans (zd_getfield zh70 (ci := 5) (k := 1) rfl h5 rfl) ?_
  refine Eq.trans (zd_invVi zh70 zh31 rfl rfl ⟨Nat.le_of_ble_eq_true rfl, Nat.le_of_ble_eq_true rfl, Nat.le_of_ble_eq_true rfl, Nat.le_of_ble_eq_true rfl⟩ rfl h6 h7 rfl) ?_
  refine Eq.trans (zd_pop zh70 rfl) ?_
  refine Eq.trans (zd_aload_n zh70 rfl rfl) ?_
  refine Eq.trans (zd_getfield zh70 (ci := 5) (k := 1) rfl h8 rfl) ?_
  refine Eq.trans (zd_iload_n zh70 rfl rfl) ?_
  refine Eq.trans (zd_iconst zh70 (v := (nI 2)) rfl rfl) ?_
  refine Eq.trans (zd_iload_n zh70 rfl rfl) ?_
  refine Eq.trans (zd_iadd zh70 rfl) ?_
  refine Eq.trans (zd_invVi zh70 zh40 rfl rfl ⟨Nat.le_of_ble_eq_true rfl, Nat.le_of_ble_eq_true rfl, Nat.le_of_ble_eq_true rfl, Nat.le_of_ble_eq_true rfl⟩ rfl h9 h10 rfl) ?_
  exact zd_iret zh70 rfl rfl
/-! yX5_fairestRule: 71, MarbleHeirs.fairestRule()I -/
theorem b71_0 {scr : List Int32} {w : zAW} {a0 : Nat} {g1 : Nat} (h1 : zgf w a0 5 0 = some (.ref g1)) {f2 : Int32} (h2 : zgf w g1 3 1 = some (.int f2)) : zd scr 71 0 [some (.ref a0), none, none, none, none] [] w = if f2 = 0 then zd scr 71 10 [some (.ref a0), none, none, none, none] [] w else zd scr 71 13 [some (.ref a0), none, none, none, none] [] w := by
  refine Eq.trans (zd_aload_n zh71 rfl rfl) ?_
  refine Eq.trans (zd_getfield zh71 (ci := 5) (k := 0) rfl h1 rfl) ?_
  refine Eq.trans (zd_getfield zh71 (ci := 3) (k := 1) rfl h2 rfl) ?_
  exact zd_ifne zh71 (t := 13) (by decide) rfl
theorem b71_23 {scr : List Int32} {w : zAW} {a0 : Nat} {x1 : Int32} {x2 : Int32} {x3 : Int32} {v4 : Option Value}  : zd scr 71 23 [some (.ref a0), some (.int x1), some (.int x2), some (.int x3), v4] [] w = if x3 ≤ (nI 2) then zd scr 71 28 [some (.ref a0), some (.int x1), some (.int x2), some (.int x3), v4] [] w else zd scr 71 52 [some (.ref a0), some (.int x1), some (.int x2), some (.int x3), v4] [] w := by
  refine Eq.trans (zd_iload_n zh71 rfl rfl) ?_
  refine Eq.trans (zd_iconst zh71 (v := (nI 2)) rfl rfl) ?_
  exact zd_icmpgt zh71 (t := 52) (by decide) rfl
theorem b71_10 {scr : List Int32} {w : zAW} {a0 : Nat}  : zd scr 71 10 [some (.ref a0), none, none, none, none] [] w = some (some (.int (-6)), w) := by
  refine Eq.trans (zd_bipush zh71 (v := (-6)) rfl rfl) ?_
  exact zd_iret zh71 rfl rfl
set_option maxRecDepth 20000 in
theorem b71_13 {scr : List Int32} {w : zAW} {a0 : Nat} (h1 : zob w a0 5 = true) {f1 : Int32} {w1 : zAW} (h2 : zC scr 85 [.ref a0, .int (nI 0)] w = some (some (.int f1), w1)) : zd scr 71 13 [some (.ref a0), none, none, none, none] [] w = zd scr 71 23 [some (.ref a0), some (.int (nI 0)), some (.int f1), some (.int (nI 1)), none] [] w1 := by
  refine Eq.trans (zd_iconst zh71 (v := (nI 0)) rfl rfl) ?_
  refine Eq.trans (zd_istore_n zh71 (ls' := [some (.ref a0), some (.int (nI 0)), none, none, none]) (Nat.le_of_ble_eq_true rfl) rfl rfl) ?_
  refine Eq.trans (zd_aload_n zh71 rfl rfl) ?_
  refine Eq.trans (zd_iconst zh71 (v := (nI 0)) rfl rfl) ?_
  refine Eq.trans (zd_invVi zh71 zh85 rfl rfl ⟨Nat.le_of_ble_eq_true rfl, Nat.le_of_ble_eq_true rfl, Nat.le_of_ble_eq_true rfl, Nat.le_of_ble_eq_true rfl⟩ rfl h1 h2 rfl) ?_
  refine Eq.trans (zd_istore_n zh71 (ls' := [some (.ref a0), some (.int (nI 0)), some (.int f1), none, none]) (Nat.le_of_ble_eq_true rfl) rfl rfl) ?_
  refine Eq.trans (zd_iconst zh71 (v := (nI 1)) rfl rfl) ?_
  refine Eq.trans (zd_istore_n zh71 (ls' := [some (.ref a0), some (.int (nI 0)), some (.int f1), some (.int (nI 1)), none]) (Nat.le_of_ble_eq_true rfl) rfl rfl) ?_
  exact rfl
set_option maxRecDepth 20000 in
theorem b71_28 {scr : List Int32} {w : zAW} {a0 : Nat} {x1 : Int32} {x2 : Int32} {x3 : Int32} {v4 : Option Value} (h1 : zob w a0 5 = true) {f1 : Int32} {w1 : zAW} (h2 : zC scr 85 [.ref a0, .int x3] w = some (some (.int f1), w1)) : zd scr 71 28 [some (.ref a0), some (.int x1), some (.int x2), some (.int x3), v4] [] w = if f1 < x2 then zd scr 71 41 [some (.ref a0), some (.int x1), some (.int x2), some (.int x3), some (.int f1)] [] w1 else zd scr 71 46 [some (.ref a0), some (.int x1), some (.int x2), some (.int x3), some (.int f1)] [] w1 := by
  refine Eq.trans (zd_aload_n zh71 rfl rfl) ?_
  refine Eq.trans (zd_iload_n zh71 rfl rfl) ?_
  refine Eq.trans (zd_invVi zh71 zh85 rfl rfl ⟨Nat.le_of_ble_eq_true rfl, Nat.le_of_ble_eq_true rfl, Nat.le_of_ble_eq_true rfl, Nat.le_of_ble_eq_true rfl⟩ rfl h1 h2 rfl) ?_
  refine Eq.trans (zd_istore zh71 (ls' := [some (.ref a0), some (.int x1), some (.int x2), some (.int x3), some (.int f1)]) (Nat.le_of_ble_eq_true rfl) rfl rfl) ?_
  refine Eq.trans (zd_iload zh71 rfl rfl) ?_
  refine Eq.trans (zd_iload_n zh71 rfl rfl) ?_
  exact zd_icmpge zh71 (t := 46) (by decide) rfl
theorem b71_52 {scr : List Int32} {w : zAW} {a0 : Nat} {x1 : Int32} {x2 : Int32} {x3 : Int32} {v4 : Option Value}  : zd scr 71 52 [some (.ref a0), some (.int x1), some (.int x2), some (.int x3), v4] [] w = some (some (.int x1), w) := by
  refine Eq.trans (zd_iload_n zh71 rfl rfl) ?_
  exact zd_iret zh71 rfl rfl
theorem b71_41 {scr : List Int32} {w : zAW} {a0 : Nat} {x1 : Int32} {x2 : Int32} {x3 : Int32} {x4 : Int32}  : zd scr 71 41 [some (.ref a0), some (.int x1), some (.int x2), some (.int x3), some (.int x4)] [] w = zd scr 71 23 [some (.ref a0), some (.int x3), some (.int x4), some (.int (x3 + (nI 1))), some (.int x4)] [] w := by
  refine Eq.trans (zd_iload zh71 rfl rfl) ?_
  refine Eq.trans (zd_istore_n zh71 (ls' := [some (.ref a0), some (.int x1), some (.int x4), some (.int x3), some (.int x4)]) (Nat.le_of_ble_eq_true rfl) rfl rfl) ?_
  refine Eq.trans (zd_iload_n zh71 rfl rfl) ?_
  refine Eq.trans (zd_istore_n zh71 (ls' := [some (.ref a0), some (.int x3), some (.int x4), some (.int x3), some (.int x4)]) (Nat.le_of_ble_eq_true rfl) rfl rfl) ?_
  refine Eq.trans (zd_iinc zh71 (ls' := [some (.ref a0), some (.int x3), some (.int x4), some (.int (x3 + (nI 1))), some (.int x4)]) (v := (x3 + (nI 1))) rfl rfl rfl rfl) ?_
  refine Eq.trans (zd_goto zh71 (t := 23) (by decide) rfl) ?_
  exact rfl
theorem b71_46 {scr : List Int32} {w : zAW} {a0 : Nat} {x1 : Int32} {x2 : Int32} {x3 : Int32} {x4 : Int32}  : zd scr 71 46 [some (.ref a0), some (.int x1), some (.int x2), some (.int x3), some (.int x4)] [] w = zd scr 71 23 [some (.ref a0), some (.int x1), some (.int x2), some (.int (x3 + (nI 1))), some (.int x4)] [] w := by
  refine Eq.trans (zd_iinc zh71 (ls' := [some (.ref a0), some (.int x1), some (.int x2), some (.int (x3 + (nI 1))), some (.int x4)]) (v := (x3 + (nI 1))) rfl rfl rfl rfl) ?_
  refine Eq.trans (zd_goto zh71 (t := 23) (by decide) rfl) ?_
  exact rfl
/-! yX5_whoVetoes: 72, MarbleHeirs.whoVetoes(IIII)I -/
set_option maxRecDepth 20000 in
theorem b72_0 {scr : List Int32} {w : zAW} {a0 : Nat} {x1 : Int32} {x2 : Int32} {x3 : Int32} {x4 : Int32} (h1 : zob w a0 5 = true) {f1 : Int32} {w1 : zAW} (h2 : zC scr 84 [.ref a0, .int x1, .int x2, .int x3, .int x4] w = some (some (.int f1), w1)) : zd scr 72 0 [some (.ref a0), some (.int x1), some (.int x2), some (.int x3), some (.int x4), none] [] w = if f1 = 0 then zd scr 72 19 [some (.ref a0), some (.int x1), some (.int x2), some (.int x3), some (.int x4), some (.int f1)] [] w1 else zd scr 72 16 [some (.ref a0), some (.int x1), some (.int x2), some (.int x3), some (.int x4), some (.int f1)] [] w1 := by
  refine Eq.trans (zd_aload_n zh72 rfl rfl) ?_
  refine Eq.trans (zd_iload_n zh72 rfl rfl) ?_
  refine Eq.trans (zd_iload_n zh72 rfl rfl) ?_
  refine Eq.trans (zd_iload_n zh72 rfl rfl) ?_
  refine Eq.trans (zd_iload zh72 rfl rfl) ?_
  refine Eq.trans (zd_invVi zh72 zh84 rfl rfl ⟨Nat.le_of_ble_eq_true rfl, Nat.le_of_ble_eq_true rfl, Nat.le_of_ble_eq_true rfl, Nat.le_of_ble_eq_true rfl⟩ rfl h1 h2 rfl) ?_
  refine Eq.trans (zd_istore zh72 (ls' := [some (.ref a0), some (.int x1), some (.int x2), some (.int x3), some (.int x4), some (.int f1)]) (Nat.le_of_ble_eq_true rfl) rfl rfl) ?_
  refine Eq.trans (zd_iload zh72 rfl rfl) ?_
  exact zd_ifeq zh72 (t := 19) (by decide) rfl
set_option maxRecDepth 20000 in
theorem b72_19 {scr : List Int32} {w : zAW} {a0 : Nat} {x1 : Int32} {x2 : Int32} {x3 : Int32} {x4 : Int32} {x5 : Int32} {g1 : Nat} (h1 : zgf w a0 5 0 = some (.ref g1)) (h2 : zob w g1 3 = true) {f2 : Int32} {w1 : zAW} (h3 : zC scr 38 [.ref g1, .int x1, .int x2, .int x3, .int x4] w = some (some (.int f2), w1)) : zd scr 72 19 [some (.ref a0), some (.int x1), some (.int x2), some (.int x3), some (.int x4), some (.int x5)] [] w = some (some (.int f2), w1) := by
  refine Eq.trans (zd_aload_n zh72 rfl rfl) ?_
  refine Eq.trans (zd_getfield zh72 (ci := 5) (k := 0) rfl h1 rfl) ?_
  refine Eq.trans (zd_iload_n zh72 rfl rfl) ?_
  refine Eq.trans (zd_iload_n zh72 rfl rfl) ?_
  refine Eq.trans (zd_iload_n zh72 rfl rfl) ?_
  refine Eq.trans (zd_iload zh72 rfl rfl) ?_
  refine Eq.trans (zd_invVi zh72 zh38 rfl rfl ⟨Nat.le_of_ble_eq_true rfl, Nat.le_of_ble_eq_true rfl, Nat.le_of_ble_eq_true rfl, Nat.le_of_ble_eq_true rfl⟩ rfl h2 h3 rfl) ?_
  exact zd_iret zh72 rfl rfl
theorem b72_16 {scr : List Int32} {w : zAW} {a0 : Nat} {x1 : Int32} {x2 : Int32} {x3 : Int32} {x4 : Int32} {x5 : Int32}  : zd scr 72 16 [some (.ref a0), some (.int x1), some (.int x2), some (.int x3), some (.int x4), some (.int x5)] [] w = some (some (.int x5), w) := by
  refine Eq.trans (zd_iload zh72 rfl rfl) ?_
  exact zd_iret zh72 rfl rfl
/-! yX5_bestSwap: 73, MarbleHeirs.bestSwap(I)I -/
theorem b73_0 {scr : List Int32} {w : zAW} {a0 : Nat} {x1 : Int32}  : zd scr 73 0 [some (.ref a0), some (.int x1)] [] w = if x1 < 0 then zd scr 73 9 [some (.ref a0), some (.int x1)] [] w else zd scr 73 4 [some (.ref a0), some (.int x1)] [] w := by
  refine Eq.trans (zd_iload_n zh73 rfl rfl) ?_
  exact zd_iflt zh73 (t := 9) (by decide) rfl
theorem b73_9 {scr : List Int32} {w : zAW} {a0 : Nat} {x1 : Int32}  : zd scr 73 9 [some (.ref a0), some (.int x1)] [] w = some (some (.int (-2)), w) := by
  refine Eq.trans (zd_bipush zh73 (v := (-2)) rfl rfl) ?_
  exact zd_iret zh73 rfl rfl
theorem b73_4 {scr : List Int32} {w : zAW} {a0 : Nat} {x1 : Int32}  : zd scr 73 4 [some (.ref a0), some (.int x1)] [] w = if (nI 4) < x1 then zd scr 73 9 [some (.ref a0), some (.int x1)] [] w else zd scr 73 12 [some (.ref a0), some (.int x1)] [] w := by
  refine Eq.trans (zd_iload_n zh73 rfl rfl) ?_
  refine Eq.trans (zd_iconst zh73 (v := (nI 4)) rfl rfl) ?_
  exact zd_icmple zh73 (t := 12) (by decide) rfl
set_option maxRecDepth 20000 in
theorem b73_12 {scr : List Int32} {w : zAW} {a0 : Nat} {x1 : Int32} {g1 : Nat} (h1 : zgf w a0 5 6 = some (.ref g1)) {g2 : Nat} (h2 : zgf w a0 5 0 = some (.ref g2)) (h3 : zob w g1 0 = true) {w1 : zAW} (h4 : zC scr 2 [.ref g1, .ref g2] w = some (none, w1)) {g3 : Nat} (h5 : zgf w1 a0 5 6 = some (.ref g3)) (h6 : zob w1 g3 0 = true) {f4 : Int32} {w2 : zAW} (h7 : zC scr 1 [.ref g3, .int x1] w1 = some (some (.int f4), w2)) : zd scr 73 12 [some (.ref a0), some (.int x1)] [] w = some (some (.int f4), w2) := by
  refine Eq.trans (zd_aload_n zh73 rfl rfl) ?_
  refine Eq.trans (zd_getfield zh73 (ci := 5) (k := 6) rfl h1 rfl) ?_
  refine Eq.trans (zd_aload_n zh73 rfl rfl) ?_
  refine Eq.trans (zd_getfield zh73 (ci := 5) (k := 0) rfl h2 rfl) ?_
  refine Eq.trans (zd_invVv zh73 zh2 rfl rfl ⟨Nat.le_of_ble_eq_true rfl, Nat.le_of_ble_eq_true rfl, Nat.le_of_ble_eq_true rfl, Nat.le_of_ble_eq_true rfl⟩ rfl h3 h4 rfl) ?_
  refine Eq.trans (zd_aload_n zh73 rfl rfl) ?_
  refine Eq.trans (zd_getfield zh73 (ci := 5) (k := 6) rfl h5 rfl) ?_
  refine Eq.trans (zd_iload_n zh73 rfl rfl) ?_
  refine Eq.trans (zd_invVi zh73 zh1 rfl rfl ⟨Nat.le_of_ble_eq_true rfl, Nat.le_of_ble_eq_true rfl, Nat.le_of_ble_eq_true rfl, Nat.le_of_ble_eq_true rfl⟩ rfl h6 h7 rfl) ?_
  exact zd_iret zh73 rfl rfl
/-! yX5_undo: 78, MarbleHeirs.undo()I -/
theorem b78_0 {scr : List Int32} {w : zAW} {a0 : Nat} {g1 : Nat} (h1 : zgf w a0 5 4 = some (.ref g1)) {f2 : Int32} (h2 : zgf w g1 2 1 = some (.int f2)) : zd scr 78 0 [some (.ref a0)] [] w = if f2 = 0 then zd scr 78 10 [some (.ref a0)] [] w else zd scr 78 13 [some (.ref a0)] [] w := by
  refine Eq.trans (zd_aload_n zh78 rfl rfl) ?_
  refine Eq.trans (zd_getfield zh78 (ci := 5) (k := 4) rfl h1 rfl) ?_
  refine Eq.trans (zd_getfield zh78 (ci := 2) (k := 1) rfl h2 rfl) ?_
  exact zd_ifne zh78 (t := 13) (by decide) rfl
theorem b78_10 {scr : List Int32} {w : zAW} {a0 : Nat}  : zd scr 78 10 [some (.ref a0)] [] w = some (some (.int (-3)), w) := by
  refine Eq.trans (zd_bipush zh78 (v := (-3)) rfl rfl) ?_
  exact zd_iret zh78 rfl rfl
set_option maxRecDepth 20000 in
theorem b78_13 {scr : List Int32} {w : zAW} {a0 : Nat} {g1 : Nat} (h1 : zgf w a0 5 4 = some (.ref g1)) {g2 : Nat} (h2 : zgf w a0 5 0 = some (.ref g2)) (h3 : zob w g1 2 = true) {w1 : zAW} (h4 : zC scr 23 [.ref g1, .ref g2] w = some (none, w1)) {g3 : Nat} (h5 : zgf w1 a0 5 4 = some (.ref g3)) {f4 : Int32} (h6 : zgf w1 g3 2 1 = some (.int f4)) : zd scr 78 13 [some (.ref a0)] [] w = some (some (.int f4), w1) := by
  refine Eq.trans (zd_aload_n zh78 rfl rfl) ?_
  refine Eq.trans (zd_getfield zh78 (ci := 5) (k := 4) rfl h1 rfl) ?_
  refine Eq.trans (zd_aload_n zh78 rfl rfl) ?_
  refine Eq.trans (zd_getfield zh78 (ci := 5) (k := 0) rfl h2 rfl) ?_
  refine Eq.trans (zd_invVv zh78 zh23 rfl rfl ⟨Nat.le_of_ble_eq_true rfl, Nat.le_of_ble_eq_true rfl, Nat.le_of_ble_eq_true rfl, Nat.le_of_ble_eq_true rfl⟩ rfl h3 h4 rfl) ?_
  refine Eq.trans (zd_aload_n zh78 rfl rfl) ?_
  refine Eq.trans (zd_getfield zh78 (ci := 5) (k := 4) rfl h5 rfl) ?_
  refine Eq.trans (zd_getfield zh78 (ci := 2) (k := 1) rfl h6 rfl) ?_
  exact zd_iret zh78 rfl rfl
/-! yX5_restore: 80, MarbleHeirs.restore()I -/
theorem b80_0 {scr : List Int32} {w : zAW} {a0 : Nat} {f1 : Int32} (h1 : zgf w a0 5 3 = some (.int f1)) : zd scr 80 0 [some (.ref a0)] [] w = if f1 = 0 then zd scr 80 7 [some (.ref a0)] [] w else zd scr 80 10 [some (.ref a0)] [] w := by
  refine Eq.trans (zd_aload_n zh80 rfl rfl) ?_
  refine Eq.trans (zd_getfield zh80 (ci := 5) (k := 3) rfl h1 rfl) ?_
  exact zd_ifne zh80 (t := 10) (by decide) rfl
theorem b80_7 {scr : List Int32} {w : zAW} {a0 : Nat}  : zd scr 80 7 [some (.ref a0)] [] w = some (some (.int (-3)), w) := by
  refine Eq.trans (zd_bipush zh80 (v := (-3)) rfl rfl) ?_
  exact zd_iret zh80 rfl rfl
set_option maxRecDepth 20000 in
theorem b80_10 {scr : List Int32} {w : zAW} {a0 : Nat} {g1 : Nat} (h1 : zgf w a0 5 4 = some (.ref g1)) {g2 : Nat} (h2 : zgf w a0 5 0 = some (.ref g2)) (h3 : zob w g1 2 = true) {w1 : zAW} (h4 : zC scr 21 [.ref g1, .ref g2] w = some (none, w1)) {g3 : Nat} (h5 : zgf w1 a0 5 0 = some (.ref g3)) {g4 : Nat} (h6 : zgf w1 a0 5 2 = some (.ref g4)) (h7 : zob w1 g3 3 = true) {w2 : zAW} (h8 : zC scr 25 [.ref g3, .ref g4] w1 = some (none, w2)) {g5 : Nat} (h9 : zgf w2 a0 5 0 = some (.ref g5)) {f6 : Int32} (h10 : zgf w2 g5 3 1 = some (.int f6)) : zd scr 80 10 [some (.ref a0)] [] w = some (some (.int f6), w2) := by
  refine Eq.trans (zd_aload_n zh80 rfl rfl) ?_
  refine Eq.trans (zd_getfield zh80 (ci := 5) (k := 4) rfl h1 rfl) ?_
  refine Eq.trans (zd_aload_n zh80 rfl rfl) ?_
  refine Eq.trans (zd_getfield zh80 (ci := 5) (k := 0) rfl h2 rfl) ?_
  refine Eq.trans (zd_invVv zh80 zh21 rfl rfl ⟨Nat.le_of_ble_eq_true rfl, Nat.le_of_ble_eq_true rfl, Nat.le_of_ble_eq_true rfl, Nat.le_of_ble_eq_true rfl⟩ rfl h3 h4 rfl) ?_
  refine Eq.trans (zd_aload_n zh80 rfl rfl) ?_
  refine Eq.trans (zd_getfield zh80 (ci := 5) (k := 0) rfl h5 rfl) ?_
  refine Eq.trans (zd_aload_n zh80 rfl rfl) ?_
  refine Eq.trans (zd_getfield zh80 (ci := 5) (k := 2) rfl h6 rfl) ?_
  refine Eq.trans (zd_invVv zh80 zh25 rfl rfl ⟨Nat.le_of_ble_eq_true rfl, Nat.le_of_ble_eq_true rfl, Nat.le_of_ble_eq_true rfl, Nat.le_of_ble_eq_true rfl⟩ rfl h7 h8 rfl) ?_
  refine Eq.trans (zd_aload_n zh80 rfl rfl) ?_
  refine Eq.trans (zd_getfield zh80 (ci := 5) (k := 0) rfl h9 rfl) ?_
  refine Eq.trans (zd_getfield zh80 (ci := 3) (k := 1) rfl h10 rfl) ?_
  exact zd_iret zh80 rfl rfl
/-! yX5_isMother: 81, MarbleHeirs.isMother(I)Z -/
theorem b81_0 {scr : List Int32} {w : zAW} {x0 : Int32}  : zd scr 81 0 [some (.int x0)] [] w = if x0 < 0 then zd scr 81 13 [some (.int x0)] [] w else zd scr 81 4 [some (.int x0)] [] w := by
  refine Eq.trans (zd_iload_n zh81 rfl rfl) ?_
  exact zd_iflt zh81 (t := 13) (by decide) rfl
theorem b81_13 {scr : List Int32} {w : zAW} {x0 : Int32}  : zd scr 81 13 [some (.int x0)] [] w = some (some (.int (nI 0)), w) := by
  refine Eq.trans (zd_iconst zh81 (v := (nI 0)) rfl rfl) ?_
  exact zd_iret zh81 rfl rfl
theorem b81_4 {scr : List Int32} {w : zAW} {x0 : Int32}  : zd scr 81 4 [some (.int x0)] [] w = if x0 < (nI 4) then zd scr 81 9 [some (.int x0)] [] w else zd scr 81 13 [some (.int x0)] [] w := by
  refine Eq.trans (zd_iload_n zh81 rfl rfl) ?_
  refine Eq.trans (zd_iconst zh81 (v := (nI 4)) rfl rfl) ?_
  exact zd_icmpge zh81 (t := 13) (by decide) rfl
theorem b81_9 {scr : List Int32} {w : zAW} {x0 : Int32}  : zd scr 81 9 [some (.int x0)] [] w = some (some (.int (nI 1)), w) := by
  refine Eq.trans (zd_iconst zh81 (v := (nI 1)) rfl rfl) ?_
  refine Eq.trans (zd_goto zh81 (t := 14) (by decide) rfl) ?_
  exact zd_iret zh81 rfl rfl
/-! yX5_isColour: 82, MarbleHeirs.isColour(I)Z -/
theorem b82_0 {scr : List Int32} {w : zAW} {x0 : Int32}  : zd scr 82 0 [some (.int x0)] [] w = if x0 < 0 then zd scr 82 14 [some (.int x0)] [] w else zd scr 82 4 [some (.int x0)] [] w := by
  refine Eq.trans (zd_iload_n zh82 rfl rfl) ?_
  exact zd_iflt zh82 (t := 14) (by decide) rfl
theorem b82_14 {scr : List Int32} {w : zAW} {x0 : Int32}  : zd scr 82 14 [some (.int x0)] [] w = some (some (.int (nI 0)), w) := by
  refine Eq.trans (zd_iconst zh82 (v := (nI 0)) rfl rfl) ?_
  exact zd_iret zh82 rfl rfl
theorem b82_4 {scr : List Int32} {w : zAW} {x0 : Int32}  : zd scr 82 4 [some (.int x0)] [] w = if x0 < (nI 6) then zd scr 82 10 [some (.int x0)] [] w else zd scr 82 14 [some (.int x0)] [] w := by
  refine Eq.trans (zd_iload_n zh82 rfl rfl) ?_
  refine Eq.trans (zd_bipush zh82 (v := (nI 6)) rfl rfl) ?_
  exact zd_icmpge zh82 (t := 14) (by decide) rfl
theorem b82_10 {scr : List Int32} {w : zAW} {x0 : Int32}  : zd scr 82 10 [some (.int x0)] [] w = some (some (.int (nI 1)), w) := by
  refine Eq.trans (zd_iconst zh82 (v := (nI 1)) rfl rfl) ?_
  refine Eq.trans (zd_goto zh82 (t := 15) (by decide) rfl) ?_
  exact zd_iret zh82 rfl rfl
/-! yX5_moveBack: 83, MarbleHeirs.moveBack([III)V -/
theorem b83_0 {scr : List Int32} {w : zAW} {a0 : Nat} {x1 : Int32} {x2 : Int32} {f1 : Int32} (h1 : zal w a0 x1 = some f1) : zd scr 83 0 [some (.ref a0), some (.int x1), some (.int x2), none, none] [] w = zd scr 83 7 [some (.ref a0), some (.int x1), some (.int x2), some (.int f1), some (.int x1)] [] w := by
  refine Eq.trans (zd_aload_n zh83 rfl rfl) ?_
  refine Eq.trans (zd_iload_n zh83 rfl rfl) ?_
  refine Eq.trans (zd_iaload zh83 h1 rfl) ?_
  refine Eq.trans (zd_istore_n zh83 (ls' := [some (.ref a0), some (.int x1), some (.int x2), some (.int f1), none]) (Nat.le_of_ble_eq_true rfl) rfl rfl) ?_
  refine Eq.trans (zd_iload_n zh83 rfl rfl) ?_
  refine Eq.trans (zd_istore zh83 (ls' := [some (.ref a0), some (.int x1), some (.int x2), some (.int f1), some (.int x1)]) (Nat.le_of_ble_eq_true rfl) rfl rfl) ?_
  exact rfl
theorem b83_7 {scr : List Int32} {w : zAW} {a0 : Nat} {x1 : Int32} {x2 : Int32} {x3 : Int32} {x4 : Int32}  : zd scr 83 7 [some (.ref a0), some (.int x1), some (.int x2), some (.int x3), some (.int x4)] [] w = if x4 < x2 then zd scr 83 13 [some (.ref a0), some (.int x1), some (.int x2), some (.int x3), some (.int x4)] [] w else zd scr 83 29 [some (.ref a0), some (.int x1), some (.int x2), some (.int x3), some (.int x4)] [] w := by
  refine Eq.trans (zd_iload zh83 rfl rfl) ?_
  refine Eq.trans (zd_iload_n zh83 rfl rfl) ?_
  exact zd_icmpge zh83 (t := 29) (by decide) rfl
theorem b83_13 {scr : List Int32} {w : zAW} {a0 : Nat} {x1 : Int32} {x2 : Int32} {x3 : Int32} {x4 : Int32} {f1 : Int32} (h1 : zal w a0 (x4 + (nI 1)) = some f1) {w1 : zAW} (h2 : zas w a0 x4 f1 = some w1) : zd scr 83 13 [some (.ref a0), some (.int x1), some (.int x2), some (.int x3), some (.int x4)] [] w = zd scr 83 7 [some (.ref a0), some (.int x1), some (.int x2), some (.int x3), some (.int (x4 + (nI 1)))] [] w1 := by
  refine Eq.trans (zd_aload_n zh83 rfl rfl) ?_
  refine Eq.trans (zd_iload zh83 rfl rfl) ?_
  refine Eq.trans (zd_aload_n zh83 rfl rfl) ?_
  refine Eq.trans (zd_iload zh83 rfl rfl) ?_
  refine Eq.trans (zd_iconst zh83 (v := (nI 1)) rfl rfl) ?_
  refine Eq.trans (zd_iadd zh83 rfl) ?_
  refine Eq.trans (zd_iaload zh83 h1 rfl) ?_
  refine Eq.trans (zd_iastore zh83 h2 rfl) ?_
  refine Eq.trans (zd_iinc zh83 (ls' := [some (.ref a0), some (.int x1), some (.int x2), some (.int x3), some (.int (x4 + (nI 1)))]) (v := (x4 + (nI 1))) rfl rfl rfl rfl) ?_
  refine Eq.trans (zd_goto zh83 (t := 7) (by decide) rfl) ?_
  exact rfl
theorem b83_29 {scr : List Int32} {w : zAW} {a0 : Nat} {x1 : Int32} {x2 : Int32} {x3 : Int32} {x4 : Int32} {w1 : zAW} (h1 : zas w a0 x2 x3 = some w1) : zd scr 83 29 [some (.ref a0), some (.int x1), some (.int x2), some (.int x3), some (.int x4)] [] w = some (none, w1) := by
  refine Eq.trans (zd_aload_n zh83 rfl rfl) ?_
  refine Eq.trans (zd_iload_n zh83 rfl rfl) ?_
  refine Eq.trans (zd_iload_n zh83 rfl rfl) ?_
  refine Eq.trans (zd_iastore zh83 h1 rfl) ?_
  exact zd_vret zh83 rfl rfl
/-! yX5_swapError: 84, MarbleHeirs.swapError(IIII)I -/
set_option maxRecDepth 20000 in
theorem b84_0 {scr : List Int32} {w : zAW} {a0 : Nat} {x1 : Int32} {x2 : Int32} {x3 : Int32} {x4 : Int32} {g1 : Nat} (h1 : zgf w a0 5 0 = some (.ref g1)) (h2 : zob w g1 3 = true) {f2 : Int32} {w1 : zAW} (h3 : zC scr 27 [.ref g1, .int x1, .int x2] w = some (some (.int f2), w1)) : zd scr 84 0 [some (.ref a0), some (.int x1), some (.int x2), some (.int x3), some (.int x4)] [] w = if f2 = 0 then zd scr 84 25 [some (.ref a0), some (.int x1), some (.int x2), some (.int x3), some (.int x4)] [] w1 else zd scr 84 12 [some (.ref a0), some (.int x1), some (.int x2), some (.int x3), some (.int x4)] [] w1 := by
  refine Eq.trans (zd_aload_n zh84 rfl rfl) ?_
  refine Eq.trans (zd_getfield zh84 (ci := 5) (k := 0) rfl h1 rfl) ?_
  refine Eq.trans (zd_iload_n zh84 rfl rfl) ?_
  refine Eq.trans (zd_iload_n zh84 rfl rfl) ?_
  refine Eq.trans (zd_invVi zh84 zh27 rfl rfl ⟨Nat.le_of_ble_eq_true rfl, Nat.le_of_ble_eq_true rfl, Nat.le_of_ble_eq_true rfl, Nat.le_of_ble_eq_true rfl⟩ rfl h2 h3 rfl) ?_
  exact zd_ifeq zh84 (t := 25) (by decide) rfl
theorem b84_25 {scr : List Int32} {w : zAW} {a0 : Nat} {x1 : Int32} {x2 : Int32} {x3 : Int32} {x4 : Int32}  : zd scr 84 25 [some (.ref a0), some (.int x1), some (.int x2), some (.int x3), some (.int x4)] [] w = some (some (.int (-1)), w) := by
  refine Eq.trans (zd_iconst zh84 (v := (-1)) rfl rfl) ?_
  exact zd_iret zh84 rfl rfl
set_option maxRecDepth 20000 in
theorem b84_12 {scr : List Int32} {w : zAW} {a0 : Nat} {x1 : Int32} {x2 : Int32} {x3 : Int32} {x4 : Int32} {g1 : Nat} (h1 : zgf w a0 5 0 = some (.ref g1)) (h2 : zob w g1 3 = true) {f2 : Int32} {w1 : zAW} (h3 : zC scr 27 [.ref g1, .int x3, .int x4] w = some (some (.int f2), w1)) : zd scr 84 12 [some (.ref a0), some (.int x1), some (.int x2), some (.int x3), some (.int x4)] [] w = if f2 = 0 then zd scr 84 25 [some (.ref a0), some (.int x1), some (.int x2), some (.int x3), some (.int x4)] [] w1 else zd scr 84 27 [some (.ref a0), some (.int x1), some (.int x2), some (.int x3), some (.int x4)] [] w1 := by
  refine Eq.trans (zd_aload_n zh84 rfl rfl) ?_
  refine Eq.trans (zd_getfield zh84 (ci := 5) (k := 0) rfl h1 rfl) ?_
  refine Eq.trans (zd_iload_n zh84 rfl rfl) ?_
  refine Eq.trans (zd_iload zh84 rfl rfl) ?_
  refine Eq.trans (zd_invVi zh84 zh27 rfl rfl ⟨Nat.le_of_ble_eq_true rfl, Nat.le_of_ble_eq_true rfl, Nat.le_of_ble_eq_true rfl, Nat.le_of_ble_eq_true rfl⟩ rfl h2 h3 rfl) ?_
  exact zd_ifne zh84 (t := 27) (by decide) rfl
theorem b84_27 {scr : List Int32} {w : zAW} {a0 : Nat} {x1 : Int32} {x2 : Int32} {x3 : Int32} {x4 : Int32}  : zd scr 84 27 [some (.ref a0), some (.int x1), some (.int x2), some (.int x3), some (.int x4)] [] w = if x1 = x3 then zd scr 84 32 [some (.ref a0), some (.int x1), some (.int x2), some (.int x3), some (.int x4)] [] w else zd scr 84 37 [some (.ref a0), some (.int x1), some (.int x2), some (.int x3), some (.int x4)] [] w := by
  refine Eq.trans (zd_iload_n zh84 rfl rfl) ?_
  refine Eq.trans (zd_iload_n zh84 rfl rfl) ?_
  exact zd_icmpne zh84 (t := 37) (by decide) rfl
theorem b84_32 {scr : List Int32} {w : zAW} {a0 : Nat} {x1 : Int32} {x2 : Int32} {x3 : Int32} {x4 : Int32}  : zd scr 84 32 [some (.ref a0), some (.int x1), some (.int x2), some (.int x3), some (.int x4)] [] w = some (some (.int (-2)), w) := by
  refine Eq.trans (zd_bipush zh84 (v := (-2)) rfl rfl) ?_
  refine Eq.trans (zd_goto zh84 (t := 38) (by decide) rfl) ?_
  exact zd_iret zh84 rfl rfl
theorem b84_37 {scr : List Int32} {w : zAW} {a0 : Nat} {x1 : Int32} {x2 : Int32} {x3 : Int32} {x4 : Int32}  : zd scr 84 37 [some (.ref a0), some (.int x1), some (.int x2), some (.int x3), some (.int x4)] [] w = some (some (.int (nI 0)), w) := by
  refine Eq.trans (zd_iconst zh84 (v := (nI 0)) rfl rfl) ?_
  exact zd_iret zh84 rfl rfl
/-! yX5_spreadUnder: 85, MarbleHeirs.spreadUnder(I)I -/
set_option maxRecDepth 20000 in
theorem b85_0 {scr : List Int32} {w : zAW} {a0 : Nat} {x1 : Int32} {g1 : Nat} (h1 : zgf w a0 5 1 = some (.ref g1)) {g2 : Nat} (h2 : zgf w a0 5 0 = some (.ref g2)) (h3 : zob w g1 3 = true) {w1 : zAW} (h4 : zC scr 25 [.ref g1, .ref g2] w = some (none, w1)) {g3 : Nat} (h5 : zgf w1 a0 5 1 = some (.ref g3)) {w2 : zAW} (h6 : zpf w1 g3 3 6 (.int x1) = some w2) {g4 : Nat} (h7 : zgf w2 a0 5 1 = some (.ref g4)) (h8 : zob w2 g4 3 = true) {f5 : Int32} {w3 : zAW} (h9 : zC scr 31 [.ref g4] w2 = some (some (.int f5), w3)) {g6 : Nat} (h10 : zgf w3 a0 5 1 = some (.ref g6)) (h11 : zob w3 g6 3 = true) {f7 : Int32} {w4 : zAW} (h12 : zC scr 43 [.ref g6, .int (nI 3)] w3 = some (some (.int f7), w4)) : zd scr 85 0 [some (.ref a0), some (.int x1)] [] w = some (some (.int f7), w4) := by
  refine Eq.trans (zd_aload_n zh85 rfl rfl) ?_
  refine Eq.trans (zd_getfield zh85 (ci := 5) (k := 1) rfl h1 rfl) ?_
  refine Eq.trans (zd_aload_n zh85 rfl rfl) ?_
  refine Eq.trans (zd_getfield zh85 (ci := 5) (k := 0) rfl h2 rfl) ?_
  refine Eq.trans (zd_invVv zh85 zh25 rfl rfl ⟨Nat.le_of_ble_eq_true rfl, Nat.le_of_ble_eq_true rfl, Nat.le_of_ble_eq_true rfl, Nat.le_of_ble_eq_true rfl⟩ rfl h3 h4 rfl) ?_
  refine Eq.trans (zd_aload_n zh85 rfl rfl) ?_
  refine Eq.trans (zd_getfield zh85 (ci := 5) (k := 1) rfl h5 rfl) ?_
  refine Eq.trans (zd_iload_n zh85 rfl rfl) ?_
  refine Eq.trans (zd_putfield zh85 (ci := 3) (k := 6) rfl rfl h6 rfl) ?_
  refine Eq.trans (zd_aload_n zh85 rfl rfl) ?_
  refine Eq.trans (zd_getfield zh85 (ci := 5) (k := 1) rfl h7 rfl) ?_
  refine Eq.trans (zd_invVi zh85 zh31 rfl rfl ⟨Nat.le_of_ble_eq_true rfl, Nat.le_of_ble_eq_true rfl, Nat.le_of_ble_eq_true rfl, Nat.le_of_ble_eq_true rfl⟩ rfl h8 h9 rfl) ?_
  refine Eq.trans (zd_pop zh85 rfl) ?_
  refine Eq.trans (zd_aload_n zh85 rfl rfl) ?_
  refine Eq.trans (zd_getfield zh85 (ci := 5) (k := 1) rfl h10 rfl) ?_
  refine Eq.trans (zd_iconst zh85 (v := (nI 3)) rfl rfl) ?_
  refine Eq.trans (zd_invVi zh85 zh43 rfl rfl ⟨Nat.le_of_ble_eq_true rfl, Nat.le_of_ble_eq_true rfl, Nat.le_of_ble_eq_true rfl, Nat.le_of_ble_eq_true rfl⟩ rfl h11 h12 rfl) ?_
  exact zd_iret zh85 rfl rfl
/-! yL_low: 86, MarbleHeirsLaw.low(II)I -/
set_option maxRecDepth 20000 in
theorem b86_0 {scr : List Int32} {w : zAW} {x0 : Int32} {x1 : Int32} (h1 : ¬ x1 = 0) : zd scr 86 0 [some (.int x0), some (.int x1)] [] w = some (some (.int (zrem (x0 &&& (nI 2147483647)) x1)), w) := by
  refine Eq.trans (zd_iload_n zh86 rfl rfl) ?_
  refine Eq.trans (zd_ldc zh86 (n := 2147483647) (v := (nI 2147483647)) rfl rfl rfl) ?_
  refine Eq.trans (zd_iand zh86 rfl) ?_
  refine Eq.trans (zd_iload_n zh86 rfl rfl) ?_
  refine Eq.trans (zd_irem zh86 h1 rfl) ?_
  exact zd_iret zh86 rfl rfl
/-! yL_drops: 87, MarbleHeirsLaw.drops(LMarbleHeirs;II)Z -/
set_option maxRecDepth 20000 in
theorem b87_0 {scr : List Int32} {w : zAW} {a0 : Nat} {x1 : Int32} {x2 : Int32}  : zd scr 87 0 [some (.ref a0), some (.int x1), some (.int x2), none, none, none, none] [] w = zd scr 87 5 [some (.ref a0), some (.int x1), some (.int x2), some (.int (nI 1)), some (.int (nI 0)), none, none] [] w := by
  refine Eq.trans (zd_iconst zh87 (v := (nI 1)) rfl rfl) ?_
  refine Eq.trans (zd_istore_n zh87 (ls' := [some (.ref a0), some (.int x1), some (.int x2), some (.int (nI 1)), none, none, none]) (Nat.le_of_ble_eq_true rfl) rfl rfl) ?_
  refine Eq.trans (zd_iconst zh87 (v := (nI 0)) rfl rfl) ?_
  refine Eq.trans (zd_istore zh87 (ls' := [some (.ref a0), some (.int x1), some (.int x2), some (.int (nI 1)), some (.int (nI 0)), none, none]) (Nat.le_of_ble_eq_true rfl) rfl rfl) ?_
  exact rfl
set_option maxRecDepth 20000 in
theorem b87_5 {scr : List Int32} {w : zAW} {a0 : Nat} {x1 : Int32} {x2 : Int32} {x3 : Int32} {x4 : Int32} {v5 : Option Value} {v6 : Option Value}  : zd scr 87 5 [some (.ref a0), some (.int x1), some (.int x2), some (.int x3), some (.int x4), v5, v6] [] w = if x4 < (nI 4) then zd scr 87 11 [some (.ref a0), some (.int x1), some (.int x2), some (.int x3), some (.int x4), v5, v6] [] w else zd scr 87 155 [some (.ref a0), some (.int x1), some (.int x2), some (.int x3), some (.int x4), v5, v6] [] w := by
  refine Eq.trans (zd_iload zh87 rfl rfl) ?_
  refine Eq.trans (zd_iconst zh87 (v := (nI 4)) rfl rfl) ?_
  exact zd_icmpge zh87 (t := 155) (by decide) rfl
set_option maxRecDepth 20000 in
theorem b87_11 {scr : List Int32} {w : zAW} {a0 : Nat} {x1 : Int32} {x2 : Int32} {x3 : Int32} {x4 : Int32} {v5 : Option Value} {v6 : Option Value}  : zd scr 87 11 [some (.ref a0), some (.int x1), some (.int x2), some (.int x3), some (.int x4), v5, v6] [] w = if x3 = 0 then zd scr 87 155 [some (.ref a0), some (.int x1), some (.int x2), some (.int x3), some (.int x4), v5, v6] [] w else zd scr 87 15 [some (.ref a0), some (.int x1), some (.int x2), some (.int x3), some (.int x4), v5, v6] [] w := by
  refine Eq.trans (zd_iload_n zh87 rfl rfl) ?_
  exact zd_ifeq zh87 (t := 155) (by decide) rfl
set_option maxRecDepth 20000 in
theorem b87_155 {scr : List Int32} {w : zAW} {a0 : Nat} {x1 : Int32} {x2 : Int32} {x3 : Int32} {x4 : Int32} {v5 : Option Value} {v6 : Option Value} (h1 : zrok (some .boolean) x3 = true) : zd scr 87 155 [some (.ref a0), some (.int x1), some (.int x2), some (.int x3), some (.int x4), v5, v6] [] w = some (some (.int x3), w) := by
  refine Eq.trans (zd_iload_n zh87 rfl rfl) ?_
  exact zd_iret zh87 h1 rfl
set_option maxRecDepth 20000 in
theorem b87_15 {scr : List Int32} {w : zAW} {a0 : Nat} {x1 : Int32} {x2 : Int32} {x3 : Int32} {x4 : Int32} {v5 : Option Value} {v6 : Option Value} (h1 : zob w a0 5 = true) {f1 : Int32} {w1 : zAW} (h2 : zC scr 69 [.ref a0, .int (nI 1)] w = some (some (.int f1), w1)) : zd scr 87 15 [some (.ref a0), some (.int x1), some (.int x2), some (.int x3), some (.int x4), v5, v6] [] w = if f1 < (nI 40) then zd scr 87 29 [some (.ref a0), some (.int x1), some (.int x2), some (.int x3), some (.int x4), some (.int f1), v6] [] w1 else zd scr 87 46 [some (.ref a0), some (.int x1), some (.int x2), some (.int x3), some (.int x4), some (.int f1), v6] [] w1 := by
  refine Eq.trans (zd_aload_n zh87 rfl rfl) ?_
  refine Eq.trans (zd_iconst zh87 (v := (nI 1)) rfl rfl) ?_
  refine Eq.trans (zd_invVi zh87 zh69 rfl rfl ⟨Nat.le_of_ble_eq_true rfl, Nat.le_of_ble_eq_true rfl, Nat.le_of_ble_eq_true rfl, Nat.le_of_ble_eq_true rfl⟩ rfl h1 h2 rfl) ?_
  refine Eq.trans (zd_istore zh87 (ls' := [some (.ref a0), some (.int x1), some (.int x2), some (.int x3), some (.int x4), some (.int f1), v6]) (Nat.le_of_ble_eq_true rfl) rfl rfl) ?_
  refine Eq.trans (zd_iload zh87 rfl rfl) ?_
  refine Eq.trans (zd_bipush zh87 (v := (nI 40)) rfl rfl) ?_
  exact zd_icmpge zh87 (t := 46) (by decide) rfl
set_option maxRecDepth 20000 in
theorem b87_29 {scr : List Int32} {w : zAW} {a0 : Nat} {x1 : Int32} {x2 : Int32} {x3 : Int32} {x4 : Int32} {x5 : Int32} {v6 : Option Value} (h1 : zob w a0 5 = true) {f1 : Int32} {w1 : zAW} (h2 : zC scr 69 [.ref a0, .int (nI 2)] w = some (some (.int f1), w1)) : zd scr 87 29 [some (.ref a0), some (.int x1), some (.int x2), some (.int x3), some (.int x4), some (.int x5), v6] [] w = if (x5 + f1) < (nI 120) then zd scr 87 42 [some (.ref a0), some (.int x1), some (.int x2), some (.int x3), some (.int x4), some (.int x5), v6] [] w1 else zd scr 87 46 [some (.ref a0), some (.int x1), some (.int x2), some (.int x3), some (.int x4), some (.int x5), v6] [] w1 := by
  refine Eq.trans (zd_iload zh87 rfl rfl) ?_
  refine Eq.trans (zd_aload_n zh87 rfl rfl) ?_
  refine Eq.trans (zd_iconst zh87 (v := (nI 2)) rfl rfl) ?_
  refine Eq.trans (zd_invVi zh87 zh69 rfl rfl ⟨Nat.le_of_ble_eq_true rfl, Nat.le_of_ble_eq_true rfl, Nat.le_of_ble_eq_true rfl, Nat.le_of_ble_eq_true rfl⟩ rfl h1 h2 rfl) ?_
  refine Eq.trans (zd_iadd zh87 rfl) ?_
  refine Eq.trans (zd_bipush zh87 (v := (nI 120)) rfl rfl) ?_
  exact zd_icmpge zh87 (t := 46) (by decide) rfl
set_option maxRecDepth 20000 in
theorem b87_46 {scr : List Int32} {w : zAW} {a0 : Nat} {x1 : Int32} {x2 : Int32} {x3 : Int32} {x4 : Int32} {x5 : Int32} {v6 : Option Value} {f1 : Int32} {w1 : zAW} (h1 : zC scr 86 [.int (x1 >>> (((nI 3) * x4) &&& 31)), .int (nI 6)] w = some (some (.int f1), w1)) {f2 : Int32} {w2 : zAW} (h2 : zC scr 86 [.int (x2 >>> (((nI 4) * x4) &&& 31)), .int (nI 9)] w1 = some (some (.int f2), w2)) (h3 : zob w2 a0 5 = true) {f3 : Int32} {w3 : zAW} (h4 : zC scr 59 [.ref a0, .int f1, .int ((nI 1) + f2)] w2 = some (some (.int f3), w3)) : zd scr 87 46 [some (.ref a0), some (.int x1), some (.int x2), some (.int x3), some (.int x4), some (.int x5), v6] [] w = if (nI 0) = 0 then zd scr 87 89 [some (.ref a0), some (.int x1), some (.int x2), some (.int x3), some (.int x4), some (.int x5), some (.int (nI 0))] [.int f3] w3 else zd scr 87 82 [some (.ref a0), some (.int x1), some (.int x2), some (.int x3), some (.int x4), some (.int x5), some (.int (nI 0))] [.int f3] w3 := by
  refine Eq.trans (zd_iconst zh87 (v := (nI 0)) rfl rfl) ?_
  refine Eq.trans (zd_istore zh87 (ls' := [some (.ref a0), some (.int x1), some (.int x2), some (.int x3), some (.int x4), some (.int x5), some (.int (nI 0))]) (Nat.le_of_ble_eq_true rfl) rfl rfl) ?_
  refine Eq.trans (zd_aload_n zh87 rfl rfl) ?_
  refine Eq.trans (zd_iload_n zh87 rfl rfl) ?_
  refine Eq.trans (zd_iconst zh87 (v := (nI 3)) rfl rfl) ?_
  refine Eq.trans (zd_iload zh87 rfl rfl) ?_
  refine Eq.trans (zd_imul zh87 rfl) ?_
  refine Eq.trans (zd_ishr zh87 rfl) ?_
  refine Eq.trans (zd_bipush zh87 (v := (nI 6)) rfl rfl) ?_
  refine Eq.trans (zd_invSi zh87 zh86 rfl rfl ⟨Nat.le_of_ble_eq_true rfl, Nat.le_of_ble_eq_true rfl, Nat.le_of_ble_eq_true rfl, Or.inl (Nat.le_of_ble_eq_true rfl), Nat.le_of_ble_eq_true rfl⟩ rfl h1 rfl) ?_
  refine Eq.trans (zd_iconst zh87 (v := (nI 1)) rfl rfl) ?_
  refine Eq.trans (zd_iload_n zh87 rfl rfl) ?_
  refine Eq.trans (zd_iconst zh87 (v := (nI 4)) rfl rfl) ?_
  refine Eq.trans (zd_iload zh87 rfl rfl) ?_
  refine Eq.trans (zd_imul zh87 rfl) ?_
  refine Eq.trans (zd_ishr zh87 rfl) ?_
  refine Eq.trans (zd_bipush zh87 (v := (nI 9)) rfl rfl) ?_
  refine Eq.trans (zd_invSi zh87 zh86 rfl rfl ⟨Nat.le_of_ble_eq_true rfl, Nat.le_of_ble_eq_true rfl, Nat.le_of_ble_eq_true rfl, Or.inl (Nat.le_of_ble_eq_true rfl), Nat.le_of_ble_eq_true rfl⟩ rfl h2 rfl) ?_
  refine Eq.trans (zd_iadd zh87 rfl) ?_
  refine Eq.trans (zd_invVi zh87 zh59 rfl rfl ⟨Nat.le_of_ble_eq_true rfl, Nat.le_of_ble_eq_true rfl, Nat.le_of_ble_eq_true rfl, Nat.le_of_ble_eq_true rfl⟩ rfl h3 h4 rfl) ?_
  refine Eq.trans (zd_iload zh87 rfl rfl) ?_
  exact zd_ifeq zh87 (t := 89) (by decide) rfl
set_option maxRecDepth 20000 in
theorem b87_42 {scr : List Int32} {w : zAW} {a0 : Nat} {x1 : Int32} {x2 : Int32} {x3 : Int32} {x4 : Int32} {x5 : Int32} {v6 : Option Value} {f1 : Int32} {w1 : zAW} (h1 : zC scr 86 [.int (x1 >>> (((nI 3) * x4) &&& 31)), .int (nI 6)] w = some (some (.int f1), w1)) {f2 : Int32} {w2 : zAW} (h2 : zC scr 86 [.int (x2 >>> (((nI 4) * x4) &&& 31)), .int (nI 9)] w1 = some (some (.int f2), w2)) (h3 : zob w2 a0 5 = true) {f3 : Int32} {w3 : zAW} (h4 : zC scr 59 [.ref a0, .int f1, .int ((nI 1) + f2)] w2 = some (some (.int f3), w3)) : zd scr 87 42 [some (.ref a0), some (.int x1), some (.int x2), some (.int x3), some (.int x4), some (.int x5), v6] [] w = if (nI 1) = 0 then zd scr 87 89 [some (.ref a0), some (.int x1), some (.int x2), some (.int x3), some (.int x4), some (.int x5), some (.int (nI 1))] [.int f3] w3 else zd scr 87 82 [some (.ref a0), some (.int x1), some (.int x2), some (.int x3), some (.int x4), some (.int x5), some (.int (nI 1))] [.int f3] w3 := by
  refine Eq.trans (zd_iconst zh87 (v := (nI 1)) rfl rfl) ?_
  refine Eq.trans (zd_goto zh87 (t := 47) (by decide) rfl) ?_
  refine Eq.trans (zd_istore zh87 (ls' := [some (.ref a0), some (.int x1), some (.int x2), some (.int x3), some (.int x4), some (.int x5), some (.int (nI 1))]) (Nat.le_of_ble_eq_true rfl) rfl rfl) ?_
  refine Eq.trans (zd_aload_n zh87 rfl rfl) ?_
  refine Eq.trans (zd_iload_n zh87 rfl rfl) ?_
  refine Eq.trans (zd_iconst zh87 (v := (nI 3)) rfl rfl) ?_
  refine Eq.trans (zd_iload zh87 rfl rfl) ?_
  refine Eq.trans (zd_imul zh87 rfl) ?_
  refine Eq.trans (zd_ishr zh87 rfl) ?_
  refine Eq.trans (zd_bipush zh87 (v := (nI 6)) rfl rfl) ?_
  refine Eq.trans (zd_invSi zh87 zh86 rfl rfl ⟨Nat.le_of_ble_eq_true rfl, Nat.le_of_ble_eq_true rfl, Nat.le_of_ble_eq_true rfl, Or.inl (Nat.le_of_ble_eq_true rfl), Nat.le_of_ble_eq_true rfl⟩ rfl h1 rfl) ?_
  refine Eq.trans (zd_iconst zh87 (v := (nI 1)) rfl rfl) ?_
  refine Eq.trans (zd_iload_n zh87 rfl rfl) ?_
  refine Eq.trans (zd_iconst zh87 (v := (nI 4)) rfl rfl) ?_
  refine Eq.trans (zd_iload zh87 rfl rfl) ?_
  refine Eq.trans (zd_imul zh87 rfl) ?_
  refine Eq.trans (zd_ishr zh87 rfl) ?_
  refine Eq.trans (zd_bipush zh87 (v := (nI 9)) rfl rfl) ?_
  refine Eq.trans (zd_invSi zh87 zh86 rfl rfl ⟨Nat.le_of_ble_eq_true rfl, Nat.le_of_ble_eq_true rfl, Nat.le_of_ble_eq_true rfl, Or.inl (Nat.le_of_ble_eq_true rfl), Nat.le_of_ble_eq_true rfl⟩ rfl h2 rfl) ?_
  refine Eq.trans (zd_iadd zh87 rfl) ?_
  refine Eq.trans (zd_invVi zh87 zh59 rfl rfl ⟨Nat.le_of_ble_eq_true rfl, Nat.le_of_ble_eq_true rfl, Nat.le_of_ble_eq_true rfl, Nat.le_of_ble_eq_true rfl⟩ rfl h3 h4 rfl) ?_
  refine Eq.trans (zd_iload zh87 rfl rfl) ?_
  exact zd_ifeq zh87 (t := 89) (by decide) rfl
set_option maxRecDepth 20000 in
theorem b87_89 {scr : List Int32} {w : zAW} {a0 : Nat} {x1 : Int32} {x2 : Int32} {x3 : Int32} {x4 : Int32} {x5 : Int32} {x6 : Int32} {y0 : Int32}  : zd scr 87 89 [some (.ref a0), some (.int x1), some (.int x2), some (.int x3), some (.int x4), some (.int x5), some (.int x6)] [.int y0] w = if y0 = (-4) then zd scr 87 94 [some (.ref a0), some (.int x1), some (.int x2), some (.int x3), some (.int x4), some (.int x5), some (.int x6)] [] w else zd scr 87 147 [some (.ref a0), some (.int x1), some (.int x2), some (.int x3), some (.int x4), some (.int x5), some (.int x6)] [] w := by
  refine Eq.trans (zd_bipush zh87 (v := (-4)) rfl rfl) ?_
  exact zd_icmpne zh87 (t := 147) (by decide) rfl
set_option maxRecDepth 20000 in
theorem b87_82 {scr : List Int32} {w : zAW} {a0 : Nat} {x1 : Int32} {x2 : Int32} {x3 : Int32} {x4 : Int32} {x5 : Int32} {x6 : Int32} {y0 : Int32}  : zd scr 87 82 [some (.ref a0), some (.int x1), some (.int x2), some (.int x3), some (.int x4), some (.int x5), some (.int x6)] [.int y0] w = if y0 = (x5 + (nI 1)) then zd scr 87 94 [some (.ref a0), some (.int x1), some (.int x2), some (.int x3), some (.int x4), some (.int x5), some (.int x6)] [] w else zd scr 87 147 [some (.ref a0), some (.int x1), some (.int x2), some (.int x3), some (.int x4), some (.int x5), some (.int x6)] [] w := by
  refine Eq.trans (zd_iload zh87 rfl rfl) ?_
  refine Eq.trans (zd_iconst zh87 (v := (nI 1)) rfl rfl) ?_
  refine Eq.trans (zd_iadd zh87 rfl) ?_
  refine Eq.trans (zd_goto zh87 (t := 91) (by decide) rfl) ?_
  exact zd_icmpne zh87 (t := 147) (by decide) rfl
set_option maxRecDepth 20000 in
theorem b87_94 {scr : List Int32} {w : zAW} {a0 : Nat} {x1 : Int32} {x2 : Int32} {x3 : Int32} {x4 : Int32} {x5 : Int32} {x6 : Int32}  : zd scr 87 94 [some (.ref a0), some (.int x1), some (.int x2), some (.int x3), some (.int x4), some (.int x5), some (.int x6)] [] w = if x6 = 0 then zd scr 87 143 [some (.ref a0), some (.int x1), some (.int x2), some (.int x3), some (.int x4), some (.int x5), some (.int x6)] [] w else zd scr 87 99 [some (.ref a0), some (.int x1), some (.int x2), some (.int x3), some (.int x4), some (.int x5), some (.int x6)] [] w := by
  refine Eq.trans (zd_iload zh87 rfl rfl) ?_
  exact zd_ifeq zh87 (t := 143) (by decide) rfl
set_option maxRecDepth 20000 in
theorem b87_147 {scr : List Int32} {w : zAW} {a0 : Nat} {x1 : Int32} {x2 : Int32} {x3 : Int32} {x4 : Int32} {x5 : Int32} {x6 : Int32}  : zd scr 87 147 [some (.ref a0), some (.int x1), some (.int x2), some (.int x3), some (.int x4), some (.int x5), some (.int x6)] [] w = zd scr 87 5 [some (.ref a0), some (.int x1), some (.int x2), some (.int (nI 0)), some (.int (x4 + (nI 1))), some (.int x5), some (.int x6)] [] w := by
  refine Eq.trans (zd_iconst zh87 (v := (nI 0)) rfl rfl) ?_
  refine Eq.trans (zd_istore_n zh87 (ls' := [some (.ref a0), some (.int x1), some (.int x2), some (.int (nI 0)), some (.int x4), some (.int x5), some (.int x6)]) (Nat.le_of_ble_eq_true rfl) rfl rfl) ?_
  refine Eq.trans (zd_iinc zh87 (ls' := [some (.ref a0), some (.int x1), some (.int x2), some (.int (nI 0)), some (.int (x4 + (nI 1))), some (.int x5), some (.int x6)]) (v := (x4 + (nI 1))) rfl rfl rfl rfl) ?_
  refine Eq.trans (zd_goto zh87 (t := 5) (by decide) rfl) ?_
  exact rfl
set_option maxRecDepth 20000 in
theorem b87_143 {scr : List Int32} {w : zAW} {a0 : Nat} {x1 : Int32} {x2 : Int32} {x3 : Int32} {x4 : Int32} {x5 : Int32} {x6 : Int32}  : zd scr 87 143 [some (.ref a0), some (.int x1), some (.int x2), some (.int x3), some (.int x4), some (.int x5), some (.int x6)] [] w = zd scr 87 5 [some (.ref a0), some (.int x1), some (.int x2), some (.int (nI 1)), some (.int (x4 + (nI 1))), some (.int x5), some (.int x6)] [] w := by
  refine Eq.trans (zd_iconst zh87 (v := (nI 1)) rfl rfl) ?_
  refine Eq.trans (zd_goto zh87 (t := 148) (by decide) rfl) ?_
  refine Eq.trans (zd_istore_n zh87 (ls' := [some (.ref a0), some (.int x1), some (.int x2), some (.int (nI 1)), some (.int x4), some (.int x5), some (.int x6)]) (Nat.le_of_ble_eq_true rfl) rfl rfl) ?_
  refine Eq.trans (zd_iinc zh87 (ls' := [some (.ref a0), some (.int x1), some (.int x2), some (.int (nI 1)), some (.int (x4 + (nI 1))), some (.int x5), some (.int x6)]) (v := (x4 + (nI 1))) rfl rfl rfl rfl) ?_
  refine Eq.trans (zd_goto zh87 (t := 5) (by decide) rfl) ?_
  exact rfl
set_option maxRecDepth 20000 in
theorem b87_99 {scr : List Int32} {w : zAW} {a0 : Nat} {x1 : Int32} {x2 : Int32} {x3 : Int32} {x4 : Int32} {x5 : Int32} {x6 : Int32} (h1 : zob w a0 5 = true) {f1 : Int32} {w1 : zAW} (h2 : zC scr 66 [.ref a0, .int x5, .int (nI 0)] w = some (some (.int f1), w1)) {f2 : Int32} {w2 : zAW} (h3 : zC scr 86 [.int (x1 >>> (((nI 3) * x4) &&& 31)), .int (nI 6)] w1 = some (some (.int f2), w2)) : zd scr 87 99 [some (.ref a0), some (.int x1), some (.int x2), some (.int x3), some (.int x4), some (.int x5), some (.int x6)] [] w = if f1 = f2 then zd scr 87 120 [some (.ref a0), some (.int x1), some (.int x2), some (.int x3), some (.int x4), some (.int x5), some (.int x6)] [] w2 else zd scr 87 147 [some (.ref a0), some (.int x1), some (.int x2), some (.int x3), some (.int x4), some (.int x5), some (.int x6)] [] w2 := by
  refine Eq.trans (zd_aload_n zh87 rfl rfl) ?_
  refine Eq.trans (zd_iload zh87 rfl rfl) ?_
  refine Eq.trans (zd_iconst zh87 (v := (nI 0)) rfl rfl) ?_
  refine Eq.trans (zd_invVi zh87 zh66 rfl rfl ⟨Nat.le_of_ble_eq_true rfl, Nat.le_of_ble_eq_true rfl, Nat.le_of_ble_eq_true rfl, Nat.le_of_ble_eq_true rfl⟩ rfl h1 h2 rfl) ?_
  refine Eq.trans (zd_iload_n zh87 rfl rfl) ?_
  refine Eq.trans (zd_iconst zh87 (v := (nI 3)) rfl rfl) ?_
  refine Eq.trans (zd_iload zh87 rfl rfl) ?_
  refine Eq.trans (zd_imul zh87 rfl) ?_
  refine Eq.trans (zd_ishr zh87 rfl) ?_
  refine Eq.trans (zd_bipush zh87 (v := (nI 6)) rfl rfl) ?_
  refine Eq.trans (zd_invSi zh87 zh86 rfl rfl ⟨Nat.le_of_ble_eq_true rfl, Nat.le_of_ble_eq_true rfl, Nat.le_of_ble_eq_true rfl, Or.inl (Nat.le_of_ble_eq_true rfl), Nat.le_of_ble_eq_true rfl⟩ rfl h3 rfl) ?_
  exact zd_icmpne zh87 (t := 147) (by decide) rfl
set_option maxRecDepth 20000 in
theorem b87_120 {scr : List Int32} {w : zAW} {a0 : Nat} {x1 : Int32} {x2 : Int32} {x3 : Int32} {x4 : Int32} {x5 : Int32} {x6 : Int32} (h1 : zob w a0 5 = true) {f1 : Int32} {w1 : zAW} (h2 : zC scr 66 [.ref a0, .int x5, .int (nI 1)] w = some (some (.int f1), w1)) {f2 : Int32} {w2 : zAW} (h3 : zC scr 86 [.int (x2 >>> (((nI 4) * x4) &&& 31)), .int (nI 9)] w1 = some (some (.int f2), w2)) : zd scr 87 120 [some (.ref a0), some (.int x1), some (.int x2), some (.int x3), some (.int x4), some (.int x5), some (.int x6)] [] w = if f1 = ((nI 1) + f2) then zd scr 87 143 [some (.ref a0), some (.int x1), some (.int x2), some (.int x3), some (.int x4), some (.int x5), some (.int x6)] [] w2 else zd scr 87 147 [some (.ref a0), some (.int x1), some (.int x2), some (.int x3), some (.int x4), some (.int x5), some (.int x6)] [] w2 := by
  refine Eq.trans (zd_aload_n zh87 rfl rfl) ?_
  refine Eq.trans (zd_iload zh87 rfl rfl) ?_
  refine Eq.trans (zd_iconst zh87 (v := (nI 1)) rfl rfl) ?_
  refine Eq.trans (zd_invVi zh87 zh66 rfl rfl ⟨Nat.le_of_ble_eq_true rfl, Nat.le_of_ble_eq_true rfl, Nat.le_of_ble_eq_true rfl, Nat.le_of_ble_eq_true rfl⟩ rfl h1 h2 rfl) ?_
  refine Eq.trans (zd_iconst zh87 (v := (nI 1)) rfl rfl) ?_
  refine Eq.trans (zd_iload_n zh87 rfl rfl) ?_
  refine Eq.trans (zd_iconst zh87 (v := (nI 4)) rfl rfl) ?_
  refine Eq.trans (zd_iload zh87 rfl rfl) ?_
  refine Eq.trans (zd_imul zh87 rfl) ?_
  refine Eq.trans (zd_ishr zh87 rfl) ?_
  refine Eq.trans (zd_bipush zh87 (v := (nI 9)) rfl rfl) ?_
  refine Eq.trans (zd_invSi zh87 zh86 rfl rfl ⟨Nat.le_of_ble_eq_true rfl, Nat.le_of_ble_eq_true rfl, Nat.le_of_ble_eq_true rfl, Or.inl (Nat.le_of_ble_eq_true rfl), Nat.le_of_ble_eq_true rfl⟩ rfl h3 rfl) ?_
  refine Eq.trans (zd_iadd zh87 rfl) ?_
  exact zd_icmpne zh87 (t := 147) (by decide) rfl
/-! yL_rounds: 88, MarbleHeirsLaw.rounds(LMarbleHeirs;I)Z -/
set_option maxRecDepth 20000 in
theorem b88_0 {scr : List Int32} {w : zAW} {a0 : Nat} {x1 : Int32}  : zd scr 88 0 [some (.ref a0), some (.int x1), none, none, none, none, none, none, none, none, none] [] w = if x1 = 0 then zd scr 88 4 [some (.ref a0), some (.int x1), none, none, none, none, none, none, none, none, none] [] w else zd scr 88 19 [some (.ref a0), some (.int x1), none, none, none, none, none, none, none, none, none] [] w := by
  refine Eq.trans (zd_iload_n zh88 rfl rfl) ?_
  exact zd_ifne zh88 (t := 19) (by decide) rfl
set_option maxRecDepth 20000 in
theorem b88_4 {scr : List Int32} {w : zAW} {a0 : Nat} {x1 : Int32} (h1 : zob w a0 5 = true) {f1 : Int32} {w1 : zAW} (h2 : zC scr 60 [.ref a0] w = some (some (.int f1), w1)) : zd scr 88 4 [some (.ref a0), some (.int x1), none, none, none, none, none, none, none, none, none] [] w = if f1 = (-3) then zd scr 88 13 [some (.ref a0), some (.int x1), none, none, none, none, none, none, none, none, none] [] w1 else zd scr 88 17 [some (.ref a0), some (.int x1), none, none, none, none, none, none, none, none, none] [] w1 := by
  refine Eq.trans (zd_aload_n zh88 rfl rfl) ?_
  refine Eq.trans (zd_invVi zh88 zh60 rfl rfl ⟨Nat.le_of_ble_eq_true rfl, Nat.le_of_ble_eq_true rfl, Nat.le_of_ble_eq_true rfl, Nat.le_of_ble_eq_true rfl⟩ rfl h1 h2 rfl) ?_
  refine Eq.trans (zd_bipush zh88 (v := (-3)) rfl rfl) ?_
  exact zd_icmpne zh88 (t := 17) (by decide) rfl
set_option maxRecDepth 20000 in
theorem b88_19 {scr : List Int32} {w : zAW} {a0 : Nat} {x1 : Int32} (h1 : zob w a0 5 = true) {f1 : Int32} {w1 : zAW} (h2 : zC scr 69 [.ref a0, .int (nI 1)] w = some (some (.int f1), w1)) (h3 : zob w1 a0 5 = true) {f2 : Int32} {w2 : zAW} (h4 : zC scr 68 [.ref a0, .int (nI 0)] w1 = some (some (.int f2), w2)) (h5 : zob w2 a0 5 = true) {f3 : Int32} {w3 : zAW} (h6 : zC scr 68 [.ref a0, .int (x1 - (nI 1))] w2 = some (some (.int f3), w3)) (h7 : zob w3 a0 5 = true) {f4 : Int32} {w4 : zAW} (h8 : zC scr 69 [.ref a0, .int (nI 5)] w3 = some (some (.int f4), w4)) : zd scr 88 19 [some (.ref a0), some (.int x1), none, none, none, none, none, none, none, none, none] [] w = if f1 < x1 then zd scr 88 56 [some (.ref a0), some (.int x1), some (.int f1), some (.int f2), some (.int f3), some (.int f4), none, none, none, none, none] [] w4 else zd scr 88 52 [some (.ref a0), some (.int x1), some (.int f1), some (.int f2), some (.int f3), some (.int f4), none, none, none, none, none] [] w4 := by
  refine Eq.trans (zd_aload_n zh88 rfl rfl) ?_
  refine Eq.trans (zd_iconst zh88 (v := (nI 1)) rfl rfl) ?_
  refine Eq.trans (zd_invVi zh88 zh69 rfl rfl ⟨Nat.le_of_ble_eq_true rfl, Nat.le_of_ble_eq_true rfl, Nat.le_of_ble_eq_true rfl, Nat.le_of_ble_eq_true rfl⟩ rfl h1 h2 rfl) ?_
  refine Eq.trans (zd_istore_n zh88 (ls' := [some (.ref a0), some (.int x1), some (.int f1), none, none, none, none, none, none, none, none]) (Nat.le_of_ble_eq_true rfl) rfl rfl) ?_
  refine Eq.trans (zd_aload_n zh88 rfl rfl) ?_
  refine Eq.trans (zd_iconst zh88 (v := (nI 0)) rfl rfl) ?_
  refine Eq.trans (zd_invVi zh88 zh68 rfl rfl ⟨Nat.le_of_ble_eq_true rfl, Nat.le_of_ble_eq_true rfl, Nat.le_of_ble_eq_true rfl, Nat.le_of_ble_eq_true rfl⟩ rfl h3 h4 rfl) ?_
  refine Eq.trans (zd_istore_n zh88 (ls' := [some (.ref a0), some (.int x1), some (.int f1), some (.int f2), none, none, none, none, none, none, none]) (Nat.le_of_ble_eq_true rfl) rfl rfl) ?_
  refine Eq.trans (zd_aload_n zh88 rfl rfl) ?_
  refine Eq.trans (zd_iload_n zh88 rfl rfl) ?_
  refine Eq.trans (zd_iconst zh88 (v := (nI 1)) rfl rfl) ?_
  refine Eq.trans (zd_isub zh88 rfl) ?_
  refine Eq.trans (zd_invVi zh88 zh68 rfl rfl ⟨Nat.le_of_ble_eq_true rfl, Nat.le_of_ble_eq_true rfl, Nat.le_of_ble_eq_true rfl, Nat.le_of_ble_eq_true rfl⟩ rfl h5 h6 rfl) ?_
  refine Eq.trans (zd_istore zh88 (ls' := [some (.ref a0), some (.int x1), some (.int f1), some (.int f2), some (.int f3), none, none, none, none, none, none]) (Nat.le_of_ble_eq_true rfl) rfl rfl) ?_
  refine Eq.trans (zd_aload_n zh88 rfl rfl) ?_
  refine Eq.trans (zd_iconst zh88 (v := (nI 5)) rfl rfl) ?_
  refine Eq.trans (zd_invVi zh88 zh69 rfl rfl ⟨Nat.le_of_ble_eq_true rfl, Nat.le_of_ble_eq_true rfl, Nat.le_of_ble_eq_true rfl, Nat.le_of_ble_eq_true rfl⟩ rfl h7 h8 rfl) ?_
  refine Eq.trans (zd_istore zh88 (ls' := [some (.ref a0), some (.int x1), some (.int f1), some (.int f2), some (.int f3), some (.int f4), none, none, none, none, none]) (Nat.le_of_ble_eq_true rfl) rfl rfl) ?_
  refine Eq.trans (zd_iload_n zh88 rfl rfl) ?_
  refine Eq.trans (zd_iload_n zh88 rfl rfl) ?_
  exact zd_icmplt zh88 (t := 56) (by decide) rfl
set_option maxRecDepth 20000 in
theorem b88_13 {scr : List Int32} {w : zAW} {a0 : Nat} {x1 : Int32}  : zd scr 88 13 [some (.ref a0), some (.int x1), none, none, none, none, none, none, none, none, none] [] w = some (some (.int (nI 1)), w) := by
  refine Eq.trans (zd_iconst zh88 (v := (nI 1)) rfl rfl) ?_
  refine Eq.trans (zd_goto zh88 (t := 18) (by decide) rfl) ?_
  exact zd_iret zh88 rfl rfl
set_option maxRecDepth 20000 in
theorem b88_17 {scr : List Int32} {w : zAW} {a0 : Nat} {x1 : Int32}  : zd scr 88 17 [some (.ref a0), some (.int x1), none, none, none, none, none, none, none, none, none] [] w = some (some (.int (nI 0)), w) := by
  refine Eq.trans (zd_iconst zh88 (v := (nI 0)) rfl rfl) ?_
  exact zd_iret zh88 rfl rfl
set_option maxRecDepth 20000 in
theorem b88_56 {scr : List Int32} {w : zAW} {a0 : Nat} {x1 : Int32} {x2 : Int32} {x3 : Int32} {x4 : Int32} {x5 : Int32} (h1 : zob w a0 5 = true) {f1 : Int32} {w1 : zAW} (h2 : zC scr 69 [.ref a0, .int (nI 11)] w = some (some (.int f1), w1)) : zd scr 88 56 [some (.ref a0), some (.int x1), some (.int x2), some (.int x3), some (.int x4), some (.int x5), none, none, none, none, none] [] w = if f1 = (nI 2) then zd scr 88 66 [some (.ref a0), some (.int x1), some (.int x2), some (.int x3), some (.int x4), some (.int x5), none, none, none, none, none] [] w1 else zd scr 88 70 [some (.ref a0), some (.int x1), some (.int x2), some (.int x3), some (.int x4), some (.int x5), none, none, none, none, none] [] w1 := by
  refine Eq.trans (zd_aload_n zh88 rfl rfl) ?_
  refine Eq.trans (zd_bipush zh88 (v := (nI 11)) rfl rfl) ?_
  refine Eq.trans (zd_invVi zh88 zh69 rfl rfl ⟨Nat.le_of_ble_eq_true rfl, Nat.le_of_ble_eq_true rfl, Nat.le_of_ble_eq_true rfl, Nat.le_of_ble_eq_true rfl⟩ rfl h1 h2 rfl) ?_
  refine Eq.trans (zd_iconst zh88 (v := (nI 2)) rfl rfl) ?_
  exact zd_icmpne zh88 (t := 70) (by decide) rfl
set_option maxRecDepth 20000 in
theorem b88_52 {scr : List Int32} {w : zAW} {a0 : Nat} {x1 : Int32} {x2 : Int32} {x3 : Int32} {x4 : Int32} {x5 : Int32} (h1 : zob w a0 5 = true) {f1 : Int32} {w1 : zAW} (h2 : zC scr 66 [.ref a0, .int (nI 0), .int (nI 0)] w = some (some (.int f1), w1)) (h3 : zob w1 a0 5 = true) {f2 : Int32} {w2 : zAW} (h4 : zC scr 64 [.ref a0, .int x3, .int (nI 2)] w1 = some (some (.int f2), w2)) : zd scr 88 52 [some (.ref a0), some (.int x1), some (.int x2), some (.int x3), some (.int x4), some (.int x5), none, none, none, none, none] [] w = if x2 < x1 then zd scr 88 94 [some (.ref a0), some (.int x1), some (.int x2), some (.int x3), some (.int x4), some (.int x5), some (.int x1), some (.int f1), some (.int f2), none, none] [] w2 else zd scr 88 103 [some (.ref a0), some (.int x1), some (.int x2), some (.int x3), some (.int x4), some (.int x5), some (.int x1), some (.int f1), some (.int f2), none, none] [] w2 := by
  refine Eq.trans (zd_iload_n zh88 rfl rfl) ?_
  refine Eq.trans (zd_goto zh88 (t := 71) (by decide) rfl) ?_
  refine Eq.trans (zd_istore zh88 (ls' := [some (.ref a0), some (.int x1), some (.int x2), some (.int x3), some (.int x4), some (.int x5), some (.int x1), none, none, none, none]) (Nat.le_of_ble_eq_true rfl) rfl rfl) ?_
  refine Eq.trans (zd_aload_n zh88 rfl rfl) ?_
  refine Eq.trans (zd_iconst zh88 (v := (nI 0)) rfl rfl) ?_
  refine Eq.trans (zd_iconst zh88 (v := (nI 0)) rfl rfl) ?_
  refine Eq.trans (zd_invVi zh88 zh66 rfl rfl ⟨Nat.le_of_ble_eq_true rfl, Nat.le_of_ble_eq_true rfl, Nat.le_of_ble_eq_true rfl, Nat.le_of_ble_eq_true rfl⟩ rfl h1 h2 rfl) ?_
  refine Eq.trans (zd_istore zh88 (ls' := [some (.ref a0), some (.int x1), some (.int x2), some (.int x3), some (.int x4), some (.int x5), some (.int x1), some (.int f1), none, none, none]) (Nat.le_of_ble_eq_true rfl) rfl rfl) ?_
  refine Eq.trans (zd_aload_n zh88 rfl rfl) ?_
  refine Eq.trans (zd_iload_n zh88 rfl rfl) ?_
  refine Eq.trans (zd_iconst zh88 (v := (nI 2)) rfl rfl) ?_
  refine Eq.trans (zd_invVi zh88 zh64 rfl rfl ⟨Nat.le_of_ble_eq_true rfl, Nat.le_of_ble_eq_true rfl, Nat.le_of_ble_eq_true rfl, Nat.le_of_ble_eq_true rfl⟩ rfl h3 h4 rfl) ?_
  refine Eq.trans (zd_istore zh88 (ls' := [some (.ref a0), some (.int x1), some (.int x2), some (.int x3), some (.int x4), some (.int x5), some (.int x1), some (.int f1), some (.int f2), none, none]) (Nat.le_of_ble_eq_true rfl) rfl rfl) ?_
  refine Eq.trans (zd_iload_n zh88 rfl rfl) ?_
  refine Eq.trans (zd_iload_n zh88 rfl rfl) ?_
  exact zd_icmpge zh88 (t := 103) (by decide) rfl
set_option maxRecDepth 20000 in
theorem b88_66 {scr : List Int32} {w : zAW} {a0 : Nat} {x1 : Int32} {x2 : Int32} {x3 : Int32} {x4 : Int32} {x5 : Int32} (h1 : zob w a0 5 = true) {f1 : Int32} {w1 : zAW} (h2 : zC scr 66 [.ref a0, .int (nI 0), .int (nI 0)] w = some (some (.int f1), w1)) (h3 : zob w1 a0 5 = true) {f2 : Int32} {w2 : zAW} (h4 : zC scr 64 [.ref a0, .int x3, .int (nI 2)] w1 = some (some (.int f2), w2)) : zd scr 88 66 [some (.ref a0), some (.int x1), some (.int x2), some (.int x3), some (.int x4), some (.int x5), none, none, none, none, none] [] w = if x2 < x1 then zd scr 88 94 [some (.ref a0), some (.int x1), some (.int x2), some (.int x3), some (.int x4), some (.int x5), some (.int (nI 0)), some (.int f1), some (.int f2), none, none] [] w2 else zd scr 88 103 [some (.ref a0), some (.int x1), some (.int x2), some (.int x3), some (.int x4), some (.int x5), some (.int (nI 0)), some (.int f1), some (.int f2), none, none] [] w2 := by
  refine Eq.trans (zd_iconst zh88 (v := (nI 0)) rfl rfl) ?_
  refine Eq.trans (zd_goto zh88 (t := 71) (by decide) rfl) ?_
  refine Eq.trans (zd_istore zh88 (ls' := [some (.ref a0), some (.int x1), some (.int x2), some (.int x3), some (.int x4), some (.int x5), some (.int (nI 0)), none, none, none, none]) (Nat.le_of_ble_eq_true rfl) rfl rfl) ?_
  refine Eq.trans (zd_aload_n zh88 rfl rfl) ?_
  refine Eq.trans (zd_iconst zh88 (v := (nI 0)) rfl rfl) ?_
  refine Eq.trans (zd_iconst zh88 (v := (nI 0)) rfl rfl) ?_
  refine Eq.trans (zd_invVi zh88 zh66 rfl rfl ⟨Nat.le_of_ble_eq_true rfl, Nat.le_of_ble_eq_true rfl, Nat.le_of_ble_eq_true rfl, Nat.le_of_ble_eq_true rfl⟩ rfl h1 h2 rfl) ?_
  refine Eq.trans (zd_istore zh88 (ls' := [some (.ref a0), some (.int x1), some (.int x2), some (.int x3), some (.int x4), some (.int x5), some (.int (nI 0)), some (.int f1), none, none, none]) (Nat.le_of_ble_eq_true rfl) rfl rfl) ?_
  refine Eq.trans (zd_aload_n zh88 rfl rfl) ?_
  refine Eq.trans (zd_iload_n zh88 rfl rfl) ?_
  refine Eq.trans (zd_iconst zh88 (v := (nI 2)) rfl rfl) ?_
  refine Eq.trans (zd_invVi zh88 zh64 rfl rfl ⟨Nat.le_of_ble_eq_true rfl, Nat.le_of_ble_eq_true rfl, Nat.le_of_ble_eq_true rfl, Nat.le_of_ble_eq_true rfl⟩ rfl h3 h4 rfl) ?_
  refine Eq.trans (zd_istore zh88 (ls' := [some (.ref a0), some (.int x1), some (.int x2), some (.int x3), some (.int x4), some (.int x5), some (.int (nI 0)), some (.int f1), some (.int f2), none, none]) (Nat.le_of_ble_eq_true rfl) rfl rfl) ?_
  refine Eq.trans (zd_iload_n zh88 rfl rfl) ?_
  refine Eq.trans (zd_iload_n zh88 rfl rfl) ?_
  exact zd_icmpge zh88 (t := 103) (by decide) rfl
set_option maxRecDepth 20000 in
theorem b88_70 {scr : List Int32} {w : zAW} {a0 : Nat} {x1 : Int32} {x2 : Int32} {x3 : Int32} {x4 : Int32} {x5 : Int32} (h1 : zob w a0 5 = true) {f1 : Int32} {w1 : zAW} (h2 : zC scr 66 [.ref a0, .int (nI 0), .int (nI 0)] w = some (some (.int f1), w1)) (h3 : zob w1 a0 5 = true) {f2 : Int32} {w2 : zAW} (h4 : zC scr 64 [.ref a0, .int x3, .int (nI 2)] w1 = some (some (.int f2), w2)) : zd scr 88 70 [some (.ref a0), some (.int x1), some (.int x2), some (.int x3), some (.int x4), some (.int x5), none, none, none, none, none] [] w = if x2 < x1 then zd scr 88 94 [some (.ref a0), some (.int x1), some (.int x2), some (.int x3), some (.int x4), some (.int x5), some (.int x2), some (.int f1), some (.int f2), none, none] [] w2 else zd scr 88 103 [some (.ref a0), some (.int x1), some (.int x2), some (.int x3), some (.int x4), some (.int x5), some (.int x2), some (.int f1), some (.int f2), none, none] [] w2 := by
  refine Eq.trans (zd_iload_n zh88 rfl rfl) ?_
  refine Eq.trans (zd_istore zh88 (ls' := [some (.ref a0), some (.int x1), some (.int x2), some (.int x3), some (.int x4), some (.int x5), some (.int x2), none, none, none, none]) (Nat.le_of_ble_eq_true rfl) rfl rfl) ?_
  refine Eq.trans (zd_aload_n zh88 rfl rfl) ?_
  refine Eq.trans (zd_iconst zh88 (v := (nI 0)) rfl rfl) ?_
  refine Eq.trans (zd_iconst zh88 (v := (nI 0)) rfl rfl) ?_
  refine Eq.trans (zd_invVi zh88 zh66 rfl rfl ⟨Nat.le_of_ble_eq_true rfl, Nat.le_of_ble_eq_true rfl, Nat.le_of_ble_eq_true rfl, Nat.le_of_ble_eq_true rfl⟩ rfl h1 h2 rfl) ?_
  refine Eq.trans (zd_istore zh88 (ls' := [some (.ref a0), some (.int x1), some (.int x2), some (.int x3), some (.int x4), some (.int x5), some (.int x2), some (.int f1), none, none, none]) (Nat.le_of_ble_eq_true rfl) rfl rfl) ?_
  refine Eq.trans (zd_aload_n zh88 rfl rfl) ?_
  refine Eq.trans (zd_iload_n zh88 rfl rfl) ?_
  refine Eq.trans (zd_iconst zh88 (v := (nI 2)) rfl rfl) ?_
  refine Eq.trans (zd_invVi zh88 zh64 rfl rfl ⟨Nat.le_of_ble_eq_true rfl, Nat.le_of_ble_eq_true rfl, Nat.le_of_ble_eq_true rfl, Nat.le_of_ble_eq_true rfl⟩ rfl h3 h4 rfl) ?_
  refine Eq.trans (zd_istore zh88 (ls' := [some (.ref a0), some (.int x1), some (.int x2), some (.int x3), some (.int x4), some (.int x5), some (.int x2), some (.int f1), some (.int f2), none, none]) (Nat.le_of_ble_eq_true rfl) rfl rfl) ?_
  refine Eq.trans (zd_iload_n zh88 rfl rfl) ?_
  refine Eq.trans (zd_iload_n zh88 rfl rfl) ?_
  exact zd_icmpge zh88 (t := 103) (by decide) rfl
set_option maxRecDepth 20000 in
theorem b88_94 {scr : List Int32} {w : zAW} {a0 : Nat} {x1 : Int32} {x2 : Int32} {x3 : Int32} {x4 : Int32} {x5 : Int32} {x6 : Int32} {x7 : Int32} {x8 : Int32} (h1 : zob w a0 5 = true) {f1 : Int32} {w1 : zAW} (h2 : zC scr 69 [.ref a0, .int (nI 11)] w = some (some (.int f1), w1)) : zd scr 88 94 [some (.ref a0), some (.int x1), some (.int x2), some (.int x3), some (.int x4), some (.int x5), some (.int x6), some (.int x7), some (.int x8), none, none] [] w = if f1 = 0 then zd scr 88 103 [some (.ref a0), some (.int x1), some (.int x2), some (.int x3), some (.int x4), some (.int x5), some (.int x6), some (.int x7), some (.int x8), none, none] [] w1 else zd scr 88 107 [some (.ref a0), some (.int x1), some (.int x2), some (.int x3), some (.int x4), some (.int x5), some (.int x6), some (.int x7), some (.int x8), none, none] [] w1 := by
  refine Eq.trans (zd_aload_n zh88 rfl rfl) ?_
  refine Eq.trans (zd_bipush zh88 (v := (nI 11)) rfl rfl) ?_
  refine Eq.trans (zd_invVi zh88 zh69 rfl rfl ⟨Nat.le_of_ble_eq_true rfl, Nat.le_of_ble_eq_true rfl, Nat.le_of_ble_eq_true rfl, Nat.le_of_ble_eq_true rfl⟩ rfl h1 h2 rfl) ?_
  exact zd_ifne zh88 (t := 107) (by decide) rfl
set_option maxRecDepth 20000 in
theorem b88_103 {scr : List Int32} {w : zAW} {a0 : Nat} {x1 : Int32} {x2 : Int32} {x3 : Int32} {x4 : Int32} {x5 : Int32} {x6 : Int32} {x7 : Int32} {x8 : Int32} (h1 : zob w a0 5 = true) {f1 : Int32} {w1 : zAW} (h2 : zC scr 60 [.ref a0] w = some (some (.int f1), w1)) : zd scr 88 103 [some (.ref a0), some (.int x1), some (.int x2), some (.int x3), some (.int x4), some (.int x5), some (.int x6), some (.int x7), some (.int x8), none, none] [] w = if f1 = x6 then zd scr 88 119 [some (.ref a0), some (.int x1), some (.int x2), some (.int x3), some (.int x4), some (.int x5), some (.int x6), some (.int x7), some (.int x8), some (.int (nI 1)), none] [] w1 else zd scr 88 177 [some (.ref a0), some (.int x1), some (.int x2), some (.int x3), some (.int x4), some (.int x5), some (.int x6), some (.int x7), some (.int x8), some (.int (nI 1)), none] [] w1 := by
  refine Eq.trans (zd_iconst zh88 (v := (nI 1)) rfl rfl) ?_
  refine Eq.trans (zd_goto zh88 (t := 108) (by decide) rfl) ?_
  refine Eq.trans (zd_istore zh88 (ls' := [some (.ref a0), some (.int x1), some (.int x2), some (.int x3), some (.int x4), some (.int x5), some (.int x6), some (.int x7), some (.int x8), some (.int (nI 1)), none]) (Nat.le_of_ble_eq_true rfl) rfl rfl) ?_
  refine Eq.trans (zd_aload_n zh88 rfl rfl) ?_
  refine Eq.trans (zd_invVi zh88 zh60 rfl rfl ⟨Nat.le_of_ble_eq_true rfl, Nat.le_of_ble_eq_true rfl, Nat.le_of_ble_eq_true rfl, Nat.le_of_ble_eq_true rfl⟩ rfl h1 h2 rfl) ?_
  refine Eq.trans (zd_iload zh88 rfl rfl) ?_
  exact zd_icmpne zh88 (t := 177) (by decide) rfl
set_option maxRecDepth 20000 in
theorem b88_107 {scr : List Int32} {w : zAW} {a0 : Nat} {x1 : Int32} {x2 : Int32} {x3 : Int32} {x4 : Int32} {x5 : Int32} {x6 : Int32} {x7 : Int32} {x8 : Int32} (h1 : zob w a0 5 = true) {f1 : Int32} {w1 : zAW} (h2 : zC scr 60 [.ref a0] w = some (some (.int f1), w1)) : zd scr 88 107 [some (.ref a0), some (.int x1), some (.int x2), some (.int x3), some (.int x4), some (.int x5), some (.int x6), some (.int x7), some (.int x8), none, none] [] w = if f1 = x6 then zd scr 88 119 [some (.ref a0), some (.int x1), some (.int x2), some (.int x3), some (.int x4), some (.int x5), some (.int x6), some (.int x7), some (.int x8), some (.int (nI 0)), none] [] w1 else zd scr 88 177 [some (.ref a0), some (.int x1), some (.int x2), some (.int x3), some (.int x4), some (.int x5), some (.int x6), some (.int x7), some (.int x8), some (.int (nI 0)), none] [] w1 := by
  refine Eq.trans (zd_iconst zh88 (v := (nI 0)) rfl rfl) ?_
  refine Eq.trans (zd_istore zh88 (ls' := [some (.ref a0), some (.int x1), some (.int x2), some (.int x3), some (.int x4), some (.int x5), some (.int x6), some (.int x7), some (.int x8), some (.int (nI 0)), none]) (Nat.le_of_ble_eq_true rfl) rfl rfl) ?_
  refine Eq.trans (zd_aload_n zh88 rfl rfl) ?_
  refine Eq.trans (zd_invVi zh88 zh60 rfl rfl ⟨Nat.le_of_ble_eq_true rfl, Nat.le_of_ble_eq_true rfl, Nat.le_of_ble_eq_true rfl, Nat.le_of_ble_eq_true rfl⟩ rfl h1 h2 rfl) ?_
  refine Eq.trans (zd_iload zh88 rfl rfl) ?_
  exact zd_icmpne zh88 (t := 177) (by decide) rfl
set_option maxRecDepth 20000 in
theorem b88_119 {scr : List Int32} {w : zAW} {a0 : Nat} {x1 : Int32} {x2 : Int32} {x3 : Int32} {x4 : Int32} {x5 : Int32} {x6 : Int32} {x7 : Int32} {x8 : Int32} {x9 : Int32} (h1 : zob w a0 5 = true) {f1 : Int32} {w1 : zAW} (h2 : zC scr 69 [.ref a0, .int (nI 1)] w = some (some (.int f1), w1)) : zd scr 88 119 [some (.ref a0), some (.int x1), some (.int x2), some (.int x3), some (.int x4), some (.int x5), some (.int x6), some (.int x7), some (.int x8), some (.int x9), none] [] w = if f1 = (x2 - x6) then zd scr 88 131 [some (.ref a0), some (.int x1), some (.int x2), some (.int x3), some (.int x4), some (.int x5), some (.int x6), some (.int x7), some (.int x8), some (.int x9), none] [] w1 else zd scr 88 177 [some (.ref a0), some (.int x1), some (.int x2), some (.int x3), some (.int x4), some (.int x5), some (.int x6), some (.int x7), some (.int x8), some (.int x9), none] [] w1 := by
  refine Eq.trans (zd_aload_n zh88 rfl rfl) ?_
  refine Eq.trans (zd_iconst zh88 (v := (nI 1)) rfl rfl) ?_
  refine Eq.trans (zd_invVi zh88 zh69 rfl rfl ⟨Nat.le_of_ble_eq_true rfl, Nat.le_of_ble_eq_true rfl, Nat.le_of_ble_eq_true rfl, Nat.le_of_ble_eq_true rfl⟩ rfl h1 h2 rfl) ?_
  refine Eq.trans (zd_iload_n zh88 rfl rfl) ?_
  refine Eq.trans (zd_iload zh88 rfl rfl) ?_
  refine Eq.trans (zd_isub zh88 rfl) ?_
  exact zd_icmpne zh88 (t := 177) (by decide) rfl
set_option maxRecDepth 20000 in
theorem b88_177 {scr : List Int32} {w : zAW} {a0 : Nat} {x1 : Int32} {x2 : Int32} {x3 : Int32} {x4 : Int32} {x5 : Int32} {x6 : Int32} {x7 : Int32} {x8 : Int32} {x9 : Int32}  : zd scr 88 177 [some (.ref a0), some (.int x1), some (.int x2), some (.int x3), some (.int x4), some (.int x5), some (.int x6), some (.int x7), some (.int x8), some (.int x9), none] [] w = if (nI 0) = 0 then zd scr 88 212 [some (.ref a0), some (.int x1), some (.int x2), some (.int x3), some (.int x4), some (.int x5), some (.int x6), some (.int x7), some (.int x8), some (.int x9), some (.int (nI 0))] [] w else zd scr 88 185 [some (.ref a0), some (.int x1), some (.int x2), some (.int x3), some (.int x4), some (.int x5), some (.int x6), some (.int x7), some (.int x8), some (.int x9), some (.int (nI 0))] [] w := by
  refine Eq.trans (zd_iconst zh88 (v := (nI 0)) rfl rfl) ?_
  refine Eq.trans (zd_istore zh88 (ls' := [some (.ref a0), some (.int x1), some (.int x2), some (.int x3), some (.int x4), some (.int x5), some (.int x6), some (.int x7), some (.int x8), some (.int x9), some (.int (nI 0))]) (Nat.le_of_ble_eq_true rfl) rfl rfl) ?_
  refine Eq.trans (zd_iload zh88 rfl rfl) ?_
  exact zd_ifeq zh88 (t := 212) (by decide) rfl
set_option maxRecDepth 20000 in
theorem b88_131 {scr : List Int32} {w : zAW} {a0 : Nat} {x1 : Int32} {x2 : Int32} {x3 : Int32} {x4 : Int32} {x5 : Int32} {x6 : Int32} {x7 : Int32} {x8 : Int32} {x9 : Int32} (h1 : zob w a0 5 = true) {f1 : Int32} {w1 : zAW} (h2 : zC scr 69 [.ref a0, .int (nI 5)] w = some (some (.int f1), w1)) : zd scr 88 131 [some (.ref a0), some (.int x1), some (.int x2), some (.int x3), some (.int x4), some (.int x5), some (.int x6), some (.int x7), some (.int x8), some (.int x9), none] [] w = if 0 < x6 then zd scr 88 143 [some (.ref a0), some (.int x1), some (.int x2), some (.int x3), some (.int x4), some (.int x5), some (.int x6), some (.int x7), some (.int x8), some (.int x9), none] [.int x5, .int f1] w1 else zd scr 88 147 [some (.ref a0), some (.int x1), some (.int x2), some (.int x3), some (.int x4), some (.int x5), some (.int x6), some (.int x7), some (.int x8), some (.int x9), none] [.int x5, .int f1] w1 := by
  refine Eq.trans (zd_aload_n zh88 rfl rfl) ?_
  refine Eq.trans (zd_iconst zh88 (v := (nI 5)) rfl rfl) ?_
  refine Eq.trans (zd_invVi zh88 zh69 rfl rfl ⟨Nat.le_of_ble_eq_true rfl, Nat.le_of_ble_eq_true rfl, Nat.le_of_ble_eq_true rfl, Nat.le_of_ble_eq_true rfl⟩ rfl h1 h2 rfl) ?_
  refine Eq.trans (zd_iload zh88 rfl rfl) ?_
  refine Eq.trans (zd_iload zh88 rfl rfl) ?_
  exact zd_ifle zh88 (t := 147) (by decide) rfl
set_option maxRecDepth 20000 in
theorem b88_212 {scr : List Int32} {w : zAW} {a0 : Nat} {x1 : Int32} {x2 : Int32} {x3 : Int32} {x4 : Int32} {x5 : Int32} {x6 : Int32} {x7 : Int32} {x8 : Int32} {x9 : Int32} {x10 : Int32}  : zd scr 88 212 [some (.ref a0), some (.int x1), some (.int x2), some (.int x3), some (.int x4), some (.int x5), some (.int x6), some (.int x7), some (.int x8), some (.int x9), some (.int x10)] [] w = some (some (.int (nI 0)), w) := by
  refine Eq.trans (zd_iconst zh88 (v := (nI 0)) rfl rfl) ?_
  exact zd_iret zh88 rfl rfl
set_option maxRecDepth 20000 in
theorem b88_185 {scr : List Int32} {w : zAW} {a0 : Nat} {x1 : Int32} {x2 : Int32} {x3 : Int32} {x4 : Int32} {x5 : Int32} {x6 : Int32} {x7 : Int32} {x8 : Int32} {x9 : Int32} {x10 : Int32}  : zd scr 88 185 [some (.ref a0), some (.int x1), some (.int x2), some (.int x3), some (.int x4), some (.int x5), some (.int x6), some (.int x7), some (.int x8), some (.int x9), some (.int x10)] [] w = if x6 = 0 then zd scr 88 208 [some (.ref a0), some (.int x1), some (.int x2), some (.int x3), some (.int x4), some (.int x5), some (.int x6), some (.int x7), some (.int x8), some (.int x9), some (.int x10)] [] w else zd scr 88 190 [some (.ref a0), some (.int x1), some (.int x2), some (.int x3), some (.int x4), some (.int x5), some (.int x6), some (.int x7), some (.int x8), some (.int x9), some (.int x10)] [] w := by
  refine Eq.trans (zd_iload zh88 rfl rfl) ?_
  exact zd_ifeq zh88 (t := 208) (by decide) rfl
set_option maxRecDepth 20000 in
theorem b88_143 {scr : List Int32} {w : zAW} {a0 : Nat} {x1 : Int32} {x2 : Int32} {x3 : Int32} {x4 : Int32} {x5 : Int32} {x6 : Int32} {x7 : Int32} {x8 : Int32} {x9 : Int32} {y0 : Int32} {y1 : Int32}  : zd scr 88 143 [some (.ref a0), some (.int x1), some (.int x2), some (.int x3), some (.int x4), some (.int x5), some (.int x6), some (.int x7), some (.int x8), some (.int x9), none] [.int y1, .int y0] w = if y0 = (y1 + (nI 1)) then zd scr 88 152 [some (.ref a0), some (.int x1), some (.int x2), some (.int x3), some (.int x4), some (.int x5), some (.int x6), some (.int x7), some (.int x8), some (.int x9), none] [] w else zd scr 88 177 [some (.ref a0), some (.int x1), some (.int x2), some (.int x3), some (.int x4), some (.int x5), some (.int x6), some (.int x7), some (.int x8), some (.int x9), none] [] w := by
  refine Eq.trans (zd_iconst zh88 (v := (nI 1)) rfl rfl) ?_
  refine Eq.trans (zd_goto zh88 (t := 148) (by decide) rfl) ?_
  refine Eq.trans (zd_iadd zh88 rfl) ?_
  exact zd_icmpne zh88 (t := 177) (by decide) rfl
set_option maxRecDepth 20000 in
theorem b88_147 {scr : List Int32} {w : zAW} {a0 : Nat} {x1 : Int32} {x2 : Int32} {x3 : Int32} {x4 : Int32} {x5 : Int32} {x6 : Int32} {x7 : Int32} {x8 : Int32} {x9 : Int32} {y0 : Int32} {y1 : Int32}  : zd scr 88 147 [some (.ref a0), some (.int x1), some (.int x2), some (.int x3), some (.int x4), some (.int x5), some (.int x6), some (.int x7), some (.int x8), some (.int x9), none] [.int y1, .int y0] w = if y0 = (y1 + (nI 0)) then zd scr 88 152 [some (.ref a0), some (.int x1), some (.int x2), some (.int x3), some (.int x4), some (.int x5), some (.int x6), some (.int x7), some (.int x8), some (.int x9), none] [] w else zd scr 88 177 [some (.ref a0), some (.int x1), some (.int x2), some (.int x3), some (.int x4), some (.int x5), some (.int x6), some (.int x7), some (.int x8), some (.int x9), none] [] w := by
  refine Eq.trans (zd_iconst zh88 (v := (nI 0)) rfl rfl) ?_
  refine Eq.trans (zd_iadd zh88 rfl) ?_
  exact zd_icmpne zh88 (t := 177) (by decide) rfl
set_option maxRecDepth 20000 in
theorem b88_208 {scr : List Int32} {w : zAW} {a0 : Nat} {x1 : Int32} {x2 : Int32} {x3 : Int32} {x4 : Int32} {x5 : Int32} {x6 : Int32} {x7 : Int32} {x8 : Int32} {x9 : Int32} {x10 : Int32}  : zd scr 88 208 [some (.ref a0), some (.int x1), some (.int x2), some (.int x3), some (.int x4), some (.int x5), some (.int x6), some (.int x7), some (.int x8), some (.int x9), some (.int x10)] [] w = some (some (.int (nI 1)), w) := by
  refine Eq.trans (zd_iconst zh88 (v := (nI 1)) rfl rfl) ?_
  refine Eq.trans (zd_goto zh88 (t := 213) (by decide) rfl) ?_
  exact zd_iret zh88 rfl rfl
set_option maxRecDepth 20000 in
theorem b88_190 {scr : List Int32} {w : zAW} {a0 : Nat} {x1 : Int32} {x2 : Int32} {x3 : Int32} {x4 : Int32} {x5 : Int32} {x6 : Int32} {x7 : Int32} {x8 : Int32} {x9 : Int32} {x10 : Int32}  : zd scr 88 190 [some (.ref a0), some (.int x1), some (.int x2), some (.int x3), some (.int x4), some (.int x5), some (.int x6), some (.int x7), some (.int x8), some (.int x9), some (.int x10)] [] w = if x9 = 0 then zd scr 88 208 [some (.ref a0), some (.int x1), some (.int x2), some (.int x3), some (.int x4), some (.int x5), some (.int x6), some (.int x7), some (.int x8), some (.int x9), some (.int x10)] [] w else zd scr 88 195 [some (.ref a0), some (.int x1), some (.int x2), some (.int x3), some (.int x4), some (.int x5), some (.int x6), some (.int x7), some (.int x8), some (.int x9), some (.int x10)] [] w := by
  refine Eq.trans (zd_iload zh88 rfl rfl) ?_
  exact zd_ifeq zh88 (t := 208) (by decide) rfl
set_option maxRecDepth 20000 in
theorem b88_152 {scr : List Int32} {w : zAW} {a0 : Nat} {x1 : Int32} {x2 : Int32} {x3 : Int32} {x4 : Int32} {x5 : Int32} {x6 : Int32} {x7 : Int32} {x8 : Int32} {x9 : Int32} (h1 : zob w a0 5 = true) {f1 : Int32} {w1 : zAW} (h2 : zC scr 68 [.ref a0, .int (x1 - (nI 1))] w = some (some (.int f1), w1)) : zd scr 88 152 [some (.ref a0), some (.int x1), some (.int x2), some (.int x3), some (.int x4), some (.int x5), some (.int x6), some (.int x7), some (.int x8), some (.int x9), none] [] w = if 0 < x6 then zd scr 88 164 [some (.ref a0), some (.int x1), some (.int x2), some (.int x3), some (.int x4), some (.int x5), some (.int x6), some (.int x7), some (.int x8), some (.int x9), none] [.int f1] w1 else zd scr 88 168 [some (.ref a0), some (.int x1), some (.int x2), some (.int x3), some (.int x4), some (.int x5), some (.int x6), some (.int x7), some (.int x8), some (.int x9), none] [.int f1] w1 := by
  refine Eq.trans (zd_aload_n zh88 rfl rfl) ?_
  refine Eq.trans (zd_iload_n zh88 rfl rfl) ?_
  refine Eq.trans (zd_iconst zh88 (v := (nI 1)) rfl rfl) ?_
  refine Eq.trans (zd_isub zh88 rfl) ?_
  refine Eq.trans (zd_invVi zh88 zh68 rfl rfl ⟨Nat.le_of_ble_eq_true rfl, Nat.le_of_ble_eq_true rfl, Nat.le_of_ble_eq_true rfl, Nat.le_of_ble_eq_true rfl⟩ rfl h1 h2 rfl) ?_
  refine Eq.trans (zd_iload zh88 rfl rfl) ?_
  exact zd_ifle zh88 (t := 168) (by decide) rfl
set_option maxRecDepth 20000 in
theorem b88_195 {scr : List Int32} {w : zAW} {a0 : Nat} {x1 : Int32} {x2 : Int32} {x3 : Int32} {x4 : Int32} {x5 : Int32} {x6 : Int32} {x7 : Int32} {x8 : Int32} {x9 : Int32} {x10 : Int32} (h1 : zob w a0 5 = true) {f1 : Int32} {w1 : zAW} (h2 : zC scr 65 [.ref a0, .int x3, .int x8, .int (nI 0)] w = some (some (.int f1), w1)) : zd scr 88 195 [some (.ref a0), some (.int x1), some (.int x2), some (.int x3), some (.int x4), some (.int x5), some (.int x6), some (.int x7), some (.int x8), some (.int x9), some (.int x10)] [] w = if f1 = x7 then zd scr 88 208 [some (.ref a0), some (.int x1), some (.int x2), some (.int x3), some (.int x4), some (.int x5), some (.int x6), some (.int x7), some (.int x8), some (.int x9), some (.int x10)] [] w1 else zd scr 88 212 [some (.ref a0), some (.int x1), some (.int x2), some (.int x3), some (.int x4), some (.int x5), some (.int x6), some (.int x7), some (.int x8), some (.int x9), some (.int x10)] [] w1 := by
  refine Eq.trans (zd_aload_n zh88 rfl rfl) ?_
  refine Eq.trans (zd_iload_n zh88 rfl rfl) ?_
  refine Eq.trans (zd_iload zh88 rfl rfl) ?_
  refine Eq.trans (zd_iconst zh88 (v := (nI 0)) rfl rfl) ?_
  refine Eq.trans (zd_invVi zh88 zh65 rfl rfl ⟨Nat.le_of_ble_eq_true rfl, Nat.le_of_ble_eq_true rfl, Nat.le_of_ble_eq_true rfl, Nat.le_of_ble_eq_true rfl⟩ rfl h1 h2 rfl) ?_
  refine Eq.trans (zd_iload zh88 rfl rfl) ?_
  exact zd_icmpne zh88 (t := 212) (by decide) rfl
set_option maxRecDepth 20000 in
theorem b88_164 {scr : List Int32} {w : zAW} {a0 : Nat} {x1 : Int32} {x2 : Int32} {x3 : Int32} {x4 : Int32} {x5 : Int32} {x6 : Int32} {x7 : Int32} {x8 : Int32} {x9 : Int32} {y0 : Int32}  : zd scr 88 164 [some (.ref a0), some (.int x1), some (.int x2), some (.int x3), some (.int x4), some (.int x5), some (.int x6), some (.int x7), some (.int x8), some (.int x9), none] [.int y0] w = if y0 = x3 then zd scr 88 173 [some (.ref a0), some (.int x1), some (.int x2), some (.int x3), some (.int x4), some (.int x5), some (.int x6), some (.int x7), some (.int x8), some (.int x9), none] [] w else zd scr 88 177 [some (.ref a0), some (.int x1), some (.int x2), some (.int x3), some (.int x4), some (.int x5), some (.int x6), some (.int x7), some (.int x8), some (.int x9), none] [] w := by
  refine Eq.trans (zd_iload_n zh88 rfl rfl) ?_
  refine Eq.trans (zd_goto zh88 (t := 170) (by decide) rfl) ?_
  exact zd_icmpne zh88 (t := 177) (by decide) rfl
set_option maxRecDepth 20000 in
theorem b88_168 {scr : List Int32} {w : zAW} {a0 : Nat} {x1 : Int32} {x2 : Int32} {x3 : Int32} {x4 : Int32} {x5 : Int32} {x6 : Int32} {x7 : Int32} {x8 : Int32} {x9 : Int32} {y0 : Int32}  : zd scr 88 168 [some (.ref a0), some (.int x1), some (.int x2), some (.int x3), some (.int x4), some (.int x5), some (.int x6), some (.int x7), some (.int x8), some (.int x9), none] [.int y0] w = if y0 = x4 then zd scr 88 173 [some (.ref a0), some (.int x1), some (.int x2), some (.int x3), some (.int x4), some (.int x5), some (.int x6), some (.int x7), some (.int x8), some (.int x9), none] [] w else zd scr 88 177 [some (.ref a0), some (.int x1), some (.int x2), some (.int x3), some (.int x4), some (.int x5), some (.int x6), some (.int x7), some (.int x8), some (.int x9), none] [] w := by
  refine Eq.trans (zd_iload zh88 rfl rfl) ?_
  exact zd_icmpne zh88 (t := 177) (by decide) rfl
set_option maxRecDepth 20000 in
theorem b88_173 {scr : List Int32} {w : zAW} {a0 : Nat} {x1 : Int32} {x2 : Int32} {x3 : Int32} {x4 : Int32} {x5 : Int32} {x6 : Int32} {x7 : Int32} {x8 : Int32} {x9 : Int32}  : zd scr 88 173 [some (.ref a0), some (.int x1), some (.int x2), some (.int x3), some (.int x4), some (.int x5), some (.int x6), some (.int x7), some (.int x8), some (.int x9), none] [] w = if (nI 1) = 0 then zd scr 88 212 [some (.ref a0), some (.int x1), some (.int x2), some (.int x3), some (.int x4), some (.int x5), some (.int x6), some (.int x7), some (.int x8), some (.int x9), some (.int (nI 1))] [] w else zd scr 88 185 [some (.ref a0), some (.int x1), some (.int x2), some (.int x3), some (.int x4), some (.int x5), some (.int x6), some (.int x7), some (.int x8), some (.int x9), some (.int (nI 1))] [] w := by
  refine Eq.trans (zd_iconst zh88 (v := (nI 1)) rfl rfl) ?_
  refine Eq.trans (zd_goto zh88 (t := 178) (by decide) rfl) ?_
  refine Eq.trans (zd_istore zh88 (ls' := [some (.ref a0), some (.int x1), some (.int x2), some (.int x3), some (.int x4), some (.int x5), some (.int x6), some (.int x7), some (.int x8), some (.int x9), some (.int (nI 1))]) (Nat.le_of_ble_eq_true rfl) rfl rfl) ?_
  refine Eq.trans (zd_iload zh88 rfl rfl) ?_
  exact zd_ifeq zh88 (t := 212) (by decide) rfl
/-! yL_divides: 89, MarbleHeirsLaw.divides(LMarbleHeirs;I)Z -/
set_option maxRecDepth 20000 in
theorem b89_0 {scr : List Int32} {w : zAW} {a0 : Nat} {x1 : Int32}  : zd scr 89 0 [some (.ref a0), some (.int x1), none, none, none, none, none, none, none] [] w = if x1 = 0 then zd scr 89 4 [some (.ref a0), some (.int x1), none, none, none, none, none, none, none] [] w else zd scr 89 28 [some (.ref a0), some (.int x1), none, none, none, none, none, none, none] [] w := by
  refine Eq.trans (zd_iload_n zh89 rfl rfl) ?_
  exact zd_ifne zh89 (t := 28) (by decide) rfl
set_option maxRecDepth 20000 in
theorem b89_35 {scr : List Int32} {w : zAW} {a0 : Nat} {x1 : Int32} {a2 : Nat} {x3 : Int32}  : zd scr 89 35 [some (.ref a0), some (.int x1), some (.ref a2), some (.int x3), none, none, none, none, none] [] w = if x3 < ((nI 3) * x1) then zd scr 89 42 [some (.ref a0), some (.int x1), some (.ref a2), some (.int x3), none, none, none, none, none] [] w else zd scr 89 61 [some (.ref a0), some (.int x1), some (.ref a2), some (.int x3), none, none, none, none, none] [] w := by
  refine Eq.trans (zd_iload_n zh89 rfl rfl) ?_
  refine Eq.trans (zd_iconst zh89 (v := (nI 3)) rfl rfl) ?_
  refine Eq.trans (zd_iload_n zh89 rfl rfl) ?_
  refine Eq.trans (zd_imul zh89 rfl) ?_
  exact zd_icmpge zh89 (t := 61) (by decide) rfl
set_option maxRecDepth 20000 in
theorem b89_161 {scr : List Int32} {w : zAW} {a0 : Nat} {x1 : Int32} {a2 : Nat} {x3 : Int32} {x4 : Int32} {x5 : Int32} {x6 : Int32} {x7 : Int32} {x8 : Int32}  : zd scr 89 161 [some (.ref a0), some (.int x1), some (.ref a2), some (.int x3), some (.int x4), some (.int x5), some (.int x6), some (.int x7), some (.int x8)] [] w = if x8 < ((nI 3) * x1) then zd scr 89 169 [some (.ref a0), some (.int x1), some (.ref a2), some (.int x3), some (.int x4), some (.int x5), some (.int x6), some (.int x7), some (.int x8)] [] w else zd scr 89 208 [some (.ref a0), some (.int x1), some (.ref a2), some (.int x3), some (.int x4), some (.int x5), some (.int x6), some (.int x7), some (.int x8)] [] w := by
  refine Eq.trans (zd_iload zh89 rfl rfl) ?_
  refine Eq.trans (zd_iconst zh89 (v := (nI 3)) rfl rfl) ?_
  refine Eq.trans (zd_iload_n zh89 rfl rfl) ?_
  refine Eq.trans (zd_imul zh89 rfl) ?_
  exact zd_icmpge zh89 (t := 208) (by decide) rfl
set_option maxRecDepth 20000 in
theorem b89_4 {scr : List Int32} {w : zAW} {a0 : Nat} {x1 : Int32} (h1 : zob w a0 5 = true) {f1 : Int32} {w1 : zAW} (h2 : zC scr 61 [.ref a0] w = some (some (.int f1), w1)) : zd scr 89 4 [some (.ref a0), some (.int x1), none, none, none, none, none, none, none] [] w = if f1 = (-3) then zd scr 89 13 [some (.ref a0), some (.int x1), none, none, none, none, none, none, none] [] w1 else zd scr 89 26 [some (.ref a0), some (.int x1), none, none, none, none, none, none, none] [] w1 := by
  refine Eq.trans (zd_aload_n zh89 rfl rfl) ?_
  refine Eq.trans (zd_invVi zh89 zh61 rfl rfl ⟨Nat.le_of_ble_eq_true rfl, Nat.le_of_ble_eq_true rfl, Nat.le_of_ble_eq_true rfl, Nat.le_of_ble_eq_true rfl⟩ rfl h1 h2 rfl) ?_
  refine Eq.trans (zd_bipush zh89 (v := (-3)) rfl rfl) ?_
  exact zd_icmpne zh89 (t := 26) (by decide) rfl
set_option maxRecDepth 20000 in
theorem b89_28 {scr : List Int32} {w : zAW} {a0 : Nat} {x1 : Int32} {g1 : Nat} (h1 : (w).length = g1) : zd scr 89 28 [some (.ref a0), some (.int x1), none, none, none, none, none, none, none] [] w = zd scr 89 35 [some (.ref a0), some (.int x1), some (.ref g1), some (.int (nI 0)), none, none, none, none, none] [] (zpu w 18) := by
  refine Eq.trans (zd_bipush zh89 (v := (nI 18)) rfl rfl) ?_
  refine Eq.trans (zd_newarr zh89 (n := 18) (Nat.le_of_ble_eq_true rfl) h1 rfl) ?_
  refine Eq.trans (zd_astore_n zh89 (ls' := [some (.ref a0), some (.int x1), some (.ref g1), none, none, none, none, none, none]) (Nat.le_of_ble_eq_true rfl) rfl rfl) ?_
  refine Eq.trans (zd_iconst zh89 (v := (nI 0)) rfl rfl) ?_
  refine Eq.trans (zd_istore_n zh89 (ls' := [some (.ref a0), some (.int x1), some (.ref g1), some (.int (nI 0)), none, none, none, none, none]) (Nat.le_of_ble_eq_true rfl) rfl rfl) ?_
  exact rfl
set_option maxRecDepth 20000 in
theorem b89_42 {scr : List Int32} {w : zAW} {a0 : Nat} {x1 : Int32} {a2 : Nat} {x3 : Int32} (h1 : zob w a0 5 = true) {f1 : Int32} {w1 : zAW} (h2 : zC scr 70 [.ref a0, .int (x3 / (nI 3)), .int (zrem x3 (nI 3))] w = some (some (.int f1), w1)) {w2 : zAW} (h3 : zas w1 a2 x3 f1 = some w2) : zd scr 89 42 [some (.ref a0), some (.int x1), some (.ref a2), some (.int x3), none, none, none, none, none] [] w = zd scr 89 35 [some (.ref a0), some (.int x1), some (.ref a2), some (.int (x3 + (nI 1))), none, none, none, none, none] [] w2 := by
  refine Eq.trans (zd_aload_n zh89 rfl rfl) ?_
  refine Eq.trans (zd_iload_n zh89 rfl rfl) ?_
  refine Eq.trans (zd_aload_n zh89 rfl rfl) ?_
  refine Eq.trans (zd_iload_n zh89 rfl rfl) ?_
  refine Eq.trans (zd_iconst zh89 (v := (nI 3)) rfl rfl) ?_
  refine Eq.trans (zd_idiv zh89 (by decide) rfl) ?_
  refine Eq.trans (zd_iload_n zh89 rfl rfl) ?_
  refine Eq.trans (zd_iconst zh89 (v := (nI 3)) rfl rfl) ?_
  refine Eq.trans (zd_irem zh89 (by decide) rfl) ?_
  refine Eq.trans (zd_invVi zh89 zh70 rfl rfl ⟨Nat.le_of_ble_eq_true rfl, Nat.le_of_ble_eq_true rfl, Nat.le_of_ble_eq_true rfl, Nat.le_of_ble_eq_true rfl⟩ rfl h1 h2 rfl) ?_
  refine Eq.trans (zd_iastore zh89 h3 rfl) ?_
  refine Eq.trans (zd_iinc zh89 (ls' := [some (.ref a0), some (.int x1), some (.ref a2), some (.int (x3 + (nI 1))), none, none, none, none, none]) (v := (x3 + (nI 1))) rfl rfl rfl rfl) ?_
  refine Eq.trans (zd_goto zh89 (t := 35) (by decide) rfl) ?_
  exact rfl
set_option maxRecDepth 20000 in
theorem b89_61 {scr : List Int32} {w : zAW} {a0 : Nat} {x1 : Int32} {a2 : Nat} {x3 : Int32} (h1 : zob w a0 5 = true) {f1 : Int32} {w1 : zAW} (h2 : zC scr 69 [.ref a0, .int (nI 1)] w = some (some (.int f1), w1)) (h3 : zob w1 a0 5 = true) {f2 : Int32} {w2 : zAW} (h4 : zC scr 69 [.ref a0, .int (nI 5)] w1 = some (some (.int f2), w2)) (h5 : zob w2 a0 5 = true) {f3 : Int32} {w3 : zAW} (h6 : zC scr 69 [.ref a0, .int (nI 11)] w2 = some (some (.int f3), w3)) (h7 : zob w3 a0 5 = true) {f4 : Int32} {w4 : zAW} (h8 : zC scr 61 [.ref a0] w3 = some (some (.int f4), w4)) : zd scr 89 61 [some (.ref a0), some (.int x1), some (.ref a2), some (.int x3), none, none, none, none, none] [] w = if f3 = (nI 2) then zd scr 89 97 [some (.ref a0), some (.int x1), some (.ref a2), some (.int f1), some (.int f2), some (.int f3), some (.int f4), none, none] [.int f1, .int f4] w4 else zd scr 89 101 [some (.ref a0), some (.int x1), some (.ref a2), some (.int f1), some (.int f2), some (.int f3), some (.int f4), none, none] [.int f1, .int f4] w4 := by
  refine Eq.trans (zd_aload_n zh89 rfl rfl) ?_
  refine Eq.trans (zd_iconst zh89 (v := (nI 1)) rfl rfl) ?_
  refine Eq.trans (zd_invVi zh89 zh69 rfl rfl ⟨Nat.le_of_ble_eq_true rfl, Nat.le_of_ble_eq_true rfl, Nat.le_of_ble_eq_true rfl, Nat.le_of_ble_eq_true rfl⟩ rfl h1 h2 rfl) ?_
  refine Eq.trans (zd_istore_n zh89 (ls' := [some (.ref a0), some (.int x1), some (.ref a2), some (.int f1), none, none, none, none, none]) (Nat.le_of_ble_eq_true rfl) rfl rfl) ?_
  refine Eq.trans (zd_aload_n zh89 rfl rfl) ?_
  refine Eq.trans (zd_iconst zh89 (v := (nI 5)) rfl rfl) ?_
  refine Eq.trans (zd_invVi zh89 zh69 rfl rfl ⟨Nat.le_of_ble_eq_true rfl, Nat.le_of_ble_eq_true rfl, Nat.le_of_ble_eq_true rfl, Nat.le_of_ble_eq_true rfl⟩ rfl h3 h4 rfl) ?_
  refine Eq.trans (zd_istore zh89 (ls' := [some (.ref a0), some (.int x1), some (.ref a2), some (.int f1), some (.int f2), none, none, none, none]) (Nat.le_of_ble_eq_true rfl) rfl rfl) ?_
  refine Eq.trans (zd_aload_n zh89 rfl rfl) ?_
  refine Eq.trans (zd_bipush zh89 (v := (nI 11)) rfl rfl) ?_
  refine Eq.trans (zd_invVi zh89 zh69 rfl rfl ⟨Nat.le_of_ble_eq_true rfl, Nat.le_of_ble_eq_true rfl, Nat.le_of_ble_eq_true rfl, Nat.le_of_ble_eq_true rfl⟩ rfl h5 h6 rfl) ?_
  refine Eq.trans (zd_istore zh89 (ls' := [some (.ref a0), some (.int x1), some (.ref a2), some (.int f1), some (.int f2), some (.int f3), none, none, none]) (Nat.le_of_ble_eq_true rfl) rfl rfl) ?_
  refine Eq.trans (zd_aload_n zh89 rfl rfl) ?_
  refine Eq.trans (zd_invVi zh89 zh61 rfl rfl ⟨Nat.le_of_ble_eq_true rfl, Nat.le_of_ble_eq_true rfl, Nat.le_of_ble_eq_true rfl, Nat.le_of_ble_eq_true rfl⟩ rfl h7 h8 rfl) ?_
  refine Eq.trans (zd_istore zh89 (ls' := [some (.ref a0), some (.int x1), some (.ref a2), some (.int f1), some (.int f2), some (.int f3), some (.int f4), none, none]) (Nat.le_of_ble_eq_true rfl) rfl rfl) ?_
  refine Eq.trans (zd_iload zh89 rfl rfl) ?_
  refine Eq.trans (zd_iload_n zh89 rfl rfl) ?_
  refine Eq.trans (zd_iload zh89 rfl rfl) ?_
  refine Eq.trans (zd_iconst zh89 (v := (nI 2)) rfl rfl) ?_
  exact zd_icmpne zh89 (t := 101) (by decide) rfl
set_option maxRecDepth 20000 in
theorem b89_169 {scr : List Int32} {w : zAW} {a0 : Nat} {x1 : Int32} {a2 : Nat} {x3 : Int32} {x4 : Int32} {x5 : Int32} {x6 : Int32} {x7 : Int32} {x8 : Int32}  : zd scr 89 169 [some (.ref a0), some (.int x1), some (.ref a2), some (.int x3), some (.int x4), some (.int x5), some (.int x6), some (.int x7), some (.int x8)] [] w = if x7 = 0 then zd scr 89 208 [some (.ref a0), some (.int x1), some (.ref a2), some (.int x3), some (.int x4), some (.int x5), some (.int x6), some (.int x7), some (.int x8)] [] w else zd scr 89 174 [some (.ref a0), some (.int x1), some (.ref a2), some (.int x3), some (.int x4), some (.int x5), some (.int x6), some (.int x7), some (.int x8)] [] w := by
  refine Eq.trans (zd_iload zh89 rfl rfl) ?_
  exact zd_ifeq zh89 (t := 208) (by decide) rfl
set_option maxRecDepth 20000 in
theorem b89_208 {scr : List Int32} {w : zAW} {a0 : Nat} {x1 : Int32} {a2 : Nat} {x3 : Int32} {x4 : Int32} {x5 : Int32} {x6 : Int32} {x7 : Int32} {x8 : Int32} (h1 : zrok (some .boolean) x7 = true) : zd scr 89 208 [some (.ref a0), some (.int x1), some (.ref a2), some (.int x3), some (.int x4), some (.int x5), some (.int x6), some (.int x7), some (.int x8)] [] w = some (some (.int x7), w) := by
  refine Eq.trans (zd_iload zh89 rfl rfl) ?_
  exact zd_iret zh89 h1 rfl
set_option maxRecDepth 20000 in
theorem b89_13 {scr : List Int32} {w : zAW} {a0 : Nat} {x1 : Int32} (h1 : zob w a0 5 = true) {f1 : Int32} {w1 : zAW} (h2 : zC scr 71 [.ref a0] w = some (some (.int f1), w1)) : zd scr 89 13 [some (.ref a0), some (.int x1), none, none, none, none, none, none, none] [] w = if f1 = (-6) then zd scr 89 22 [some (.ref a0), some (.int x1), none, none, none, none, none, none, none] [] w1 else zd scr 89 26 [some (.ref a0), some (.int x1), none, none, none, none, none, none, none] [] w1 := by
  refine Eq.trans (zd_aload_n zh89 rfl rfl) ?_
  refine Eq.trans (zd_invVi zh89 zh71 rfl rfl ⟨Nat.le_of_ble_eq_true rfl, Nat.le_of_ble_eq_true rfl, Nat.le_of_ble_eq_true rfl, Nat.le_of_ble_eq_true rfl⟩ rfl h1 h2 rfl) ?_
  refine Eq.trans (zd_bipush zh89 (v := (-6)) rfl rfl) ?_
  exact zd_icmpne zh89 (t := 26) (by decide) rfl
set_option maxRecDepth 20000 in
theorem b89_26 {scr : List Int32} {w : zAW} {a0 : Nat} {x1 : Int32}  : zd scr 89 26 [some (.ref a0), some (.int x1), none, none, none, none, none, none, none] [] w = some (some (.int (nI 0)), w) := by
  refine Eq.trans (zd_iconst zh89 (v := (nI 0)) rfl rfl) ?_
  exact zd_iret zh89 rfl rfl
set_option maxRecDepth 20000 in
theorem b89_97 {scr : List Int32} {w : zAW} {a0 : Nat} {x1 : Int32} {a2 : Nat} {x3 : Int32} {x4 : Int32} {x5 : Int32} {x6 : Int32} {y0 : Int32} {y1 : Int32} (h1 : ¬ x1 = 0) : zd scr 89 97 [some (.ref a0), some (.int x1), some (.ref a2), some (.int x3), some (.int x4), some (.int x5), some (.int x6), none, none] [.int y1, .int y0] w = if y0 = ((y1 + (nI 0)) / x1) then zd scr 89 110 [some (.ref a0), some (.int x1), some (.ref a2), some (.int x3), some (.int x4), some (.int x5), some (.int x6), none, none] [] w else zd scr 89 155 [some (.ref a0), some (.int x1), some (.ref a2), some (.int x3), some (.int x4), some (.int x5), some (.int x6), none, none] [] w := by
  refine Eq.trans (zd_iconst zh89 (v := (nI 0)) rfl rfl) ?_
  refine Eq.trans (zd_goto zh89 (t := 104) (by decide) rfl) ?_
  refine Eq.trans (zd_iadd zh89 rfl) ?_
  refine Eq.trans (zd_iload_n zh89 rfl rfl) ?_
  refine Eq.trans (zd_idiv zh89 h1 rfl) ?_
  exact zd_icmpne zh89 (t := 155) (by decide) rfl
set_option maxRecDepth 20000 in
theorem b89_101 {scr : List Int32} {w : zAW} {a0 : Nat} {x1 : Int32} {a2 : Nat} {x3 : Int32} {x4 : Int32} {x5 : Int32} {x6 : Int32} {y0 : Int32} {y1 : Int32} (h1 : ¬ x1 = 0) : zd scr 89 101 [some (.ref a0), some (.int x1), some (.ref a2), some (.int x3), some (.int x4), some (.int x5), some (.int x6), none, none] [.int y1, .int y0] w = if y0 = ((y1 + (x1 - (nI 1))) / x1) then zd scr 89 110 [some (.ref a0), some (.int x1), some (.ref a2), some (.int x3), some (.int x4), some (.int x5), some (.int x6), none, none] [] w else zd scr 89 155 [some (.ref a0), some (.int x1), some (.ref a2), some (.int x3), some (.int x4), some (.int x5), some (.int x6), none, none] [] w := by
  refine Eq.trans (zd_iload_n zh89 rfl rfl) ?_
  refine Eq.trans (zd_iconst zh89 (v := (nI 1)) rfl rfl) ?_
  refine Eq.trans (zd_isub zh89 rfl) ?_
  refine Eq.trans (zd_iadd zh89 rfl) ?_
  refine Eq.trans (zd_iload_n zh89 rfl rfl) ?_
  refine Eq.trans (zd_idiv zh89 h1 rfl) ?_
  exact zd_icmpne zh89 (t := 155) (by decide) rfl
set_option maxRecDepth 20000 in
theorem b89_174 {scr : List Int32} {w : zAW} {a0 : Nat} {x1 : Int32} {a2 : Nat} {x3 : Int32} {x4 : Int32} {x5 : Int32} {x6 : Int32} {x7 : Int32} {x8 : Int32} {f1 : Int32} (h1 : zal w a2 x8 = some f1) (h2 : zob w a0 5 = true) {f2 : Int32} {w1 : zAW} (h3 : zC scr 64 [.ref a0, .int (x8 / (nI 3)), .int ((nI 2) + (zrem x8 (nI 3)))] w = some (some (.int f2), w1)) : zd scr 89 174 [some (.ref a0), some (.int x1), some (.ref a2), some (.int x3), some (.int x4), some (.int x5), some (.int x6), some (.int x7), some (.int x8)] [] w = if f1 = f2 then zd scr 89 195 [some (.ref a0), some (.int x1), some (.ref a2), some (.int x3), some (.int x4), some (.int x5), some (.int x6), some (.int x7), some (.int x8)] [] w1 else zd scr 89 199 [some (.ref a0), some (.int x1), some (.ref a2), some (.int x3), some (.int x4), some (.int x5), some (.int x6), some (.int x7), some (.int x8)] [] w1 := by
  refine Eq.trans (zd_aload_n zh89 rfl rfl) ?_
  refine Eq.trans (zd_iload zh89 rfl rfl) ?_
  refine Eq.trans (zd_iaload zh89 h1 rfl) ?_
  refine Eq.trans (zd_aload_n zh89 rfl rfl) ?_
  refine Eq.trans (zd_iload zh89 rfl rfl) ?_
  refine Eq.trans (zd_iconst zh89 (v := (nI 3)) rfl rfl) ?_
  refine Eq.trans (zd_idiv zh89 (by decide) rfl) ?_
  refine Eq.trans (zd_iconst zh89 (v := (nI 2)) rfl rfl) ?_
  refine Eq.trans (zd_iload zh89 rfl rfl) ?_
  refine Eq.trans (zd_iconst zh89 (v := (nI 3)) rfl rfl) ?_
  refine Eq.trans (zd_irem zh89 (by decide) rfl) ?_
  refine Eq.trans (zd_iadd zh89 rfl) ?_
  refine Eq.trans (zd_invVi zh89 zh64 rfl rfl ⟨Nat.le_of_ble_eq_true rfl, Nat.le_of_ble_eq_true rfl, Nat.le_of_ble_eq_true rfl, Nat.le_of_ble_eq_true rfl⟩ rfl h2 h3 rfl) ?_
  exact zd_icmpne zh89 (t := 199) (by decide) rfl
set_option maxRecDepth 20000 in
theorem b89_22 {scr : List Int32} {w : zAW} {a0 : Nat} {x1 : Int32}  : zd scr 89 22 [some (.ref a0), some (.int x1), none, none, none, none, none, none, none] [] w = some (some (.int (nI 1)), w) := by
  refine Eq.trans (zd_iconst zh89 (v := (nI 1)) rfl rfl) ?_
  refine Eq.trans (zd_goto zh89 (t := 27) (by decide) rfl) ?_
  exact zd_iret zh89 rfl rfl
set_option maxRecDepth 20000 in
theorem b89_110 {scr : List Int32} {w : zAW} {a0 : Nat} {x1 : Int32} {a2 : Nat} {x3 : Int32} {x4 : Int32} {x5 : Int32} {x6 : Int32} (h1 : zob w a0 5 = true) {f1 : Int32} {w1 : zAW} (h2 : zC scr 69 [.ref a0, .int (nI 5)] w = some (some (.int f1), w1)) : zd scr 89 110 [some (.ref a0), some (.int x1), some (.ref a2), some (.int x3), some (.int x4), some (.int x5), some (.int x6), none, none] [] w = if f1 = (x4 + x6) then zd scr 89 123 [some (.ref a0), some (.int x1), some (.ref a2), some (.int x3), some (.int x4), some (.int x5), some (.int x6), none, none] [] w1 else zd scr 89 155 [some (.ref a0), some (.int x1), some (.ref a2), some (.int x3), some (.int x4), some (.int x5), some (.int x6), none, none] [] w1 := by
  refine Eq.trans (zd_aload_n zh89 rfl rfl) ?_
  refine Eq.trans (zd_iconst zh89 (v := (nI 5)) rfl rfl) ?_
  refine Eq.trans (zd_invVi zh89 zh69 rfl rfl ⟨Nat.le_of_ble_eq_true rfl, Nat.le_of_ble_eq_true rfl, Nat.le_of_ble_eq_true rfl, Nat.le_of_ble_eq_true rfl⟩ rfl h1 h2 rfl) ?_
  refine Eq.trans (zd_iload zh89 rfl rfl) ?_
  refine Eq.trans (zd_iload zh89 rfl rfl) ?_
  refine Eq.trans (zd_iadd zh89 rfl) ?_
  exact zd_icmpne zh89 (t := 155) (by decide) rfl
set_option maxRecDepth 20000 in
theorem b89_155 {scr : List Int32} {w : zAW} {a0 : Nat} {x1 : Int32} {a2 : Nat} {x3 : Int32} {x4 : Int32} {x5 : Int32} {x6 : Int32}  : zd scr 89 155 [some (.ref a0), some (.int x1), some (.ref a2), some (.int x3), some (.int x4), some (.int x5), some (.int x6), none, none] [] w = zd scr 89 161 [some (.ref a0), some (.int x1), some (.ref a2), some (.int x3), some (.int x4), some (.int x5), some (.int x6), some (.int (nI 0)), some (.int (nI 0))] [] w := by
  refine Eq.trans (zd_iconst zh89 (v := (nI 0)) rfl rfl) ?_
  refine Eq.trans (zd_istore zh89 (ls' := [some (.ref a0), some (.int x1), some (.ref a2), some (.int x3), some (.int x4), some (.int x5), some (.int x6), some (.int (nI 0)), none]) (Nat.le_of_ble_eq_true rfl) rfl rfl) ?_
  refine Eq.trans (zd_iconst zh89 (v := (nI 0)) rfl rfl) ?_
  refine Eq.trans (zd_istore zh89 (ls' := [some (.ref a0), some (.int x1), some (.ref a2), some (.int x3), some (.int x4), some (.int x5), some (.int x6), some (.int (nI 0)), some (.int (nI 0))]) (Nat.le_of_ble_eq_true rfl) rfl rfl) ?_
  exact rfl
set_option maxRecDepth 20000 in
theorem b89_195 {scr : List Int32} {w : zAW} {a0 : Nat} {x1 : Int32} {a2 : Nat} {x3 : Int32} {x4 : Int32} {x5 : Int32} {x6 : Int32} {x7 : Int32} {x8 : Int32}  : zd scr 89 195 [some (.ref a0), some (.int x1), some (.ref a2), some (.int x3), some (.int x4), some (.int x5), some (.int x6), some (.int x7), some (.int x8)] [] w = zd scr 89 161 [some (.ref a0), some (.int x1), some (.ref a2), some (.int x3), some (.int x4), some (.int x5), some (.int x6), some (.int (nI 1)), some (.int (x8 + (nI 1)))] [] w := by
  refine Eq.trans (zd_iconst zh89 (v := (nI 1)) rfl rfl) ?_
  refine Eq.trans (zd_goto zh89 (t := 200) (by decide) rfl) ?_
  refine Eq.trans (zd_istore zh89 (ls' := [some (.ref a0), some (.int x1), some (.ref a2), some (.int x3), some (.int x4), some (.int x5), some (.int x6), some (.int (nI 1)), some (.int x8)]) (Nat.le_of_ble_eq_true rfl) rfl rfl) ?_
  refine Eq.trans (zd_iinc zh89 (ls' := [some (.ref a0), some (.int x1), some (.ref a2), some (.int x3), some (.int x4), some (.int x5), some (.int x6), some (.int (nI 1)), some (.int (x8 + (nI 1)))]) (v := (x8 + (nI 1))) rfl rfl rfl rfl) ?_
  refine Eq.trans (zd_goto zh89 (t := 161) (by decide) rfl) ?_
  exact rfl
set_option maxRecDepth 20000 in
theorem b89_199 {scr : List Int32} {w : zAW} {a0 : Nat} {x1 : Int32} {a2 : Nat} {x3 : Int32} {x4 : Int32} {x5 : Int32} {x6 : Int32} {x7 : Int32} {x8 : Int32}  : zd scr 89 199 [some (.ref a0), some (.int x1), some (.ref a2), some (.int x3), some (.int x4), some (.int x5), some (.int x6), some (.int x7), some (.int x8)] [] w = zd scr 89 161 [some (.ref a0), some (.int x1), some (.ref a2), some (.int x3), some (.int x4), some (.int x5), some (.int x6), some (.int (nI 0)), some (.int (x8 + (nI 1)))] [] w := by
  refine Eq.trans (zd_iconst zh89 (v := (nI 0)) rfl rfl) ?_
  refine Eq.trans (zd_istore zh89 (ls' := [some (.ref a0), some (.int x1), some (.ref a2), some (.int x3), some (.int x4), some (.int x5), some (.int x6), some (.int (nI 0)), some (.int x8)]) (Nat.le_of_ble_eq_true rfl) rfl rfl) ?_
  refine Eq.trans (zd_iinc zh89 (ls' := [some (.ref a0), some (.int x1), some (.ref a2), some (.int x3), some (.int x4), some (.int x5), some (.int x6), some (.int (nI 0)), some (.int (x8 + (nI 1)))]) (v := (x8 + (nI 1))) rfl rfl rfl rfl) ?_
  refine Eq.trans (zd_goto zh89 (t := 161) (by decide) rfl) ?_
  exact rfl
set_option maxRecDepth 20000 in
theorem b89_123 {scr : List Int32} {w : zAW} {a0 : Nat} {x1 : Int32} {a2 : Nat} {x3 : Int32} {x4 : Int32} {x5 : Int32} {x6 : Int32} (h1 : zob w a0 5 = true) {f1 : Int32} {w1 : zAW} (h2 : zC scr 69 [.ref a0, .int (nI 1)] w = some (some (.int f1), w1)) : zd scr 89 123 [some (.ref a0), some (.int x1), some (.ref a2), some (.int x3), some (.int x4), some (.int x5), some (.int x6), none, none] [] w = if x5 = (nI 2) then zd scr 89 134 [some (.ref a0), some (.int x1), some (.ref a2), some (.int x3), some (.int x4), some (.int x5), some (.int x6), none, none] [.int f1] w1 else zd scr 89 140 [some (.ref a0), some (.int x1), some (.ref a2), some (.int x3), some (.int x4), some (.int x5), some (.int x6), none, none] [.int f1] w1 := by
  refine Eq.trans (zd_aload_n zh89 rfl rfl) ?_
  refine Eq.trans (zd_iconst zh89 (v := (nI 1)) rfl rfl) ?_
  refine Eq.trans (zd_invVi zh89 zh69 rfl rfl ⟨Nat.le_of_ble_eq_true rfl, Nat.le_of_ble_eq_true rfl, Nat.le_of_ble_eq_true rfl, Nat.le_of_ble_eq_true rfl⟩ rfl h1 h2 rfl) ?_
  refine Eq.trans (zd_iload zh89 rfl rfl) ?_
  refine Eq.trans (zd_iconst zh89 (v := (nI 2)) rfl rfl) ?_
  exact zd_icmpne zh89 (t := 140) (by decide) rfl
set_option maxRecDepth 20000 in
theorem b89_134 {scr : List Int32} {w : zAW} {a0 : Nat} {x1 : Int32} {a2 : Nat} {x3 : Int32} {x4 : Int32} {x5 : Int32} {x6 : Int32} {y0 : Int32} (h1 : ¬ x1 = 0) : zd scr 89 134 [some (.ref a0), some (.int x1), some (.ref a2), some (.int x3), some (.int x4), some (.int x5), some (.int x6), none, none] [.int y0] w = if y0 = (zrem x3 x1) then zd scr 89 144 [some (.ref a0), some (.int x1), some (.ref a2), some (.int x3), some (.int x4), some (.int x5), some (.int x6), none, none] [] w else zd scr 89 155 [some (.ref a0), some (.int x1), some (.ref a2), some (.int x3), some (.int x4), some (.int x5), some (.int x6), none, none] [] w := by
  refine Eq.trans (zd_iload_n zh89 rfl rfl) ?_
  refine Eq.trans (zd_iload_n zh89 rfl rfl) ?_
  refine Eq.trans (zd_irem zh89 h1 rfl) ?_
  refine Eq.trans (zd_goto zh89 (t := 141) (by decide) rfl) ?_
  exact zd_icmpne zh89 (t := 155) (by decide) rfl
set_option maxRecDepth 20000 in
theorem b89_140 {scr : List Int32} {w : zAW} {a0 : Nat} {x1 : Int32} {a2 : Nat} {x3 : Int32} {x4 : Int32} {x5 : Int32} {x6 : Int32} {y0 : Int32}  : zd scr 89 140 [some (.ref a0), some (.int x1), some (.ref a2), some (.int x3), some (.int x4), some (.int x5), some (.int x6), none, none] [.int y0] w = if y0 = (nI 0) then zd scr 89 144 [some (.ref a0), some (.int x1), some (.ref a2), some (.int x3), some (.int x4), some (.int x5), some (.int x6), none, none] [] w else zd scr 89 155 [some (.ref a0), some (.int x1), some (.ref a2), some (.int x3), some (.int x4), some (.int x5), some (.int x6), none, none] [] w := by
  refine Eq.trans (zd_iconst zh89 (v := (nI 0)) rfl rfl) ?_
  exact zd_icmpne zh89 (t := 155) (by decide) rfl
set_option maxRecDepth 20000 in
theorem b89_144 {scr : List Int32} {w : zAW} {a0 : Nat} {x1 : Int32} {a2 : Nat} {x3 : Int32} {x4 : Int32} {x5 : Int32} {x6 : Int32} (h1 : zob w a0 5 = true) {f1 : Int32} {w1 : zAW} (h2 : zC scr 60 [.ref a0] w = some (some (.int f1), w1)) : zd scr 89 144 [some (.ref a0), some (.int x1), some (.ref a2), some (.int x3), some (.int x4), some (.int x5), some (.int x6), none, none] [] w = if f1 = 0 then zd scr 89 151 [some (.ref a0), some (.int x1), some (.ref a2), some (.int x3), some (.int x4), some (.int x5), some (.int x6), none, none] [] w1 else zd scr 89 155 [some (.ref a0), some (.int x1), some (.ref a2), some (.int x3), some (.int x4), some (.int x5), some (.int x6), none, none] [] w1 := by
  refine Eq.trans (zd_aload_n zh89 rfl rfl) ?_
  refine Eq.trans (zd_invVi zh89 zh60 rfl rfl ⟨Nat.le_of_ble_eq_true rfl, Nat.le_of_ble_eq_true rfl, Nat.le_of_ble_eq_true rfl, Nat.le_of_ble_eq_true rfl⟩ rfl h1 h2 rfl) ?_
  exact zd_ifne zh89 (t := 155) (by decide) rfl
set_option maxRecDepth 20000 in
theorem b89_151 {scr : List Int32} {w : zAW} {a0 : Nat} {x1 : Int32} {a2 : Nat} {x3 : Int32} {x4 : Int32} {x5 : Int32} {x6 : Int32}  : zd scr 89 151 [some (.ref a0), some (.int x1), some (.ref a2), some (.int x3), some (.int x4), some (.int x5), some (.int x6), none, none] [] w = zd scr 89 161 [some (.ref a0), some (.int x1), some (.ref a2), some (.int x3), some (.int x4), some (.int x5), some (.int x6), some (.int (nI 1)), some (.int (nI 0))] [] w := by
  refine Eq.trans (zd_iconst zh89 (v := (nI 1)) rfl rfl) ?_
  refine Eq.trans (zd_goto zh89 (t := 156) (by decide) rfl) ?_
  refine Eq.trans (zd_istore zh89 (ls' := [some (.ref a0), some (.int x1), some (.ref a2), some (.int x3), some (.int x4), some (.int x5), some (.int x6), some (.int (nI 1)), none]) (Nat.le_of_ble_eq_true rfl) rfl rfl) ?_
  refine Eq.trans (zd_iconst zh89 (v := (nI 0)) rfl rfl) ?_
  refine Eq.trans (zd_istore zh89 (ls' := [some (.ref a0), some (.int x1), some (.ref a2), some (.int x3), some (.int x4), some (.int x5), some (.int x6), some (.int (nI 1)), some (.int (nI 0))]) (Nat.le_of_ble_eq_true rfl) rfl rfl) ?_
  exact rfl
