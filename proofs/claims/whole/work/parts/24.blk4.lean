/-! yX6_swaps: 109, MarbleHeirsModel.swaps(II)V -/
set_option maxRecDepth 20000 in
theorem b109_0 {scr : List Int32} {w : zAW} {a0 : Nat} {x1 : Int32} {x2 : Int32} {g1 : Nat} (h1 : zgf w a0 6 0 = some (.ref g1)) {f2 : Int32} (h2 : zal w g1 ((nI 70) + x1) = some f2) {g3 : Nat} (h3 : zgf w a0 6 0 = some (.ref g3)) (h4 : zob w a0 6 = true) {f4 : Int32} {w1 : zAW} (h5 : zC scr 95 [.ref a0, .int x1] w = some (some (.int f4), w1)) {g5 : Nat} (h6 : zgf w1 a0 6 0 = some (.ref g5)) {f6 : Int32} (h7 : zal w1 g5 ((nI 70) + x2) = some f6) {w2 : zAW} (h8 : zas w1 g3 ((nI 70) + x1) (((nI 100) * f4) + (zrem f6 (nI 100))) = some w2) {g7 : Nat} (h9 : zgf w2 a0 6 0 = some (.ref g7)) (h10 : zob w2 a0 6 = true) {f8 : Int32} {w3 : zAW} (h11 : zC scr 95 [.ref a0, .int x2] w2 = some (some (.int f8), w3)) {w4 : zAW} (h12 : zas w3 g7 ((nI 70) + x2) (((nI 100) * f8) + (zrem f2 (nI 100))) = some w4) {g9 : Nat} (h13 : zgf w4 a0 6 0 = some (.ref g9)) {f10 : Int32} (h14 : zal w4 g9 (nI 4) = some f10) {w5 : zAW} (h15 : zas w4 g9 (nI 4) (f10 + (nI 1)) = some w5) : zd scr 109 0 [some (.ref a0), some (.int x1), some (.int x2), none] [] w = some (none, w5) := by
  refine Eq.trans (zd_aload_n zh109 rfl rfl) ?_
  refine Eq.trans (zd_getfield zh109 (ci := 6) (k := 0) rfl h1 rfl) ?_
  refine Eq.trans (zd_bipush zh109 (v := (nI 70)) rfl rfl) ?_
  refine Eq.trans (zd_iload_n zh109 rfl rfl) ?_
  refine Eq.trans (zd_iadd zh109 rfl) ?_
  refine Eq.trans (zd_iaload zh109 h2 rfl) ?_
  refine Eq.trans (zd_bipush zh109 (v := (nI 100)) rfl rfl) ?_
  refine Eq.trans (zd_irem zh109 (by decide) rfl) ?_
  refine Eq.trans (zd_istore_n zh109 (ls' := [some (.ref a0), some (.int x1), some (.int x2), some (.int (zrem f2 (nI 100)))]) (Nat.le_of_ble_eq_true rfl) rfl rfl) ?_
  refine Eq.trans (zd_aload_n zh109 rfl rfl) ?_
  refine Eq.trans (zd_getfield zh109 (ci := 6) (k := 0) rfl h3 rfl) ?_
  refine Eq.trans (zd_bipush zh109 (v := (nI 70)) rfl rfl) ?_
  refine Eq.trans (zd_iload_n zh109 rfl rfl) ?_
  refine Eq.trans (zd_iadd zh109 rfl) ?_
  refine Eq.trans (zd_bipush zh109 (v := (nI 100)) rfl rfl) ?_
  refine Eq.trans (zd_aload_n zh109 rfl rfl) ?_
  refine Eq.trans (zd_iload_n zh109 rfl rfl) ?_
  refine Eq.trans (zd_invVi zh109 zh95 rfl rfl ⟨Nat.le_of_ble_eq_true rfl, Nat.le_of_ble_eq_true rfl, Nat.le_of_ble_eq_true rfl, Nat.le_of_ble_eq_true rfl⟩ rfl h4 h5 rfl) ?_
  refine Eq.trans (zd_imul zh109 rfl) ?_
  refine Eq.trans (zd_aload_n zh109 rfl rfl) ?_
  refine Eq.trans (zd_getfield zh109 (ci := 6) (k := 0) rfl h6 rfl) ?_
  refine Eq.trans (zd_bipush zh109 (v := (nI 70)) rfl rfl) ?_
  refine Eq.trans (zd_iload_n zh109 rfl rfl) ?_
  refine Eq.trans (zd_iadd zh109 rfl) ?_
  refine Eq.trans (zd_iaload zh109 h7 rfl) ?_
  refine Eq.trans (zd_bipush zh109 (v := (nI 100)) rfl rfl) ?_
  refine Eq.trans (zd_irem zh109 (by decide) rfl) ?_
  refine Eq.trans (zd_iadd zh109 rfl) ?_
  refine Eq.trans (zd_iastore zh109 h8 rfl) ?_
  refine Eq.trans (zd_aload_n zh109 rfl rfl) ?_
  refine Eq.trans (zd_getfield zh109 (ci := 6) (k := 0) rfl h9 rfl) ?_
  refine Eq.trans (zd_bipush zh109 (v := (nI 70)) rfl rfl) ?_
  refine Eq.trans (zd_iload_n zh109 rfl rfl) ?_
  refine Eq.trans (zd_iadd zh109 rfl) ?_
  refine Eq.trans (zd_bipush zh109 (v := (nI 100)) rfl rfl) ?_
  refine Eq.trans (zd_aload_n zh109 rfl rfl) ?_
  refine Eq.trans (zd_iload_n zh109 rfl rfl) ?_
  refine Eq.trans (zd_invVi zh109 zh95 rfl rfl ⟨Nat.le_of_ble_eq_true rfl, Nat.le_of_ble_eq_true rfl, Nat.le_of_ble_eq_true rfl, Nat.le_of_ble_eq_true rfl⟩ rfl h10 h11 rfl) ?_
  refine Eq.trans (zd_imul zh109 rfl) ?_
  refine Eq.trans (zd_iload_n zh109 rfl rfl) ?_
  refine Eq.trans (zd_iadd zh109 rfl) ?_
  refine Eq.trans (zd_iastore zh109 h12 rfl) ?_
  refine Eq.trans (zd_aload_n zh109 rfl rfl) ?_
  refine Eq.trans (zd_getfield zh109 (ci := 6) (k := 0) rfl h13 rfl) ?_
  refine Eq.trans (zd_iconst zh109 (v := (nI 4)) rfl rfl) ?_
  refine Eq.trans (zd_dup2 zh109 rfl) ?_
  refine Eq.trans (zd_iaload zh109 h14 rfl) ?_
  refine Eq.trans (zd_iconst zh109 (v := (nI 1)) rfl rfl) ?_
  refine Eq.trans (zd_iadd zh109 rfl) ?_
  refine Eq.trans (zd_iastore zh109 h15 rfl) ?_
  exact zd_vret zh109 rfl rfl
/-! yX6_growth: 110, MarbleHeirsModel.growth(II)I -/
set_option maxRecDepth 20000 in
theorem b110_0 {scr : List Int32} {w : zAW} {a0 : Nat} {x1 : Int32} {x2 : Int32} (h1 : zob w a0 6 = true) {f1 : Int32} {w1 : zAW} (h2 : zC scr 95 [.ref a0, .int x1] w = some (some (.int f1), w1)) (h3 : zob w1 a0 6 = true) {f2 : Int32} {w2 : zAW} (h4 : zC scr 91 [.ref a0, .int f1, .int (nI 1)] w1 = some (some (.int f2), w2)) (h5 : zob w2 a0 6 = true) {f3 : Int32} {w3 : zAW} (h6 : zC scr 95 [.ref a0, .int x2] w2 = some (some (.int f3), w3)) (h7 : zob w3 a0 6 = true) {f4 : Int32} {w4 : zAW} (h8 : zC scr 91 [.ref a0, .int f3, .int (nI 1)] w3 = some (some (.int f4), w4)) (h9 : zob w4 a0 6 = true) {f5 : Int32} {w5 : zAW} (h10 : zC scr 96 [.ref a0, .int x2] w4 = some (some (.int f5), w5)) : zd scr 110 0 [some (.ref a0), some (.int x1), some (.int x2), none, none, none] [] w = if f2 = f5 then zd scr 110 32 [some (.ref a0), some (.int x1), some (.int x2), some (.int f2), some (.int f4), none] [] w5 else zd scr 110 36 [some (.ref a0), some (.int x1), some (.int x2), some (.int f2), some (.int f4), none] [] w5 := by
  refine Eq.trans (zd_aload_n zh110 rfl rfl) ?_
  refine Eq.trans (zd_aload_n zh110 rfl rfl) ?_
  refine Eq.trans (zd_iload_n zh110 rfl rfl) ?_
  refine Eq.trans (zd_invVi zh110 zh95 rfl rfl ⟨Nat.le_of_ble_eq_true rfl, Nat.le_of_ble_eq_true rfl, Nat.le_of_ble_eq_true rfl, Nat.le_of_ble_eq_true rfl⟩ rfl h1 h2 rfl) ?_
  refine Eq.trans (zd_iconst zh110 (v := (nI 1)) rfl rfl) ?_
  refine Eq.trans (zd_invVi zh110 zh91 rfl rfl ⟨Nat.le_of_ble_eq_true rfl, Nat.le_of_ble_eq_true rfl, Nat.le_of_ble_eq_true rfl, Nat.le_of_ble_eq_true rfl⟩ rfl h3 h4 rfl) ?_
  refine Eq.trans (zd_istore_n zh110 (ls' := [some (.ref a0), some (.int x1), some (.int x2), some (.int f2), none, none]) (Nat.le_of_ble_eq_true rfl) rfl rfl) ?_
  refine Eq.trans (zd_aload_n zh110 rfl rfl) ?_
  refine Eq.trans (zd_aload_n zh110 rfl rfl) ?_
  refine Eq.trans (zd_iload_n zh110 rfl rfl) ?_
  refine Eq.trans (zd_invVi zh110 zh95 rfl rfl ⟨Nat.le_of_ble_eq_true rfl, Nat.le_of_ble_eq_true rfl, Nat.le_of_ble_eq_true rfl, Nat.le_of_ble_eq_true rfl⟩ rfl h5 h6 rfl) ?_
  refine Eq.trans (zd_iconst zh110 (v := (nI 1)) rfl rfl) ?_
  refine Eq.trans (zd_invVi zh110 zh91 rfl rfl ⟨Nat.le_of_ble_eq_true rfl, Nat.le_of_ble_eq_true rfl, Nat.le_of_ble_eq_true rfl, Nat.le_of_ble_eq_true rfl⟩ rfl h7 h8 rfl) ?_
  refine Eq.trans (zd_istore zh110 (ls' := [some (.ref a0), some (.int x1), some (.int x2), some (.int f2), some (.int f4), none]) (Nat.le_of_ble_eq_true rfl) rfl rfl) ?_
  refine Eq.trans (zd_iload_n zh110 rfl rfl) ?_
  refine Eq.trans (zd_aload_n zh110 rfl rfl) ?_
  refine Eq.trans (zd_iload_n zh110 rfl rfl) ?_
  refine Eq.trans (zd_invVi zh110 zh96 rfl rfl ⟨Nat.le_of_ble_eq_true rfl, Nat.le_of_ble_eq_true rfl, Nat.le_of_ble_eq_true rfl, Nat.le_of_ble_eq_true rfl⟩ rfl h9 h10 rfl) ?_
  exact zd_icmpne zh110 (t := 36) (by decide) rfl
set_option maxRecDepth 20000 in
theorem b110_32 {scr : List Int32} {w : zAW} {a0 : Nat} {x1 : Int32} {x2 : Int32} {x3 : Int32} {x4 : Int32} (h1 : zob w a0 6 = true) {f1 : Int32} {w1 : zAW} (h2 : zC scr 96 [.ref a0, .int x1] w = some (some (.int f1), w1)) : zd scr 110 32 [some (.ref a0), some (.int x1), some (.int x2), some (.int x3), some (.int x4), none] [] w = if x4 = f1 then zd scr 110 47 [some (.ref a0), some (.int x1), some (.int x2), some (.int x3), some (.int x4), none] [.int (nI 1)] w1 else zd scr 110 51 [some (.ref a0), some (.int x1), some (.int x2), some (.int x3), some (.int x4), none] [.int (nI 1)] w1 := by
  refine Eq.trans (zd_iconst zh110 (v := (nI 1)) rfl rfl) ?_
  refine Eq.trans (zd_goto zh110 (t := 37) (by decide) rfl) ?_
  refine Eq.trans (zd_iload zh110 rfl rfl) ?_
  refine Eq.trans (zd_aload_n zh110 rfl rfl) ?_
  refine Eq.trans (zd_iload_n zh110 rfl rfl) ?_
  refine Eq.trans (zd_invVi zh110 zh96 rfl rfl ⟨Nat.le_of_ble_eq_true rfl, Nat.le_of_ble_eq_true rfl, Nat.le_of_ble_eq_true rfl, Nat.le_of_ble_eq_true rfl⟩ rfl h1 h2 rfl) ?_
  exact zd_icmpne zh110 (t := 51) (by decide) rfl
set_option maxRecDepth 20000 in
theorem b110_36 {scr : List Int32} {w : zAW} {a0 : Nat} {x1 : Int32} {x2 : Int32} {x3 : Int32} {x4 : Int32} (h1 : zob w a0 6 = true) {f1 : Int32} {w1 : zAW} (h2 : zC scr 96 [.ref a0, .int x1] w = some (some (.int f1), w1)) : zd scr 110 36 [some (.ref a0), some (.int x1), some (.int x2), some (.int x3), some (.int x4), none] [] w = if x4 = f1 then zd scr 110 47 [some (.ref a0), some (.int x1), some (.int x2), some (.int x3), some (.int x4), none] [.int (nI 0)] w1 else zd scr 110 51 [some (.ref a0), some (.int x1), some (.int x2), some (.int x3), some (.int x4), none] [.int (nI 0)] w1 := by
  refine Eq.trans (zd_iconst zh110 (v := (nI 0)) rfl rfl) ?_
  refine Eq.trans (zd_iload zh110 rfl rfl) ?_
  refine Eq.trans (zd_aload_n zh110 rfl rfl) ?_
  refine Eq.trans (zd_iload_n zh110 rfl rfl) ?_
  refine Eq.trans (zd_invVi zh110 zh96 rfl rfl ⟨Nat.le_of_ble_eq_true rfl, Nat.le_of_ble_eq_true rfl, Nat.le_of_ble_eq_true rfl, Nat.le_of_ble_eq_true rfl⟩ rfl h1 h2 rfl) ?_
  exact zd_icmpne zh110 (t := 51) (by decide) rfl
set_option maxRecDepth 20000 in
theorem b110_47 {scr : List Int32} {w : zAW} {a0 : Nat} {x1 : Int32} {x2 : Int32} {x3 : Int32} {x4 : Int32} {y0 : Int32} (h1 : zob w a0 6 = true) {f1 : Int32} {w1 : zAW} (h2 : zC scr 96 [.ref a0, .int x1] w = some (some (.int f1), w1)) : zd scr 110 47 [some (.ref a0), some (.int x1), some (.int x2), some (.int x3), some (.int x4), none] [.int y0] w = if x3 = f1 then zd scr 110 66 [some (.ref a0), some (.int x1), some (.int x2), some (.int x3), some (.int x4), some (.int (y0 + (nI 1)))] [.int (y0 + (nI 1))] w1 else zd scr 110 70 [some (.ref a0), some (.int x1), some (.int x2), some (.int x3), some (.int x4), some (.int (y0 + (nI 1)))] [.int (y0 + (nI 1))] w1 := by
  refine Eq.trans (zd_iconst zh110 (v := (nI 1)) rfl rfl) ?_
  refine Eq.trans (zd_goto zh110 (t := 52) (by decide) rfl) ?_
  refine Eq.trans (zd_iadd zh110 rfl) ?_
  refine Eq.trans (zd_istore zh110 (ls' := [some (.ref a0), some (.int x1), some (.int x2), some (.int x3), some (.int x4), some (.int (y0 + (nI 1)))]) (Nat.le_of_ble_eq_true rfl) rfl rfl) ?_
  refine Eq.trans (zd_iload zh110 rfl rfl) ?_
  refine Eq.trans (zd_iload_n zh110 rfl rfl) ?_
  refine Eq.trans (zd_aload_n zh110 rfl rfl) ?_
  refine Eq.trans (zd_iload_n zh110 rfl rfl) ?_
  refine Eq.trans (zd_invVi zh110 zh96 rfl rfl ⟨Nat.le_of_ble_eq_true rfl, Nat.le_of_ble_eq_true rfl, Nat.le_of_ble_eq_true rfl, Nat.le_of_ble_eq_true rfl⟩ rfl h1 h2 rfl) ?_
  exact zd_icmpne zh110 (t := 70) (by decide) rfl
set_option maxRecDepth 20000 in
theorem b110_51 {scr : List Int32} {w : zAW} {a0 : Nat} {x1 : Int32} {x2 : Int32} {x3 : Int32} {x4 : Int32} {y0 : Int32} (h1 : zob w a0 6 = true) {f1 : Int32} {w1 : zAW} (h2 : zC scr 96 [.ref a0, .int x1] w = some (some (.int f1), w1)) : zd scr 110 51 [some (.ref a0), some (.int x1), some (.int x2), some (.int x3), some (.int x4), none] [.int y0] w = if x3 = f1 then zd scr 110 66 [some (.ref a0), some (.int x1), some (.int x2), some (.int x3), some (.int x4), some (.int (y0 + (nI 0)))] [.int (y0 + (nI 0))] w1 else zd scr 110 70 [some (.ref a0), some (.int x1), some (.int x2), some (.int x3), some (.int x4), some (.int (y0 + (nI 0)))] [.int (y0 + (nI 0))] w1 := by
  refine Eq.trans (zd_iconst zh110 (v := (nI 0)) rfl rfl) ?_
  refine Eq.trans (zd_iadd zh110 rfl) ?_
  refine Eq.trans (zd_istore zh110 (ls' := [some (.ref a0), some (.int x1), some (.int x2), some (.int x3), some (.int x4), some (.int (y0 + (nI 0)))]) (Nat.le_of_ble_eq_true rfl) rfl rfl) ?_
  refine Eq.trans (zd_iload zh110 rfl rfl) ?_
  refine Eq.trans (zd_iload_n zh110 rfl rfl) ?_
  refine Eq.trans (zd_aload_n zh110 rfl rfl) ?_
  refine Eq.trans (zd_iload_n zh110 rfl rfl) ?_
  refine Eq.trans (zd_invVi zh110 zh96 rfl rfl ⟨Nat.le_of_ble_eq_true rfl, Nat.le_of_ble_eq_true rfl, Nat.le_of_ble_eq_true rfl, Nat.le_of_ble_eq_true rfl⟩ rfl h1 h2 rfl) ?_
  exact zd_icmpne zh110 (t := 70) (by decide) rfl
set_option maxRecDepth 20000 in
theorem b110_66 {scr : List Int32} {w : zAW} {a0 : Nat} {x1 : Int32} {x2 : Int32} {x3 : Int32} {x4 : Int32} {x5 : Int32} {y0 : Int32} (h1 : zob w a0 6 = true) {f1 : Int32} {w1 : zAW} (h2 : zC scr 96 [.ref a0, .int x2] w = some (some (.int f1), w1)) : zd scr 110 66 [some (.ref a0), some (.int x1), some (.int x2), some (.int x3), some (.int x4), some (.int x5)] [.int y0] w = if x4 = f1 then zd scr 110 82 [some (.ref a0), some (.int x1), some (.int x2), some (.int x3), some (.int x4), some (.int x5)] [.int (y0 - (nI 1))] w1 else zd scr 110 86 [some (.ref a0), some (.int x1), some (.int x2), some (.int x3), some (.int x4), some (.int x5)] [.int (y0 - (nI 1))] w1 := by
  refine Eq.trans (zd_iconst zh110 (v := (nI 1)) rfl rfl) ?_
  refine Eq.trans (zd_goto zh110 (t := 71) (by decide) rfl) ?_
  refine Eq.trans (zd_isub zh110 rfl) ?_
  refine Eq.trans (zd_iload zh110 rfl rfl) ?_
  refine Eq.trans (zd_aload_n zh110 rfl rfl) ?_
  refine Eq.trans (zd_iload_n zh110 rfl rfl) ?_
  refine Eq.trans (zd_invVi zh110 zh96 rfl rfl ⟨Nat.le_of_ble_eq_true rfl, Nat.le_of_ble_eq_true rfl, Nat.le_of_ble_eq_true rfl, Nat.le_of_ble_eq_true rfl⟩ rfl h1 h2 rfl) ?_
  exact zd_icmpne zh110 (t := 86) (by decide) rfl
set_option maxRecDepth 20000 in
theorem b110_70 {scr : List Int32} {w : zAW} {a0 : Nat} {x1 : Int32} {x2 : Int32} {x3 : Int32} {x4 : Int32} {x5 : Int32} {y0 : Int32} (h1 : zob w a0 6 = true) {f1 : Int32} {w1 : zAW} (h2 : zC scr 96 [.ref a0, .int x2] w = some (some (.int f1), w1)) : zd scr 110 70 [some (.ref a0), some (.int x1), some (.int x2), some (.int x3), some (.int x4), some (.int x5)] [.int y0] w = if x4 = f1 then zd scr 110 82 [some (.ref a0), some (.int x1), some (.int x2), some (.int x3), some (.int x4), some (.int x5)] [.int (y0 - (nI 0))] w1 else zd scr 110 86 [some (.ref a0), some (.int x1), some (.int x2), some (.int x3), some (.int x4), some (.int x5)] [.int (y0 - (nI 0))] w1 := by
  refine Eq.trans (zd_iconst zh110 (v := (nI 0)) rfl rfl) ?_
  refine Eq.trans (zd_isub zh110 rfl) ?_
  refine Eq.trans (zd_iload zh110 rfl rfl) ?_
  refine Eq.trans (zd_aload_n zh110 rfl rfl) ?_
  refine Eq.trans (zd_iload_n zh110 rfl rfl) ?_
  refine Eq.trans (zd_invVi zh110 zh96 rfl rfl ⟨Nat.le_of_ble_eq_true rfl, Nat.le_of_ble_eq_true rfl, Nat.le_of_ble_eq_true rfl, Nat.le_of_ble_eq_true rfl⟩ rfl h1 h2 rfl) ?_
  exact zd_icmpne zh110 (t := 86) (by decide) rfl
theorem b110_82 {scr : List Int32} {w : zAW} {a0 : Nat} {x1 : Int32} {x2 : Int32} {x3 : Int32} {x4 : Int32} {x5 : Int32} {y0 : Int32}  : zd scr 110 82 [some (.ref a0), some (.int x1), some (.int x2), some (.int x3), some (.int x4), some (.int x5)] [.int y0] w = some (some (.int (y0 - (nI 1))), w) := by
  refine Eq.trans (zd_iconst zh110 (v := (nI 1)) rfl rfl) ?_
  refine Eq.trans (zd_goto zh110 (t := 87) (by decide) rfl) ?_
  refine Eq.trans (zd_isub zh110 rfl) ?_
  exact zd_iret zh110 rfl rfl
theorem b110_86 {scr : List Int32} {w : zAW} {a0 : Nat} {x1 : Int32} {x2 : Int32} {x3 : Int32} {x4 : Int32} {x5 : Int32} {y0 : Int32}  : zd scr 110 86 [some (.ref a0), some (.int x1), some (.int x2), some (.int x3), some (.int x4), some (.int x5)] [.int y0] w = some (some (.int (y0 - (nI 0))), w) := by
  refine Eq.trans (zd_iconst zh110 (v := (nI 0)) rfl rfl) ?_
  refine Eq.trans (zd_isub zh110 rfl) ?_
  exact zd_iret zh110 rfl rfl
/-! yX6_size: 111, MarbleHeirsModel.size(I)I -/
theorem b111_0 {scr : List Int32} {w : zAW} {x0 : Int32}  : zd scr 111 0 [some (.int x0)] [] w = if x0 < 0 then zd scr 111 4 [some (.int x0)] [] w else zd scr 111 9 [some (.int x0)] [] w := by
  refine Eq.trans (zd_iload_n zh111 rfl rfl) ?_
  exact zd_ifge zh111 (t := 9) (by decide) rfl
theorem b111_4 {scr : List Int32} {w : zAW} {x0 : Int32}  : zd scr 111 4 [some (.int x0)] [] w = some (some (.int (-x0)), w) := by
  refine Eq.trans (zd_iload_n zh111 rfl rfl) ?_
  refine Eq.trans (zd_ineg zh111 rfl) ?_
  refine Eq.trans (zd_goto zh111 (t := 10) (by decide) rfl) ?_
  exact zd_iret zh111 rfl rfl
theorem b111_9 {scr : List Int32} {w : zAW} {x0 : Int32}  : zd scr 111 9 [some (.int x0)] [] w = some (some (.int x0), w) := by
  refine Eq.trans (zd_iload_n zh111 rfl rfl) ?_
  exact zd_iret zh111 rfl rfl
/-! yX6_rate: 112, MarbleHeirsModel.rate(II)I -/
set_option maxRecDepth 20000 in
theorem b112_0 {scr : List Int32} {w : zAW} {a0 : Nat} {x1 : Int32} {x2 : Int32} (h1 : zob w a0 6 = true) {f1 : Int32} {w1 : zAW} (h2 : zC scr 110 [.ref a0, .int x1, .int x2] w = some (some (.int f1), w1)) : zd scr 112 0 [some (.ref a0), some (.int x1), some (.int x2), none] [] w = if f1 < (nI 1) then zd scr 112 23 [some (.ref a0), some (.int x1), some (.int x2), some (.int f1)] [] w1 else zd scr 112 12 [some (.ref a0), some (.int x1), some (.int x2), some (.int f1)] [] w1 := by
  refine Eq.trans (zd_aload_n zh112 rfl rfl) ?_
  refine Eq.trans (zd_iload_n zh112 rfl rfl) ?_
  refine Eq.trans (zd_iload_n zh112 rfl rfl) ?_
  refine Eq.trans (zd_invVi zh112 zh110 rfl rfl ⟨Nat.le_of_ble_eq_true rfl, Nat.le_of_ble_eq_true rfl, Nat.le_of_ble_eq_true rfl, Nat.le_of_ble_eq_true rfl⟩ rfl h1 h2 rfl) ?_
  refine Eq.trans (zd_istore_n zh112 (ls' := [some (.ref a0), some (.int x1), some (.int x2), some (.int f1)]) (Nat.le_of_ble_eq_true rfl) rfl rfl) ?_
  refine Eq.trans (zd_iload_n zh112 rfl rfl) ?_
  refine Eq.trans (zd_iconst zh112 (v := (nI 1)) rfl rfl) ?_
  exact zd_icmplt zh112 (t := 23) (by decide) rfl
theorem b112_23 {scr : List Int32} {w : zAW} {a0 : Nat} {x1 : Int32} {x2 : Int32} {x3 : Int32}  : zd scr 112 23 [some (.ref a0), some (.int x1), some (.int x2), some (.int x3)] [] w = some (some (.int (nI 0)), w) := by
  refine Eq.trans (zd_iconst zh112 (v := (nI 0)) rfl rfl) ?_
  refine Eq.trans (zd_goto zh112 (t := 49) (by decide) rfl) ?_
  exact zd_iret zh112 rfl rfl
set_option maxRecDepth 20000 in
theorem b112_12 {scr : List Int32} {w : zAW} {a0 : Nat} {x1 : Int32} {x2 : Int32} {x3 : Int32} (h1 : zob w a0 6 = true) {f1 : Int32} {w1 : zAW} (h2 : zC scr 108 [.ref a0, .int x1, .int x2] w = some (some (.int f1), w1)) : zd scr 112 12 [some (.ref a0), some (.int x1), some (.int x2), some (.int x3)] [] w = if f1 = (-6) then zd scr 112 27 [some (.ref a0), some (.int x1), some (.int x2), some (.int x3)] [] w1 else zd scr 112 23 [some (.ref a0), some (.int x1), some (.int x2), some (.int x3)] [] w1 := by
  refine Eq.trans (zd_aload_n zh112 rfl rfl) ?_
  refine Eq.trans (zd_iload_n zh112 rfl rfl) ?_
  refine Eq.trans (zd_iload_n zh112 rfl rfl) ?_
  refine Eq.trans (zd_invVi zh112 zh108 rfl rfl ⟨Nat.le_of_ble_eq_true rfl, Nat.le_of_ble_eq_true rfl, Nat.le_of_ble_eq_true rfl, Nat.le_of_ble_eq_true rfl⟩ rfl h1 h2 rfl) ?_
  refine Eq.trans (zd_bipush zh112 (v := (-6)) rfl rfl) ?_
  exact zd_icmpeq zh112 (t := 27) (by decide) rfl
set_option maxRecDepth 20000 in
theorem b112_27 {scr : List Int32} {w : zAW} {a0 : Nat} {x1 : Int32} {x2 : Int32} {x3 : Int32} (h1 : zob w a0 6 = true) {f1 : Int32} {w1 : zAW} (h2 : zC scr 97 [.ref a0, .int x1] w = some (some (.int f1), w1)) (h3 : zob w1 a0 6 = true) {f2 : Int32} {w2 : zAW} (h4 : zC scr 97 [.ref a0, .int x2] w1 = some (some (.int f2), w2)) {f3 : Int32} {w3 : zAW} (h5 : zC scr 111 [.int (f1 - f2)] w2 = some (some (.int f3), w3)) : zd scr 112 27 [some (.ref a0), some (.int x1), some (.int x2), some (.int x3)] [] w = some (some (.int ((((nI 10) * x3) + (nI 9)) - f3)), w3) := by
  refine Eq.trans (zd_bipush zh112 (v := (nI 10)) rfl rfl) ?_
  refine Eq.trans (zd_iload_n zh112 rfl rfl) ?_
  refine Eq.trans (zd_imul zh112 rfl) ?_
  refine Eq.trans (zd_bipush zh112 (v := (nI 9)) rfl rfl) ?_
  refine Eq.trans (zd_iadd zh112 rfl) ?_
  refine Eq.trans (zd_aload_n zh112 rfl rfl) ?_
  refine Eq.trans (zd_iload_n zh112 rfl rfl) ?_
  refine Eq.trans (zd_invVi zh112 zh97 rfl rfl ⟨Nat.le_of_ble_eq_true rfl, Nat.le_of_ble_eq_true rfl, Nat.le_of_ble_eq_true rfl, Nat.le_of_ble_eq_true rfl⟩ rfl h1 h2 rfl) ?_
  refine Eq.trans (zd_aload_n zh112 rfl rfl) ?_
  refine Eq.trans (zd_iload_n zh112 rfl rfl) ?_
  refine Eq.trans (zd_invVi zh112 zh97 rfl rfl ⟨Nat.le_of_ble_eq_true rfl, Nat.le_of_ble_eq_true rfl, Nat.le_of_ble_eq_true rfl, Nat.le_of_ble_eq_true rfl⟩ rfl h3 h4 rfl) ?_
  refine Eq.trans (zd_isub zh112 rfl) ?_
  refine Eq.trans (zd_invSi zh112 zh111 rfl rfl ⟨Nat.le_of_ble_eq_true rfl, Nat.le_of_ble_eq_true rfl, Nat.le_of_ble_eq_true rfl, Nat.le_of_ble_eq_true rfl, Nat.le_of_ble_eq_true rfl⟩ rfl h5 rfl) ?_
  refine Eq.trans (zd_isub zh112 rfl) ?_
  exact zd_iret zh112 rfl rfl
/-! yX6_rankOf: 113, MarbleHeirsModel.rankOf(I)I -/
theorem b113_0 {scr : List Int32} {w : zAW} {a0 : Nat} {x1 : Int32}  : zd scr 113 0 [some (.ref a0), some (.int x1), none, none] [] w = zd scr 113 4 [some (.ref a0), some (.int x1), some (.int (nI 0)), some (.int (nI 0))] [] w := by
  refine Eq.trans (zd_iconst zh113 (v := (nI 0)) rfl rfl) ?_
  refine Eq.trans (zd_istore_n zh113 (ls' := [some (.ref a0), some (.int x1), some (.int (nI 0)), none]) (Nat.le_of_ble_eq_true rfl) rfl rfl) ?_
  refine Eq.trans (zd_iconst zh113 (v := (nI 0)) rfl rfl) ?_
  refine Eq.trans (zd_istore_n zh113 (ls' := [some (.ref a0), some (.int x1), some (.int (nI 0)), some (.int (nI 0))]) (Nat.le_of_ble_eq_true rfl) rfl rfl) ?_
  exact rfl
theorem b113_4 {scr : List Int32} {w : zAW} {a0 : Nat} {x1 : Int32} {x2 : Int32} {x3 : Int32}  : zd scr 113 4 [some (.ref a0), some (.int x1), some (.int x2), some (.int x3)] [] w = if x3 < x1 then zd scr 113 9 [some (.ref a0), some (.int x1), some (.int x2), some (.int x3)] [] w else zd scr 113 36 [some (.ref a0), some (.int x1), some (.int x2), some (.int x3)] [] w := by
  refine Eq.trans (zd_iload_n zh113 rfl rfl) ?_
  refine Eq.trans (zd_iload_n zh113 rfl rfl) ?_
  exact zd_icmpge zh113 (t := 36) (by decide) rfl
set_option maxRecDepth 20000 in
theorem b113_9 {scr : List Int32} {w : zAW} {a0 : Nat} {x1 : Int32} {x2 : Int32} {x3 : Int32} (h1 : zob w a0 6 = true) {f1 : Int32} {w1 : zAW} (h2 : zC scr 95 [.ref a0, .int x3] w = some (some (.int f1), w1)) (h3 : zob w1 a0 6 = true) {f2 : Int32} {w2 : zAW} (h4 : zC scr 95 [.ref a0, .int x1] w1 = some (some (.int f2), w2)) : zd scr 113 9 [some (.ref a0), some (.int x1), some (.int x2), some (.int x3)] [] w = if f1 = f2 then zd scr 113 23 [some (.ref a0), some (.int x1), some (.int x2), some (.int x3)] [.int x2] w2 else zd scr 113 27 [some (.ref a0), some (.int x1), some (.int x2), some (.int x3)] [.int x2] w2 := by
  refine Eq.trans (zd_iload_n zh113 rfl rfl) ?_
  refine Eq.trans (zd_aload_n zh113 rfl rfl) ?_
  refine Eq.trans (zd_iload_n zh113 rfl rfl) ?_
  refine Eq.trans (zd_invVi zh113 zh95 rfl rfl ⟨Nat.le_of_ble_eq_true rfl, Nat.le_of_ble_eq_true rfl, Nat.le_of_ble_eq_true rfl, Nat.le_of_ble_eq_true rfl⟩ rfl h1 h2 rfl) ?_
  refine Eq.trans (zd_aload_n zh113 rfl rfl) ?_
  refine Eq.trans (zd_iload_n zh113 rfl rfl) ?_
  refine Eq.trans (zd_invVi zh113 zh95 rfl rfl ⟨Nat.le_of_ble_eq_true rfl, Nat.le_of_ble_eq_true rfl, Nat.le_of_ble_eq_true rfl, Nat.le_of_ble_eq_true rfl⟩ rfl h3 h4 rfl) ?_
  exact zd_icmpne zh113 (t := 27) (by decide) rfl
theorem b113_36 {scr : List Int32} {w : zAW} {a0 : Nat} {x1 : Int32} {x2 : Int32} {x3 : Int32}  : zd scr 113 36 [some (.ref a0), some (.int x1), some (.int x2), some (.int x3)] [] w = some (some (.int x2), w) := by
  refine Eq.trans (zd_iload_n zh113 rfl rfl) ?_
  exact zd_iret zh113 rfl rfl
theorem b113_23 {scr : List Int32} {w : zAW} {a0 : Nat} {x1 : Int32} {x2 : Int32} {x3 : Int32} {y0 : Int32}  : zd scr 113 23 [some (.ref a0), some (.int x1), some (.int x2), some (.int x3)] [.int y0] w = zd scr 113 4 [some (.ref a0), some (.int x1), some (.int (y0 + (nI 1))), some (.int (x3 + (nI 1)))] [] w := by
  refine Eq.trans (zd_iconst zh113 (v := (nI 1)) rfl rfl) ?_
  refine Eq.trans (zd_goto zh113 (t := 28) (by decide) rfl) ?_
  refine Eq.trans (zd_iadd zh113 rfl) ?_
  refine Eq.trans (zd_istore_n zh113 (ls' := [some (.ref a0), some (.int x1), some (.int (y0 + (nI 1))), some (.int x3)]) (Nat.le_of_ble_eq_true rfl) rfl rfl) ?_
  refine Eq.trans (zd_iinc zh113 (ls' := [some (.ref a0), some (.int x1), some (.int (y0 + (nI 1))), some (.int (x3 + (nI 1)))]) (v := (x3 + (nI 1))) rfl rfl rfl rfl) ?_
  refine Eq.trans (zd_goto zh113 (t := 4) (by decide) rfl) ?_
  exact rfl
theorem b113_27 {scr : List Int32} {w : zAW} {a0 : Nat} {x1 : Int32} {x2 : Int32} {x3 : Int32} {y0 : Int32}  : zd scr 113 27 [some (.ref a0), some (.int x1), some (.int x2), some (.int x3)] [.int y0] w = zd scr 113 4 [some (.ref a0), some (.int x1), some (.int (y0 + (nI 0))), some (.int (x3 + (nI 1)))] [] w := by
  refine Eq.trans (zd_iconst zh113 (v := (nI 0)) rfl rfl) ?_
  refine Eq.trans (zd_iadd zh113 rfl) ?_
  refine Eq.trans (zd_istore_n zh113 (ls' := [some (.ref a0), some (.int x1), some (.int (y0 + (nI 0))), some (.int x3)]) (Nat.le_of_ble_eq_true rfl) rfl rfl) ?_
  refine Eq.trans (zd_iinc zh113 (ls' := [some (.ref a0), some (.int x1), some (.int (y0 + (nI 0))), some (.int (x3 + (nI 1)))]) (v := (x3 + (nI 1))) rfl rfl rfl rfl) ?_
  refine Eq.trans (zd_goto zh113 (t := 4) (by decide) rfl) ?_
  exact rfl
/-! yX6_layBest: 114, MarbleHeirsModel.layBest()V -/
theorem b114_0 {scr : List Int32} {w : zAW} {a0 : Nat}  : zd scr 114 0 [some (.ref a0), none, none, none, none] [] w = zd scr 114 4 [some (.ref a0), some (.int (nI 0)), some (.int (nI 0)), none, none] [] w := by
  refine Eq.trans (zd_iconst zh114 (v := (nI 0)) rfl rfl) ?_
  refine Eq.trans (zd_istore_n zh114 (ls' := [some (.ref a0), some (.int (nI 0)), none, none, none]) (Nat.le_of_ble_eq_true rfl) rfl rfl) ?_
  refine Eq.trans (zd_iconst zh114 (v := (nI 0)) rfl rfl) ?_
  refine Eq.trans (zd_istore_n zh114 (ls' := [some (.ref a0), some (.int (nI 0)), some (.int (nI 0)), none, none]) (Nat.le_of_ble_eq_true rfl) rfl rfl) ?_
  exact rfl
theorem b114_4 {scr : List Int32} {w : zAW} {a0 : Nat} {x1 : Int32} {x2 : Int32} {v3 : Option Value} {v4 : Option Value} {g1 : Nat} (h1 : zgf w a0 6 0 = some (.ref g1)) {f2 : Int32} (h2 : zal w g1 (nI 0) = some f2) : zd scr 114 4 [some (.ref a0), some (.int x1), some (.int x2), v3, v4] [] w = if x2 < f2 then zd scr 114 14 [some (.ref a0), some (.int x1), some (.int x2), v3, v4] [] w else zd scr 114 79 [some (.ref a0), some (.int x1), some (.int x2), v3, v4] [] w := by
  refine Eq.trans (zd_iload_n zh114 rfl rfl) ?_
  refine Eq.trans (zd_aload_n zh114 rfl rfl) ?_
  refine Eq.trans (zd_getfield zh114 (ci := 6) (k := 0) rfl h1 rfl) ?_
  refine Eq.trans (zd_iconst zh114 (v := (nI 0)) rfl rfl) ?_
  refine Eq.trans (zd_iaload zh114 h2 rfl) ?_
  exact zd_icmpge zh114 (t := 79) (by decide) rfl
theorem b114_16 {scr : List Int32} {w : zAW} {a0 : Nat} {x1 : Int32} {x2 : Int32} {x3 : Int32} {v4 : Option Value} {g1 : Nat} (h1 : zgf w a0 6 0 = some (.ref g1)) {f2 : Int32} (h2 : zal w g1 (nI 7) = some f2) : zd scr 114 16 [some (.ref a0), some (.int x1), some (.int x2), some (.int x3), v4] [] w = if x3 < f2 then zd scr 114 27 [some (.ref a0), some (.int x1), some (.int x2), some (.int x3), v4] [] w else zd scr 114 73 [some (.ref a0), some (.int x1), some (.int x2), some (.int x3), v4] [] w := by
  refine Eq.trans (zd_iload_n zh114 rfl rfl) ?_
  refine Eq.trans (zd_aload_n zh114 rfl rfl) ?_
  refine Eq.trans (zd_getfield zh114 (ci := 6) (k := 0) rfl h1 rfl) ?_
  refine Eq.trans (zd_bipush zh114 (v := (nI 7)) rfl rfl) ?_
  refine Eq.trans (zd_iaload zh114 h2 rfl) ?_
  exact zd_icmpge zh114 (t := 73) (by decide) rfl
theorem b114_32 {scr : List Int32} {w : zAW} {a0 : Nat} {x1 : Int32} {x2 : Int32} {x3 : Int32} {x4 : Int32} {g1 : Nat} (h1 : zgf w a0 6 0 = some (.ref g1)) {f2 : Int32} (h2 : zal w g1 (nI 0) = some f2) : zd scr 114 32 [some (.ref a0), some (.int x1), some (.int x2), some (.int x3), some (.int x4)] [] w = if x4 < f2 then zd scr 114 43 [some (.ref a0), some (.int x1), some (.int x2), some (.int x3), some (.int x4)] [] w else zd scr 114 67 [some (.ref a0), some (.int x1), some (.int x2), some (.int x3), some (.int x4)] [] w := by
  refine Eq.trans (zd_iload zh114 rfl rfl) ?_
  refine Eq.trans (zd_aload_n zh114 rfl rfl) ?_
  refine Eq.trans (zd_getfield zh114 (ci := 6) (k := 0) rfl h1 rfl) ?_
  refine Eq.trans (zd_iconst zh114 (v := (nI 0)) rfl rfl) ?_
  refine Eq.trans (zd_iaload zh114 h2 rfl) ?_
  exact zd_icmpge zh114 (t := 67) (by decide) rfl
theorem b114_85 {scr : List Int32} {w : zAW} {a0 : Nat} {x1 : Int32} {x2 : Int32} {v3 : Option Value} {v4 : Option Value}  : zd scr 114 85 [some (.ref a0), some (.int x1), some (.int x2), v3, v4] [] w = if x2 < (nI 7) then zd scr 114 91 [some (.ref a0), some (.int x1), some (.int x2), v3, v4] [] w else zd scr 114 105 [some (.ref a0), some (.int x1), some (.int x2), v3, v4] [] w := by
  refine Eq.trans (zd_iload_n zh114 rfl rfl) ?_
  refine Eq.trans (zd_bipush zh114 (v := (nI 7)) rfl rfl) ?_
  exact zd_icmpge zh114 (t := 105) (by decide) rfl
theorem b114_14 {scr : List Int32} {w : zAW} {a0 : Nat} {x1 : Int32} {x2 : Int32} {v3 : Option Value} {v4 : Option Value}  : zd scr 114 14 [some (.ref a0), some (.int x1), some (.int x2), v3, v4] [] w = zd scr 114 16 [some (.ref a0), some (.int x1), some (.int x2), some (.int (nI 0)), v4] [] w := by
  refine Eq.trans (zd_iconst zh114 (v := (nI 0)) rfl rfl) ?_
  refine Eq.trans (zd_istore_n zh114 (ls' := [some (.ref a0), some (.int x1), some (.int x2), some (.int (nI 0)), v4]) (Nat.le_of_ble_eq_true rfl) rfl rfl) ?_
  exact rfl
theorem b114_79 {scr : List Int32} {w : zAW} {a0 : Nat} {x1 : Int32} {x2 : Int32} {v3 : Option Value} {v4 : Option Value}  : zd scr 114 79 [some (.ref a0), some (.int x1), some (.int x2), v3, v4] [] w = if x1 = 0 then zd scr 114 83 [some (.ref a0), some (.int x1), some (.int x2), v3, v4] [] w else zd scr 114 105 [some (.ref a0), some (.int x1), some (.int x2), v3, v4] [] w := by
  refine Eq.trans (zd_iload_n zh114 rfl rfl) ?_
  exact zd_ifne zh114 (t := 105) (by decide) rfl
theorem b114_27 {scr : List Int32} {w : zAW} {a0 : Nat} {x1 : Int32} {x2 : Int32} {x3 : Int32} {v4 : Option Value}  : zd scr 114 27 [some (.ref a0), some (.int x1), some (.int x2), some (.int x3), v4] [] w = zd scr 114 32 [some (.ref a0), some (.int x1), some (.int x2), some (.int x3), some (.int (x2 + (nI 1)))] [] w := by
  refine Eq.trans (zd_iload_n zh114 rfl rfl) ?_
  refine Eq.trans (zd_iconst zh114 (v := (nI 1)) rfl rfl) ?_
  refine Eq.trans (zd_iadd zh114 rfl) ?_
  refine Eq.trans (zd_istore zh114 (ls' := [some (.ref a0), some (.int x1), some (.int x2), some (.int x3), some (.int (x2 + (nI 1)))]) (Nat.le_of_ble_eq_true rfl) rfl rfl) ?_
  exact rfl
theorem b114_73 {scr : List Int32} {w : zAW} {a0 : Nat} {x1 : Int32} {x2 : Int32} {x3 : Int32} {v4 : Option Value}  : zd scr 114 73 [some (.ref a0), some (.int x1), some (.int x2), some (.int x3), v4] [] w = zd scr 114 4 [some (.ref a0), some (.int x1), some (.int (x2 + (nI 1))), some (.int x3), v4] [] w := by
  refine Eq.trans (zd_iinc zh114 (ls' := [some (.ref a0), some (.int x1), some (.int (x2 + (nI 1))), some (.int x3), v4]) (v := (x2 + (nI 1))) rfl rfl rfl rfl) ?_
  refine Eq.trans (zd_goto zh114 (t := 4) (by decide) rfl) ?_
  exact rfl
set_option maxRecDepth 20000 in
theorem b114_43 {scr : List Int32} {w : zAW} {a0 : Nat} {x1 : Int32} {x2 : Int32} {x3 : Int32} {x4 : Int32} (h1 : zob w a0 6 = true) {f1 : Int32} {w1 : zAW} (h2 : zC scr 95 [.ref a0, .int x3] w = some (some (.int f1), w1)) : zd scr 114 43 [some (.ref a0), some (.int x1), some (.int x2), some (.int x3), some (.int x4)] [] w = if f1 = x2 then zd scr 114 52 [some (.ref a0), some (.int x1), some (.int x2), some (.int x3), some (.int x4)] [] w1 else zd scr 114 67 [some (.ref a0), some (.int x1), some (.int x2), some (.int x3), some (.int x4)] [] w1 := by
  refine Eq.trans (zd_aload_n zh114 rfl rfl) ?_
  refine Eq.trans (zd_iload_n zh114 rfl rfl) ?_
  refine Eq.trans (zd_invVi zh114 zh95 rfl rfl ⟨Nat.le_of_ble_eq_true rfl, Nat.le_of_ble_eq_true rfl, Nat.le_of_ble_eq_true rfl, Nat.le_of_ble_eq_true rfl⟩ rfl h1 h2 rfl) ?_
  refine Eq.trans (zd_iload_n zh114 rfl rfl) ?_
  exact zd_icmpne zh114 (t := 67) (by decide) rfl
theorem b114_67 {scr : List Int32} {w : zAW} {a0 : Nat} {x1 : Int32} {x2 : Int32} {x3 : Int32} {x4 : Int32}  : zd scr 114 67 [some (.ref a0), some (.int x1), some (.int x2), some (.int x3), some (.int x4)] [] w = zd scr 114 16 [some (.ref a0), some (.int x1), some (.int x2), some (.int (x3 + (nI 1))), some (.int x4)] [] w := by
  refine Eq.trans (zd_iinc zh114 (ls' := [some (.ref a0), some (.int x1), some (.int x2), some (.int (x3 + (nI 1))), some (.int x4)]) (v := (x3 + (nI 1))) rfl rfl rfl rfl) ?_
  refine Eq.trans (zd_goto zh114 (t := 16) (by decide) rfl) ?_
  exact rfl
theorem b114_91 {scr : List Int32} {w : zAW} {a0 : Nat} {x1 : Int32} {x2 : Int32} {v3 : Option Value} {v4 : Option Value} {g1 : Nat} (h1 : zgf w a0 6 8 = some (.ref g1)) {w1 : zAW} (h2 : zas w g1 x2 (-6) = some w1) : zd scr 114 91 [some (.ref a0), some (.int x1), some (.int x2), v3, v4] [] w = zd scr 114 85 [some (.ref a0), some (.int x1), some (.int (x2 + (nI 1))), v3, v4] [] w1 := by
  refine Eq.trans (zd_aload_n zh114 rfl rfl) ?_
  refine Eq.trans (zd_getfield zh114 (ci := 6) (k := 8) rfl h1 rfl) ?_
  refine Eq.trans (zd_iload_n zh114 rfl rfl) ?_
  refine Eq.trans (zd_bipush zh114 (v := (-6)) rfl rfl) ?_
  refine Eq.trans (zd_iastore zh114 h2 rfl) ?_
  refine Eq.trans (zd_iinc zh114 (ls' := [some (.ref a0), some (.int x1), some (.int (x2 + (nI 1))), v3, v4]) (v := (x2 + (nI 1))) rfl rfl rfl rfl) ?_
  refine Eq.trans (zd_goto zh114 (t := 85) (by decide) rfl) ?_
  exact rfl
theorem b114_105 {scr : List Int32} {w : zAW} {a0 : Nat} {x1 : Int32} {x2 : Int32} {v3 : Option Value} {v4 : Option Value}  : zd scr 114 105 [some (.ref a0), some (.int x1), some (.int x2), v3, v4] [] w = some (none, w) := by
  exact zd_vret zh114 rfl rfl
theorem b114_83 {scr : List Int32} {w : zAW} {a0 : Nat} {x1 : Int32} {x2 : Int32} {v3 : Option Value} {v4 : Option Value}  : zd scr 114 83 [some (.ref a0), some (.int x1), some (.int x2), v3, v4] [] w = zd scr 114 85 [some (.ref a0), some (.int x1), some (.int (nI 0)), v3, v4] [] w := by
  refine Eq.trans (zd_iconst zh114 (v := (nI 0)) rfl rfl) ?_
  refine Eq.trans (zd_istore_n zh114 (ls' := [some (.ref a0), some (.int x1), some (.int (nI 0)), v3, v4]) (Nat.le_of_ble_eq_true rfl) rfl rfl) ?_
  exact rfl
set_option maxRecDepth 20000 in
theorem b114_52 {scr : List Int32} {w : zAW} {a0 : Nat} {x1 : Int32} {x2 : Int32} {x3 : Int32} {x4 : Int32} (h1 : zob w a0 6 = true) {f1 : Int32} {w1 : zAW} (h2 : zC scr 115 [.ref a0, .int x3, .int x4, .int x1] w = some (some (.int f1), w1)) : zd scr 114 52 [some (.ref a0), some (.int x1), some (.int x2), some (.int x3), some (.int x4)] [] w = zd scr 114 32 [some (.ref a0), some (.int f1), some (.int x2), some (.int x3), some (.int (x4 + (nI 1)))] [] w1 := by
  refine Eq.trans (zd_aload_n zh114 rfl rfl) ?_
  refine Eq.trans (zd_iload_n zh114 rfl rfl) ?_
  refine Eq.trans (zd_iload zh114 rfl rfl) ?_
  refine Eq.trans (zd_iload_n zh114 rfl rfl) ?_
  refine Eq.trans (zd_invVi zh114 zh115 rfl rfl ⟨Nat.le_of_ble_eq_true rfl, Nat.le_of_ble_eq_true rfl, Nat.le_of_ble_eq_true rfl, Nat.le_of_ble_eq_true rfl⟩ rfl h1 h2 rfl) ?_
  refine Eq.trans (zd_istore_n zh114 (ls' := [some (.ref a0), some (.int f1), some (.int x2), some (.int x3), some (.int x4)]) (Nat.le_of_ble_eq_true rfl) rfl rfl) ?_
  refine Eq.trans (zd_iinc zh114 (ls' := [some (.ref a0), some (.int f1), some (.int x2), some (.int x3), some (.int (x4 + (nI 1)))]) (v := (x4 + (nI 1))) rfl rfl rfl rfl) ?_
  refine Eq.trans (zd_goto zh114 (t := 32) (by decide) rfl) ?_
  exact rfl
/-! yX6_tries: 115, MarbleHeirsModel.tries(III)I -/
theorem b115_0 {scr : List Int32} {w : zAW} {a0 : Nat} {x1 : Int32} {x2 : Int32} {x3 : Int32}  : zd scr 115 0 [some (.ref a0), some (.int x1), some (.int x2), some (.int x3), none, none] [] w = zd scr 115 6 [some (.ref a0), some (.int x1), some (.int x2), some (.int x3), some (.int x3), some (.int (nI 0))] [] w := by
  refine Eq.trans (zd_iload_n zh115 rfl rfl) ?_
  refine Eq.trans (zd_istore zh115 (ls' := [some (.ref a0), some (.int x1), some (.int x2), some (.int x3), some (.int x3), none]) (Nat.le_of_ble_eq_true rfl) rfl rfl) ?_
  refine Eq.trans (zd_iconst zh115 (v := (nI 0)) rfl rfl) ?_
  refine Eq.trans (zd_istore zh115 (ls' := [some (.ref a0), some (.int x1), some (.int x2), some (.int x3), some (.int x3), some (.int (nI 0))]) (Nat.le_of_ble_eq_true rfl) rfl rfl) ?_
  exact rfl
theorem b115_6 {scr : List Int32} {w : zAW} {a0 : Nat} {x1 : Int32} {x2 : Int32} {x3 : Int32} {x4 : Int32} {x5 : Int32} {g1 : Nat} (h1 : zgf w a0 6 0 = some (.ref g1)) {f2 : Int32} (h2 : zal w g1 (nI 7) = some f2) : zd scr 115 6 [some (.ref a0), some (.int x1), some (.int x2), some (.int x3), some (.int x4), some (.int x5)] [] w = if x5 < f2 then zd scr 115 18 [some (.ref a0), some (.int x1), some (.int x2), some (.int x3), some (.int x4), some (.int x5)] [] w else zd scr 115 125 [some (.ref a0), some (.int x1), some (.int x2), some (.int x3), some (.int x4), some (.int x5)] [] w := by
  refine Eq.trans (zd_iload zh115 rfl rfl) ?_
  refine Eq.trans (zd_aload_n zh115 rfl rfl) ?_
  refine Eq.trans (zd_getfield zh115 (ci := 6) (k := 0) rfl h1 rfl) ?_
  refine Eq.trans (zd_bipush zh115 (v := (nI 7)) rfl rfl) ?_
  refine Eq.trans (zd_iaload zh115 h2 rfl) ?_
  exact zd_icmpge zh115 (t := 125) (by decide) rfl
set_option maxRecDepth 20000 in
theorem b115_18 {scr : List Int32} {w : zAW} {a0 : Nat} {x1 : Int32} {x2 : Int32} {x3 : Int32} {x4 : Int32} {x5 : Int32} (h1 : zob w a0 6 = true) {f1 : Int32} {w1 : zAW} (h2 : zC scr 95 [.ref a0, .int x5] w = some (some (.int f1), w1)) : zd scr 115 18 [some (.ref a0), some (.int x1), some (.int x2), some (.int x3), some (.int x4), some (.int x5)] [] w = if f1 = x2 then zd scr 115 28 [some (.ref a0), some (.int x1), some (.int x2), some (.int x3), some (.int x4), some (.int x5)] [] w1 else zd scr 115 119 [some (.ref a0), some (.int x1), some (.int x2), some (.int x3), some (.int x4), some (.int x5)] [] w1 := by
  refine Eq.trans (zd_aload_n zh115 rfl rfl) ?_
  refine Eq.trans (zd_iload zh115 rfl rfl) ?_
  refine Eq.trans (zd_invVi zh115 zh95 rfl rfl ⟨Nat.le_of_ble_eq_true rfl, Nat.le_of_ble_eq_true rfl, Nat.le_of_ble_eq_true rfl, Nat.le_of_ble_eq_true rfl⟩ rfl h1 h2 rfl) ?_
  refine Eq.trans (zd_iload_n zh115 rfl rfl) ?_
  exact zd_icmpne zh115 (t := 119) (by decide) rfl
theorem b115_125 {scr : List Int32} {w : zAW} {a0 : Nat} {x1 : Int32} {x2 : Int32} {x3 : Int32} {x4 : Int32} {x5 : Int32}  : zd scr 115 125 [some (.ref a0), some (.int x1), some (.int x2), some (.int x3), some (.int x4), some (.int x5)] [] w = some (some (.int x4), w) := by
  refine Eq.trans (zd_iload zh115 rfl rfl) ?_
  exact zd_iret zh115 rfl rfl
set_option maxRecDepth 20000 in
theorem b115_28 {scr : List Int32} {w : zAW} {a0 : Nat} {x1 : Int32} {x2 : Int32} {x3 : Int32} {x4 : Int32} {x5 : Int32} (h1 : zob w a0 6 = true) {f1 : Int32} {w1 : zAW} (h2 : zC scr 112 [.ref a0, .int x1, .int x5] w = some (some (.int f1), w1)) : zd scr 115 28 [some (.ref a0), some (.int x1), some (.int x2), some (.int x3), some (.int x4), some (.int x5)] [] w = if x4 < f1 then zd scr 115 40 [some (.ref a0), some (.int x1), some (.int x2), some (.int x3), some (.int x4), some (.int x5)] [] w1 else zd scr 115 119 [some (.ref a0), some (.int x1), some (.int x2), some (.int x3), some (.int x4), some (.int x5)] [] w1 := by
  refine Eq.trans (zd_aload_n zh115 rfl rfl) ?_
  refine Eq.trans (zd_iload_n zh115 rfl rfl) ?_
  refine Eq.trans (zd_iload zh115 rfl rfl) ?_
  refine Eq.trans (zd_invVi zh115 zh112 rfl rfl ⟨Nat.le_of_ble_eq_true rfl, Nat.le_of_ble_eq_true rfl, Nat.le_of_ble_eq_true rfl, Nat.le_of_ble_eq_true rfl⟩ rfl h1 h2 rfl) ?_
  refine Eq.trans (zd_iload zh115 rfl rfl) ?_
  exact zd_icmple zh115 (t := 119) (by decide) rfl
theorem b115_119 {scr : List Int32} {w : zAW} {a0 : Nat} {x1 : Int32} {x2 : Int32} {x3 : Int32} {x4 : Int32} {x5 : Int32}  : zd scr 115 119 [some (.ref a0), some (.int x1), some (.int x2), some (.int x3), some (.int x4), some (.int x5)] [] w = zd scr 115 6 [some (.ref a0), some (.int x1), some (.int x2), some (.int x3), some (.int x4), some (.int (x5 + (nI 1)))] [] w := by
  refine Eq.trans (zd_iinc zh115 (ls' := [some (.ref a0), some (.int x1), some (.int x2), some (.int x3), some (.int x4), some (.int (x5 + (nI 1)))]) (v := (x5 + (nI 1))) rfl rfl rfl rfl) ?_
  refine Eq.trans (zd_goto zh115 (t := 6) (by decide) rfl) ?_
  exact rfl
set_option maxRecDepth 20000 in
theorem b115_40 {scr : List Int32} {w : zAW} {a0 : Nat} {x1 : Int32} {x2 : Int32} {x3 : Int32} {x4 : Int32} {x5 : Int32} (h1 : zob w a0 6 = true) {f1 : Int32} {w1 : zAW} (h2 : zC scr 112 [.ref a0, .int x1, .int x5] w = some (some (.int f1), w1)) {g2 : Nat} (h3 : zgf w1 a0 6 8 = some (.ref g2)) (h4 : zob w1 a0 6 = true) {f3 : Int32} {w2 : zAW} (h5 : zC scr 95 [.ref a0, .int x1] w1 = some (some (.int f3), w2)) {w3 : zAW} (h6 : zas w2 g2 (nI 0) f3 = some w3) {g4 : Nat} (h7 : zgf w3 a0 6 8 = some (.ref g4)) (h8 : zob w3 a0 6 = true) {f5 : Int32} {w4 : zAW} (h9 : zC scr 113 [.ref a0, .int x1] w3 = some (some (.int f5), w4)) {w5 : zAW} (h10 : zas w4 g4 (nI 1) f5 = some w5) {g6 : Nat} (h11 : zgf w5 a0 6 8 = some (.ref g6)) {w6 : zAW} (h12 : zas w5 g6 (nI 2) x2 = some w6) {g7 : Nat} (h13 : zgf w6 a0 6 8 = some (.ref g7)) (h14 : zob w6 a0 6 = true) {f8 : Int32} {w7 : zAW} (h15 : zC scr 113 [.ref a0, .int x5] w6 = some (some (.int f8), w7)) {w8 : zAW} (h16 : zas w7 g7 (nI 3) f8 = some w8) {g9 : Nat} (h17 : zgf w8 a0 6 8 = some (.ref g9)) (h18 : zob w8 a0 6 = true) {f10 : Int32} {w9 : zAW} (h19 : zC scr 110 [.ref a0, .int x1, .int x5] w8 = some (some (.int f10), w9)) {w10 : zAW} (h20 : zas w9 g9 (nI 4) f10 = some w10) {g11 : Nat} (h21 : zgf w10 a0 6 8 = some (.ref g11)) {w11 : zAW} (h22 : zas w10 g11 (nI 5) x1 = some w11) {g12 : Nat} (h23 : zgf w11 a0 6 8 = some (.ref g12)) {w12 : zAW} (h24 : zas w11 g12 (nI 6) x5 = some w12) : zd scr 115 40 [some (.ref a0), some (.int x1), some (.int x2), some (.int x3), some (.int x4), some (.int x5)] [] w = zd scr 115 6 [some (.ref a0), some (.int x1), some (.int x2), some (.int x3), some (.int f1), some (.int (x5 + (nI 1)))] [] w12 := by
  refine Eq.trans (zd_aload_n zh115 rfl rfl) ?_
  refine Eq.trans (zd_iload_n zh115 rfl rfl) ?_
  refine Eq.trans (zd_iload zh115 rfl rfl) ?_
  refine Eq.trans (zd_invVi zh115 zh112 rfl rfl ⟨Nat.le_of_ble_eq_true rfl, Nat.le_of_ble_eq_true rfl, Nat.le_of_ble_eq_true rfl, Nat.le_of_ble_eq_true rfl⟩ rfl h1 h2 rfl) ?_
  refine Eq.trans (zd_istore zh115 (ls' := [some (.ref a0), some (.int x1), some (.int x2), some (.int x3), some (.int f1), some (.int x5)]) (Nat.le_of_ble_eq_true rfl) rfl rfl) ?_
  refine Eq.trans (zd_aload_n zh115 rfl rfl) ?_
  refine Eq.trans (zd_getfield zh115 (ci := 6) (k := 8) rfl h3 rfl) ?_
  refine Eq.trans (zd_iconst zh115 (v := (nI 0)) rfl rfl) ?_
  refine Eq.trans (zd_aload_n zh115 rfl rfl) ?_
  refine Eq.trans (zd_iload_n zh115 rfl rfl) ?_
  refine Eq.trans (zd_invVi zh115 zh95 rfl rfl ⟨Nat.le_of_ble_eq_true rfl, Nat.le_of_ble_eq_true rfl, Nat.le_of_ble_eq_true rfl, Nat.le_of_ble_eq_true rfl⟩ rfl h4 h5 rfl) ?_
  refine Eq.trans (zd_iastore zh115 h6 rfl) ?_
  refine Eq.trans (zd_aload_n zh115 rfl rfl) ?_
  refine Eq.trans (zd_getfield zh115 (ci := 6) (k := 8) rfl h7 rfl) ?_
  refine Eq.trans (zd_iconst zh115 (v := (nI 1)) rfl rfl) ?_
  refine Eq.trans (zd_aload_n zh115 rfl rfl) ?_
  refine Eq.trans (zd_iload_n zh115 rfl rfl) ?_
  refine Eq.trans (zd_invVi zh115 zh113 rfl rfl ⟨Nat.le_of_ble_eq_true rfl, Nat.le_of_ble_eq_true rfl, Nat.le_of_ble_eq_true rfl, Nat.le_of_ble_eq_true rfl⟩ rfl h8 h9 rfl) ?_
  refine Eq.trans (zd_iastore zh115 h10 rfl) ?_
  refine Eq.trans (zd_aload_n zh115 rfl rfl) ?_
  refine Eq.trans (zd_getfield zh115 (ci := 6) (k := 8) rfl h11 rfl) ?_
  refine Eq.trans (zd_iconst zh115 (v := (nI 2)) rfl rfl) ?_
  refine Eq.trans (zd_iload_n zh115 rfl rfl) ?_
  refine Eq.trans (zd_iastore zh115 h12 rfl) ?_
  refine Eq.trans (zd_aload_n zh115 rfl rfl) ?_
  refine Eq.trans (zd_getfield zh115 (ci := 6) (k := 8) rfl h13 rfl) ?_
  refine Eq.trans (zd_iconst zh115 (v := (nI 3)) rfl rfl) ?_
  refine Eq.trans (zd_aload_n zh115 rfl rfl) ?_
  refine Eq.trans (zd_iload zh115 rfl rfl) ?_
  refine Eq.trans (zd_invVi zh115 zh113 rfl rfl ⟨Nat.le_of_ble_eq_true rfl, Nat.le_of_ble_eq_true rfl, Nat.le_of_ble_eq_true rfl, Nat.le_of_ble_eq_true rfl⟩ rfl h14 h15 rfl) ?_
  refine Eq.trans (zd_iastore zh115 h16 rfl) ?_
  refine Eq.trans (zd_aload_n zh115 rfl rfl) ?_
  refine Eq.trans (zd_getfield zh115 (ci := 6) (k := 8) rfl h17 rfl) ?_
  refine Eq.trans (zd_iconst zh115 (v := (nI 4)) rfl rfl) ?_
  refine Eq.trans (zd_aload_n zh115 rfl rfl) ?_
  refine Eq.trans (zd_iload_n zh115 rfl rfl) ?_
  refine Eq.trans (zd_iload zh115 rfl rfl) ?_
  refine Eq.trans (zd_invVi zh115 zh110 rfl rfl ⟨Nat.le_of_ble_eq_true rfl, Nat.le_of_ble_eq_true rfl, Nat.le_of_ble_eq_true rfl, Nat.le_of_ble_eq_true rfl⟩ rfl h18 h19 rfl) ?_
  refine Eq.trans (zd_iastore zh115 h20 rfl) ?_
  refine Eq.trans (zd_aload_n zh115 rfl rfl) ?_
  refine Eq.trans (zd_getfield zh115 (ci := 6) (k := 8) rfl h21 rfl) ?_
  refine Eq.trans (zd_iconst zh115 (v := (nI 5)) rfl rfl) ?_
  refine Eq.trans (zd_iload_n zh115 rfl rfl) ?_
  refine Eq.trans (zd_iastore zh115 h22 rfl) ?_
  refine Eq.trans (zd_aload_n zh115 rfl rfl) ?_
  refine Eq.trans (zd_getfield zh115 (ci := 6) (k := 8) rfl h23 rfl) ?_
  refine Eq.trans (zd_bipush zh115 (v := (nI 6)) rfl rfl) ?_
  refine Eq.trans (zd_iload zh115 rfl rfl) ?_
  refine Eq.trans (zd_iastore zh115 h24 rfl) ?_
  refine Eq.trans (zd_iinc zh115 (ls' := [some (.ref a0), some (.int x1), some (.int x2), some (.int x3), some (.int f1), some (.int (x5 + (nI 1)))]) (v := (x5 + (nI 1))) rfl rfl rfl rfl) ?_
  refine Eq.trans (zd_goto zh115 (t := 6) (by decide) rfl) ?_
  exact rfl
/-! yX6_come: 116, MarbleHeirsModel.come(II)I -/
set_option maxRecDepth 20000 in
theorem b116_0 {scr : List Int32} {w : zAW} {a0 : Nat} {x1 : Int32} {x2 : Int32} {f1 : Int32} {w1 : zAW} (h1 : zC scr 89 [.int x1] w = some (some (.int f1), w1)) : zd scr 116 0 [some (.ref a0), some (.int x1), some (.int x2), none] [] w = if f1 = 0 then zd scr 116 7 [some (.ref a0), some (.int x1), some (.int x2), none] [] w1 else zd scr 116 9 [some (.ref a0), some (.int x1), some (.int x2), none] [] w1 := by
  refine Eq.trans (zd_iload_n zh116 rfl rfl) ?_
  refine Eq.trans (zd_invSi zh116 zh89 rfl rfl ⟨Nat.le_of_ble_eq_true rfl, Nat.le_of_ble_eq_true rfl, Nat.le_of_ble_eq_true rfl, Nat.le_of_ble_eq_true rfl, Nat.le_of_ble_eq_true rfl⟩ rfl h1 rfl) ?_
  exact zd_ifne zh116 (t := 9) (by decide) rfl
theorem b116_7 {scr : List Int32} {w : zAW} {a0 : Nat} {x1 : Int32} {x2 : Int32}  : zd scr 116 7 [some (.ref a0), some (.int x1), some (.int x2), none] [] w = some (some (.int (-1)), w) := by
  refine Eq.trans (zd_iconst zh116 (v := (-1)) rfl rfl) ?_
  exact zd_iret zh116 rfl rfl
set_option maxRecDepth 20000 in
theorem b116_9 {scr : List Int32} {w : zAW} {a0 : Nat} {x1 : Int32} {x2 : Int32} {f1 : Int32} {w1 : zAW} (h1 : zC scr 90 [.int x2] w = some (some (.int f1), w1)) : zd scr 116 9 [some (.ref a0), some (.int x1), some (.int x2), none] [] w = if f1 = 0 then zd scr 116 16 [some (.ref a0), some (.int x1), some (.int x2), none] [] w1 else zd scr 116 19 [some (.ref a0), some (.int x1), some (.int x2), none] [] w1 := by
  refine Eq.trans (zd_iload_n zh116 rfl rfl) ?_
  refine Eq.trans (zd_invSi zh116 zh90 rfl rfl ⟨Nat.le_of_ble_eq_true rfl, Nat.le_of_ble_eq_true rfl, Nat.le_of_ble_eq_true rfl, Nat.le_of_ble_eq_true rfl, Nat.le_of_ble_eq_true rfl⟩ rfl h1 rfl) ?_
  exact zd_ifne zh116 (t := 19) (by decide) rfl
theorem b116_16 {scr : List Int32} {w : zAW} {a0 : Nat} {x1 : Int32} {x2 : Int32}  : zd scr 116 16 [some (.ref a0), some (.int x1), some (.int x2), none] [] w = some (some (.int (-2)), w) := by
  refine Eq.trans (zd_bipush zh116 (v := (-2)) rfl rfl) ?_
  exact zd_iret zh116 rfl rfl
theorem b116_19 {scr : List Int32} {w : zAW} {a0 : Nat} {x1 : Int32} {x2 : Int32} {g1 : Nat} (h1 : zgf w a0 6 0 = some (.ref g1)) {f2 : Int32} (h2 : zal w g1 (nI 0) = some f2) : zd scr 116 19 [some (.ref a0), some (.int x1), some (.int x2), none] [] w = if f2 = (nI 6) then zd scr 116 30 [some (.ref a0), some (.int x1), some (.int x2), none] [] w else zd scr 116 33 [some (.ref a0), some (.int x1), some (.int x2), none] [] w := by
  refine Eq.trans (zd_aload_n zh116 rfl rfl) ?_
  refine Eq.trans (zd_getfield zh116 (ci := 6) (k := 0) rfl h1 rfl) ?_
  refine Eq.trans (zd_iconst zh116 (v := (nI 0)) rfl rfl) ?_
  refine Eq.trans (zd_iaload zh116 h2 rfl) ?_
  refine Eq.trans (zd_bipush zh116 (v := (nI 6)) rfl rfl) ?_
  exact zd_icmpne zh116 (t := 33) (by decide) rfl
theorem b116_30 {scr : List Int32} {w : zAW} {a0 : Nat} {x1 : Int32} {x2 : Int32}  : zd scr 116 30 [some (.ref a0), some (.int x1), some (.int x2), none] [] w = some (some (.int (-4)), w) := by
  refine Eq.trans (zd_bipush zh116 (v := (-4)) rfl rfl) ?_
  exact zd_iret zh116 rfl rfl
set_option maxRecDepth 20000 in
theorem b116_33 {scr : List Int32} {w : zAW} {a0 : Nat} {x1 : Int32} {x2 : Int32} (h1 : zob w a0 6 = true) {w1 : zAW} (h2 : zC scr 92 [.ref a0] w = some (none, w1)) {g1 : Nat} (h3 : zgf w1 a0 6 0 = some (.ref g1)) {f2 : Int32} (h4 : zal w1 g1 (nI 0) = some f2) {g3 : Nat} (h5 : zgf w1 a0 6 0 = some (.ref g3)) {f4 : Int32} (h6 : zal w1 g3 (nI 0) = some f4) {w2 : zAW} (h7 : zas w1 g3 (nI 0) (f4 + (nI 1)) = some w2) {g5 : Nat} (h8 : zgf w2 a0 6 0 = some (.ref g5)) {w3 : zAW} (h9 : zas w2 g5 (((nI 12) + ((nI 2) * f2)) + (nI 0)) x1 = some w3) {g6 : Nat} (h10 : zgf w3 a0 6 0 = some (.ref g6)) {w4 : zAW} (h11 : zas w3 g6 (((nI 12) + ((nI 2) * f2)) + (nI 1)) x2 = some w4) {g7 : Nat} (h12 : zgf w4 a0 6 0 = some (.ref g7)) {w5 : zAW} (h13 : zas w4 g7 ((nI 24) + f2) f2 = some w5) : zd scr 116 33 [some (.ref a0), some (.int x1), some (.int x2), none] [] w = some (some (.int f2), w5) := by
  refine Eq.trans (zd_aload_n zh116 rfl rfl) ?_
  refine Eq.trans (zd_invVv zh116 zh92 rfl rfl ⟨Nat.le_of_ble_eq_true rfl, Nat.le_of_ble_eq_true rfl, Nat.le_of_ble_eq_true rfl, Nat.le_of_ble_eq_true rfl⟩ rfl h1 h2 rfl) ?_
  refine Eq.trans (zd_aload_n zh116 rfl rfl) ?_
  refine Eq.trans (zd_getfield zh116 (ci := 6) (k := 0) rfl h3 rfl) ?_
  refine Eq.trans (zd_iconst zh116 (v := (nI 0)) rfl rfl) ?_
  refine Eq.trans (zd_iaload zh116 h4 rfl) ?_
  refine Eq.trans (zd_istore_n zh116 (ls' := [some (.ref a0), some (.int x1), some (.int x2), some (.int f2)]) (Nat.le_of_ble_eq_true rfl) rfl rfl) ?_
  refine Eq.trans (zd_aload_n zh116 rfl rfl) ?_
  refine Eq.trans (zd_getfield zh116 (ci := 6) (k := 0) rfl h5 rfl) ?_
  refine Eq.trans (zd_iconst zh116 (v := (nI 0)) rfl rfl) ?_
  refine Eq.trans (zd_dup2 zh116 rfl) ?_
  refine Eq.trans (zd_iaload zh116 h6 rfl) ?_
  refine Eq.trans (zd_iconst zh116 (v := (nI 1)) rfl rfl) ?_
  refine Eq.trans (zd_iadd zh116 rfl) ?_
  refine Eq.trans (zd_iastore zh116 h7 rfl) ?_
  refine Eq.trans (zd_aload_n zh116 rfl rfl) ?_
  refine Eq.trans (zd_getfield zh116 (ci := 6) (k := 0) rfl h8 rfl) ?_
  refine Eq.trans (zd_bipush zh116 (v := (nI 12)) rfl rfl) ?_
  refine Eq.trans (zd_iconst zh116 (v := (nI 2)) rfl rfl) ?_
  refine Eq.trans (zd_iload_n zh116 rfl rfl) ?_
  refine Eq.trans (zd_imul zh116 rfl) ?_
  refine Eq.trans (zd_iadd zh116 rfl) ?_
  refine Eq.trans (zd_iconst zh116 (v := (nI 0)) rfl rfl) ?_
  refine Eq.trans (zd_iadd zh116 rfl) ?_
  refine Eq.trans (zd_iload_n zh116 rfl rfl) ?_
  refine Eq.trans (zd_iastore zh116 h9 rfl) ?_
  refine Eq.trans (zd_aload_n zh116 rfl rfl) ?_
  refine Eq.trans (zd_getfield zh116 (ci := 6) (k := 0) rfl h10 rfl) ?_
  refine Eq.trans (zd_bipush zh116 (v := (nI 12)) rfl rfl) ?_
  refine Eq.trans (zd_iconst zh116 (v := (nI 2)) rfl rfl) ?_
  refine Eq.trans (zd_iload_n zh116 rfl rfl) ?_
  refine Eq.trans (zd_imul zh116 rfl) ?_
  refine Eq.trans (zd_iadd zh116 rfl) ?_
  refine Eq.trans (zd_iconst zh116 (v := (nI 1)) rfl rfl) ?_
  refine Eq.trans (zd_iadd zh116 rfl) ?_
  refine Eq.trans (zd_iload_n zh116 rfl rfl) ?_
  refine Eq.trans (zd_iastore zh116 h11 rfl) ?_
  refine Eq.trans (zd_aload_n zh116 rfl rfl) ?_
  refine Eq.trans (zd_getfield zh116 (ci := 6) (k := 0) rfl h12 rfl) ?_
  refine Eq.trans (zd_bipush zh116 (v := (nI 24)) rfl rfl) ?_
  refine Eq.trans (zd_iload_n zh116 rfl rfl) ?_
  refine Eq.trans (zd_iadd zh116 rfl) ?_
  refine Eq.trans (zd_iload_n zh116 rfl rfl) ?_
  refine Eq.trans (zd_iastore zh116 h13 rfl) ?_
  refine Eq.trans (zd_iload_n zh116 rfl rfl) ?_
  exact zd_iret zh116 rfl rfl
/-! yX6_goBack: 117, MarbleHeirsModel.goBack(I)V -/
theorem b117_0 {scr : List Int32} {w : zAW} {a0 : Nat} {x1 : Int32}  : zd scr 117 0 [some (.ref a0), some (.int x1), none, none, none] [] w = zd scr 117 4 [some (.ref a0), some (.int x1), some (.int (nI 0)), some (.int (nI 0)), none] [] w := by
  refine Eq.trans (zd_iconst zh117 (v := (nI 0)) rfl rfl) ?_
  refine Eq.trans (zd_istore_n zh117 (ls' := [some (.ref a0), some (.int x1), some (.int (nI 0)), none, none]) (Nat.le_of_ble_eq_true rfl) rfl rfl) ?_
  refine Eq.trans (zd_iconst zh117 (v := (nI 0)) rfl rfl) ?_
  refine Eq.trans (zd_istore_n zh117 (ls' := [some (.ref a0), some (.int x1), some (.int (nI 0)), some (.int (nI 0)), none]) (Nat.le_of_ble_eq_true rfl) rfl rfl) ?_
  exact rfl
theorem b117_4 {scr : List Int32} {w : zAW} {a0 : Nat} {x1 : Int32} {x2 : Int32} {x3 : Int32} {v4 : Option Value} {g1 : Nat} (h1 : zgf w a0 6 0 = some (.ref g1)) {f2 : Int32} (h2 : zal w g1 (nI 7) = some f2) : zd scr 117 4 [some (.ref a0), some (.int x1), some (.int x2), some (.int x3), v4] [] w = if x3 < f2 then zd scr 117 15 [some (.ref a0), some (.int x1), some (.int x2), some (.int x3), v4] [] w else zd scr 117 106 [some (.ref a0), some (.int x1), some (.int x2), some (.int x3), v4] [] w := by
  refine Eq.trans (zd_iload_n zh117 rfl rfl) ?_
  refine Eq.trans (zd_aload_n zh117 rfl rfl) ?_
  refine Eq.trans (zd_getfield zh117 (ci := 6) (k := 0) rfl h1 rfl) ?_
  refine Eq.trans (zd_bipush zh117 (v := (nI 7)) rfl rfl) ?_
  refine Eq.trans (zd_iaload zh117 h2 rfl) ?_
  exact zd_icmpge zh117 (t := 106) (by decide) rfl
theorem b117_108 {scr : List Int32} {w : zAW} {a0 : Nat} {x1 : Int32} {x2 : Int32} {x3 : Int32} {v4 : Option Value} {g1 : Nat} (h1 : zgf w a0 6 0 = some (.ref g1)) {f2 : Int32} (h2 : zal w g1 (nI 7) = some f2) : zd scr 117 108 [some (.ref a0), some (.int x1), some (.int x2), some (.int x3), v4] [] w = if x3 < f2 then zd scr 117 119 [some (.ref a0), some (.int x1), some (.int x2), some (.int x3), v4] [] w else zd scr 117 135 [some (.ref a0), some (.int x1), some (.int x2), some (.int x3), v4] [] w := by
  refine Eq.trans (zd_iload_n zh117 rfl rfl) ?_
  refine Eq.trans (zd_aload_n zh117 rfl rfl) ?_
  refine Eq.trans (zd_getfield zh117 (ci := 6) (k := 0) rfl h1 rfl) ?_
  refine Eq.trans (zd_bipush zh117 (v := (nI 7)) rfl rfl) ?_
  refine Eq.trans (zd_iaload zh117 h2 rfl) ?_
  exact zd_icmpge zh117 (t := 135) (by decide) rfl
theorem b117_15 {scr : List Int32} {w : zAW} {a0 : Nat} {x1 : Int32} {x2 : Int32} {x3 : Int32} {v4 : Option Value} {g1 : Nat} (h1 : zgf w a0 6 0 = some (.ref g1)) {f2 : Int32} (h2 : zal w g1 ((nI 70) + x3) = some f2) : zd scr 117 15 [some (.ref a0), some (.int x1), some (.int x2), some (.int x3), v4] [] w = if (f2 / (nI 100)) = x1 then zd scr 117 35 [some (.ref a0), some (.int x1), some (.int x2), some (.int x3), some (.int f2)] [] w else zd scr 117 69 [some (.ref a0), some (.int x1), some (.int x2), some (.int x3), some (.int f2)] [] w := by
  refine Eq.trans (zd_aload_n zh117 rfl rfl) ?_
  refine Eq.trans (zd_getfield zh117 (ci := 6) (k := 0) rfl h1 rfl) ?_
  refine Eq.trans (zd_bipush zh117 (v := (nI 70)) rfl rfl) ?_
  refine Eq.trans (zd_iload_n zh117 rfl rfl) ?_
  refine Eq.trans (zd_iadd zh117 rfl) ?_
  refine Eq.trans (zd_iaload zh117 h2 rfl) ?_
  refine Eq.trans (zd_istore zh117 (ls' := [some (.ref a0), some (.int x1), some (.int x2), some (.int x3), some (.int f2)]) (Nat.le_of_ble_eq_true rfl) rfl rfl) ?_
  refine Eq.trans (zd_iload zh117 rfl rfl) ?_
  refine Eq.trans (zd_bipush zh117 (v := (nI 100)) rfl rfl) ?_
  refine Eq.trans (zd_idiv zh117 (by decide) rfl) ?_
  refine Eq.trans (zd_iload_n zh117 rfl rfl) ?_
  exact zd_icmpne zh117 (t := 69) (by decide) rfl
theorem b117_106 {scr : List Int32} {w : zAW} {a0 : Nat} {x1 : Int32} {x2 : Int32} {x3 : Int32} {v4 : Option Value}  : zd scr 117 106 [some (.ref a0), some (.int x1), some (.int x2), some (.int x3), v4] [] w = zd scr 117 108 [some (.ref a0), some (.int x1), some (.int x2), some (.int x2), v4] [] w := by
  refine Eq.trans (zd_iload_n zh117 rfl rfl) ?_
  refine Eq.trans (zd_istore_n zh117 (ls' := [some (.ref a0), some (.int x1), some (.int x2), some (.int x2), v4]) (Nat.le_of_ble_eq_true rfl) rfl rfl) ?_
  exact rfl
theorem b117_119 {scr : List Int32} {w : zAW} {a0 : Nat} {x1 : Int32} {x2 : Int32} {x3 : Int32} {v4 : Option Value} {g1 : Nat} (h1 : zgf w a0 6 0 = some (.ref g1)) {w1 : zAW} (h2 : zas w g1 ((nI 70) + x3) (nI 0) = some w1) : zd scr 117 119 [some (.ref a0), some (.int x1), some (.int x2), some (.int x3), v4] [] w = zd scr 117 108 [some (.ref a0), some (.int x1), some (.int x2), some (.int (x3 + (nI 1))), v4] [] w1 := by
  refine Eq.trans (zd_aload_n zh117 rfl rfl) ?_
  refine Eq.trans (zd_getfield zh117 (ci := 6) (k := 0) rfl h1 rfl) ?_
  refine Eq.trans (zd_bipush zh117 (v := (nI 70)) rfl rfl) ?_
  refine Eq.trans (zd_iload_n zh117 rfl rfl) ?_
  refine Eq.trans (zd_iadd zh117 rfl) ?_
  refine Eq.trans (zd_iconst zh117 (v := (nI 0)) rfl rfl) ?_
  refine Eq.trans (zd_iastore zh117 h2 rfl) ?_
  refine Eq.trans (zd_iinc zh117 (ls' := [some (.ref a0), some (.int x1), some (.int x2), some (.int (x3 + (nI 1))), v4]) (v := (x3 + (nI 1))) rfl rfl rfl rfl) ?_
  refine Eq.trans (zd_goto zh117 (t := 108) (by decide) rfl) ?_
  exact rfl
theorem b117_135 {scr : List Int32} {w : zAW} {a0 : Nat} {x1 : Int32} {x2 : Int32} {x3 : Int32} {v4 : Option Value} {g1 : Nat} (h1 : zgf w a0 6 0 = some (.ref g1)) {w1 : zAW} (h2 : zas w g1 (nI 7) x2 = some w1) : zd scr 117 135 [some (.ref a0), some (.int x1), some (.int x2), some (.int x3), v4] [] w = some (none, w1) := by
  refine Eq.trans (zd_aload_n zh117 rfl rfl) ?_
  refine Eq.trans (zd_getfield zh117 (ci := 6) (k := 0) rfl h1 rfl) ?_
  refine Eq.trans (zd_bipush zh117 (v := (nI 7)) rfl rfl) ?_
  refine Eq.trans (zd_iload_n zh117 rfl rfl) ?_
  refine Eq.trans (zd_iastore zh117 h2 rfl) ?_
  exact zd_vret zh117 rfl rfl
theorem b117_35 {scr : List Int32} {w : zAW} {a0 : Nat} {x1 : Int32} {x2 : Int32} {x3 : Int32} {x4 : Int32} {g1 : Nat} (h1 : zgf w a0 6 0 = some (.ref g1)) {g2 : Nat} (h2 : zgf w a0 6 0 = some (.ref g2)) {f3 : Int32} (h3 : zal w g2 (nI 6) = some f3) {w1 : zAW} (h4 : zas w g1 ((nI 30) + f3) (zrem x4 (nI 100)) = some w1) {g4 : Nat} (h5 : zgf w1 a0 6 0 = some (.ref g4)) {f5 : Int32} (h6 : zal w1 g4 (nI 6) = some f5) {w2 : zAW} (h7 : zas w1 g4 (nI 6) (f5 + (nI 1)) = some w2) : zd scr 117 35 [some (.ref a0), some (.int x1), some (.int x2), some (.int x3), some (.int x4)] [] w = zd scr 117 4 [some (.ref a0), some (.int x1), some (.int x2), some (.int (x3 + (nI 1))), some (.int x4)] [] w2 := by
  refine Eq.trans (zd_aload_n zh117 rfl rfl) ?_
  refine Eq.trans (zd_getfield zh117 (ci := 6) (k := 0) rfl h1 rfl) ?_
  refine Eq.trans (zd_bipush zh117 (v := (nI 30)) rfl rfl) ?_
  refine Eq.trans (zd_aload_n zh117 rfl rfl) ?_
  refine Eq.trans (zd_getfield zh117 (ci := 6) (k := 0) rfl h2 rfl) ?_
  refine Eq.trans (zd_bipush zh117 (v := (nI 6)) rfl rfl) ?_
  refine Eq.trans (zd_iaload zh117 h3 rfl) ?_
  refine Eq.trans (zd_iadd zh117 rfl) ?_
  refine Eq.trans (zd_iload zh117 rfl rfl) ?_
  refine Eq.trans (zd_bipush zh117 (v := (nI 100)) rfl rfl) ?_
  refine Eq.trans (zd_irem zh117 (by decide) rfl) ?_
  refine Eq.trans (zd_iastore zh117 h4 rfl) ?_
  refine Eq.trans (zd_aload_n zh117 rfl rfl) ?_
  refine Eq.trans (zd_getfield zh117 (ci := 6) (k := 0) rfl h5 rfl) ?_
  refine Eq.trans (zd_bipush zh117 (v := (nI 6)) rfl rfl) ?_
  refine Eq.trans (zd_dup2 zh117 rfl) ?_
  refine Eq.trans (zd_iaload zh117 h6 rfl) ?_
  refine Eq.trans (zd_iconst zh117 (v := (nI 1)) rfl rfl) ?_
  refine Eq.trans (zd_iadd zh117 rfl) ?_
  refine Eq.trans (zd_iastore zh117 h7 rfl) ?_
  refine Eq.trans (zd_goto zh117 (t := 100) (by decide) rfl) ?_
  refine Eq.trans (zd_iinc zh117 (ls' := [some (.ref a0), some (.int x1), some (.int x2), some (.int (x3 + (nI 1))), some (.int x4)]) (v := (x3 + (nI 1))) rfl rfl rfl rfl) ?_
  refine Eq.trans (zd_goto zh117 (t := 4) (by decide) rfl) ?_
  exact rfl
theorem b117_69 {scr : List Int32} {w : zAW} {a0 : Nat} {x1 : Int32} {x2 : Int32} {x3 : Int32} {x4 : Int32} {g1 : Nat} (h1 : zgf w a0 6 0 = some (.ref g1)) : zd scr 117 69 [some (.ref a0), some (.int x1), some (.int x2), some (.int x3), some (.int x4)] [] w = if x1 < (x4 / (nI 100)) then zd scr 117 86 [some (.ref a0), some (.int x1), some (.int x2), some (.int x3), some (.int x4)] [.int ((nI 70) + x2), .ref g1] w else zd scr 117 94 [some (.ref a0), some (.int x1), some (.int x2), some (.int x3), some (.int x4)] [.int ((nI 70) + x2), .ref g1] w := by
  refine Eq.trans (zd_aload_n zh117 rfl rfl) ?_
  refine Eq.trans (zd_getfield zh117 (ci := 6) (k := 0) rfl h1 rfl) ?_
  refine Eq.trans (zd_bipush zh117 (v := (nI 70)) rfl rfl) ?_
  refine Eq.trans (zd_iload_n zh117 rfl rfl) ?_
  refine Eq.trans (zd_iadd zh117 rfl) ?_
  refine Eq.trans (zd_iload zh117 rfl rfl) ?_
  refine Eq.trans (zd_bipush zh117 (v := (nI 100)) rfl rfl) ?_
  refine Eq.trans (zd_idiv zh117 (by decide) rfl) ?_
  refine Eq.trans (zd_iload_n zh117 rfl rfl) ?_
  exact zd_icmple zh117 (t := 94) (by decide) rfl
theorem b117_86 {scr : List Int32} {w : zAW} {a0 : Nat} {x1 : Int32} {x2 : Int32} {x3 : Int32} {x4 : Int32} {c0 : Nat} {y1 : Int32} {w1 : zAW} (h1 : zas w c0 y1 (x4 - (nI 100)) = some w1) : zd scr 117 86 [some (.ref a0), some (.int x1), some (.int x2), some (.int x3), some (.int x4)] [.int y1, .ref c0] w = zd scr 117 4 [some (.ref a0), some (.int x1), some (.int (x2 + (nI 1))), some (.int (x3 + (nI 1))), some (.int x4)] [] w1 := by
  refine Eq.trans (zd_iload zh117 rfl rfl) ?_
  refine Eq.trans (zd_bipush zh117 (v := (nI 100)) rfl rfl) ?_
  refine Eq.trans (zd_isub zh117 rfl) ?_
  refine Eq.trans (zd_goto zh117 (t := 96) (by decide) rfl) ?_
  refine Eq.trans (zd_iastore zh117 h1 rfl) ?_
  refine Eq.trans (zd_iinc zh117 (ls' := [some (.ref a0), some (.int x1), some (.int (x2 + (nI 1))), some (.int x3), some (.int x4)]) (v := (x2 + (nI 1))) rfl rfl rfl rfl) ?_
  refine Eq.trans (zd_iinc zh117 (ls' := [some (.ref a0), some (.int x1), some (.int (x2 + (nI 1))), some (.int (x3 + (nI 1))), some (.int x4)]) (v := (x3 + (nI 1))) rfl rfl rfl rfl) ?_
  refine Eq.trans (zd_goto zh117 (t := 4) (by decide) rfl) ?_
  exact rfl
theorem b117_94 {scr : List Int32} {w : zAW} {a0 : Nat} {x1 : Int32} {x2 : Int32} {x3 : Int32} {x4 : Int32} {c0 : Nat} {y1 : Int32} {w1 : zAW} (h1 : zas w c0 y1 x4 = some w1) : zd scr 117 94 [some (.ref a0), some (.int x1), some (.int x2), some (.int x3), some (.int x4)] [.int y1, .ref c0] w = zd scr 117 4 [some (.ref a0), some (.int x1), some (.int (x2 + (nI 1))), some (.int (x3 + (nI 1))), some (.int x4)] [] w1 := by
  refine Eq.trans (zd_iload zh117 rfl rfl) ?_
  refine Eq.trans (zd_iastore zh117 h1 rfl) ?_
  refine Eq.trans (zd_iinc zh117 (ls' := [some (.ref a0), some (.int x1), some (.int (x2 + (nI 1))), some (.int x3), some (.int x4)]) (v := (x2 + (nI 1))) rfl rfl rfl rfl) ?_
  refine Eq.trans (zd_iinc zh117 (ls' := [some (.ref a0), some (.int x1), some (.int (x2 + (nI 1))), some (.int (x3 + (nI 1))), some (.int x4)]) (v := (x3 + (nI 1))) rfl rfl rfl rfl) ?_
  refine Eq.trans (zd_goto zh117 (t := 4) (by decide) rfl) ?_
  exact rfl
/-! yX6_leave: 118, MarbleHeirsModel.leave(I)I -/
set_option maxRecDepth 20000 in
theorem b118_0 {scr : List Int32} {w : zAW} {a0 : Nat} {x1 : Int32} (h1 : zob w a0 6 = true) {f1 : Int32} {w1 : zAW} (h2 : zC scr 88 [.ref a0, .int x1] w = some (some (.int f1), w1)) : zd scr 118 0 [some (.ref a0), some (.int x1), none, none, none, none] [] w = if f1 = 0 then zd scr 118 8 [some (.ref a0), some (.int x1), none, none, none, none] [] w1 else zd scr 118 10 [some (.ref a0), some (.int x1), none, none, none, none] [] w1 := by
  refine Eq.trans (zd_aload_n zh118 rfl rfl) ?_
  refine Eq.trans (zd_iload_n zh118 rfl rfl) ?_
  refine Eq.trans (zd_invVi zh118 zh88 rfl rfl ⟨Nat.le_of_ble_eq_true rfl, Nat.le_of_ble_eq_true rfl, Nat.le_of_ble_eq_true rfl, Nat.le_of_ble_eq_true rfl⟩ rfl h1 h2 rfl) ?_
  exact zd_ifne zh118 (t := 10) (by decide) rfl
theorem b118_47 {scr : List Int32} {w : zAW} {a0 : Nat} {x1 : Int32} {x2 : Int32} {x3 : Int32} {x4 : Int32} {v5 : Option Value} {g1 : Nat} (h1 : zgf w a0 6 0 = some (.ref g1)) {f2 : Int32} (h2 : zal w g1 (nI 0) = some f2) : zd scr 118 47 [some (.ref a0), some (.int x1), some (.int x2), some (.int x3), some (.int x4), v5] [] w = if x4 < f2 then zd scr 118 58 [some (.ref a0), some (.int x1), some (.int x2), some (.int x3), some (.int x4), v5] [] w else zd scr 118 109 [some (.ref a0), some (.int x1), some (.int x2), some (.int x3), some (.int x4), v5] [] w := by
  refine Eq.trans (zd_iload zh118 rfl rfl) ?_
  refine Eq.trans (zd_aload_n zh118 rfl rfl) ?_
  refine Eq.trans (zd_getfield zh118 (ci := 6) (k := 0) rfl h1 rfl) ?_
  refine Eq.trans (zd_iconst zh118 (v := (nI 0)) rfl rfl) ?_
  refine Eq.trans (zd_iaload zh118 h2 rfl) ?_
  exact zd_icmpge zh118 (t := 109) (by decide) rfl
theorem b118_142 {scr : List Int32} {w : zAW} {a0 : Nat} {x1 : Int32} {x2 : Int32} {x3 : Int32} {x4 : Int32} {v5 : Option Value} {g1 : Nat} (h1 : zgf w a0 6 0 = some (.ref g1)) {f2 : Int32} (h2 : zal w g1 (nI 0) = some f2) : zd scr 118 142 [some (.ref a0), some (.int x1), some (.int x2), some (.int x3), some (.int x4), v5] [] w = if x4 < ((nI 12) + ((nI 2) * f2)) then zd scr 118 158 [some (.ref a0), some (.int x1), some (.int x2), some (.int x3), some (.int x4), v5] [] w else zd scr 118 180 [some (.ref a0), some (.int x1), some (.int x2), some (.int x3), some (.int x4), v5] [] w := by
  refine Eq.trans (zd_iload zh118 rfl rfl) ?_
  refine Eq.trans (zd_bipush zh118 (v := (nI 12)) rfl rfl) ?_
  refine Eq.trans (zd_iconst zh118 (v := (nI 2)) rfl rfl) ?_
  refine Eq.trans (zd_aload_n zh118 rfl rfl) ?_
  refine Eq.trans (zd_getfield zh118 (ci := 6) (k := 0) rfl h1 rfl) ?_
  refine Eq.trans (zd_iconst zh118 (v := (nI 0)) rfl rfl) ?_
  refine Eq.trans (zd_iaload zh118 h2 rfl) ?_
  refine Eq.trans (zd_imul zh118 rfl) ?_
  refine Eq.trans (zd_iadd zh118 rfl) ?_
  exact zd_icmpge zh118 (t := 180) (by decide) rfl
theorem b118_8 {scr : List Int32} {w : zAW} {a0 : Nat} {x1 : Int32}  : zd scr 118 8 [some (.ref a0), some (.int x1), none, none, none, none] [] w = some (some (.int (-1)), w) := by
  refine Eq.trans (zd_iconst zh118 (v := (-1)) rfl rfl) ?_
  exact zd_iret zh118 rfl rfl
set_option maxRecDepth 20000 in
theorem b118_10 {scr : List Int32} {w : zAW} {a0 : Nat} {x1 : Int32} (h1 : zob w a0 6 = true) {f1 : Int32} {w1 : zAW} (h2 : zC scr 98 [.ref a0, .int x1] w = some (some (.int f1), w1)) {g2 : Nat} (h3 : zgf w1 a0 6 0 = some (.ref g2)) {f3 : Int32} (h4 : zal w1 g2 (nI 6) = some f3) : zd scr 118 10 [some (.ref a0), some (.int x1), none, none, none, none] [] w = if (nI 40) < (f3 + f1) then zd scr 118 30 [some (.ref a0), some (.int x1), some (.int f1), none, none, none] [] w1 else zd scr 118 33 [some (.ref a0), some (.int x1), some (.int f1), none, none, none] [] w1 := by
  refine Eq.trans (zd_aload_n zh118 rfl rfl) ?_
  refine Eq.trans (zd_iload_n zh118 rfl rfl) ?_
  refine Eq.trans (zd_invVi zh118 zh98 rfl rfl ⟨Nat.le_of_ble_eq_true rfl, Nat.le_of_ble_eq_true rfl, Nat.le_of_ble_eq_true rfl, Nat.le_of_ble_eq_true rfl⟩ rfl h1 h2 rfl) ?_
  refine Eq.trans (zd_istore_n zh118 (ls' := [some (.ref a0), some (.int x1), some (.int f1), none, none, none]) (Nat.le_of_ble_eq_true rfl) rfl rfl) ?_
  refine Eq.trans (zd_aload_n zh118 rfl rfl) ?_
  refine Eq.trans (zd_getfield zh118 (ci := 6) (k := 0) rfl h3 rfl) ?_
  refine Eq.trans (zd_bipush zh118 (v := (nI 6)) rfl rfl) ?_
  refine Eq.trans (zd_iaload zh118 h4 rfl) ?_
  refine Eq.trans (zd_iload_n zh118 rfl rfl) ?_
  refine Eq.trans (zd_iadd zh118 rfl) ?_
  refine Eq.trans (zd_bipush zh118 (v := (nI 40)) rfl rfl) ?_
  exact zd_icmple zh118 (t := 33) (by decide) rfl
theorem b118_58 {scr : List Int32} {w : zAW} {a0 : Nat} {x1 : Int32} {x2 : Int32} {x3 : Int32} {x4 : Int32} {v5 : Option Value} {g1 : Nat} (h1 : zgf w a0 6 0 = some (.ref g1)) {f2 : Int32} (h2 : zal w g1 ((nI 24) + x4) = some f2) : zd scr 118 58 [some (.ref a0), some (.int x1), some (.int x2), some (.int x3), some (.int x4), v5] [] w = if f2 = x1 then zd scr 118 103 [some (.ref a0), some (.int x1), some (.int x2), some (.int x3), some (.int x4), some (.int f2)] [] w else zd scr 118 76 [some (.ref a0), some (.int x1), some (.int x2), some (.int x3), some (.int x4), some (.int f2)] [] w := by
  refine Eq.trans (zd_aload_n zh118 rfl rfl) ?_
  refine Eq.trans (zd_getfield zh118 (ci := 6) (k := 0) rfl h1 rfl) ?_
  refine Eq.trans (zd_bipush zh118 (v := (nI 24)) rfl rfl) ?_
  refine Eq.trans (zd_iload zh118 rfl rfl) ?_
  refine Eq.trans (zd_iadd zh118 rfl) ?_
  refine Eq.trans (zd_iaload zh118 h2 rfl) ?_
  refine Eq.trans (zd_istore zh118 (ls' := [some (.ref a0), some (.int x1), some (.int x2), some (.int x3), some (.int x4), some (.int f2)]) (Nat.le_of_ble_eq_true rfl) rfl rfl) ?_
  refine Eq.trans (zd_iload zh118 rfl rfl) ?_
  refine Eq.trans (zd_iload_n zh118 rfl rfl) ?_
  exact zd_icmpeq zh118 (t := 103) (by decide) rfl
theorem b118_109 {scr : List Int32} {w : zAW} {a0 : Nat} {x1 : Int32} {x2 : Int32} {x3 : Int32} {x4 : Int32} {v5 : Option Value} {g1 : Nat} (h1 : zgf w a0 6 0 = some (.ref g1)) {f2 : Int32} (h2 : zal w g1 (nI 0) = some f2) {w1 : zAW} (h3 : zas w g1 (nI 0) (f2 - (nI 1)) = some w1) {g3 : Nat} (h4 : zgf w1 a0 6 0 = some (.ref g3)) {g4 : Nat} (h5 : zgf w1 a0 6 0 = some (.ref g4)) {f5 : Int32} (h6 : zal w1 g4 (nI 0) = some f5) {w2 : zAW} (h7 : zas w1 g3 ((nI 24) + f5) (nI 0) = some w2) : zd scr 118 109 [some (.ref a0), some (.int x1), some (.int x2), some (.int x3), some (.int x4), v5] [] w = zd scr 118 142 [some (.ref a0), some (.int x1), some (.int x2), some (.int x3), some (.int ((nI 12) + ((nI 2) * x1))), v5] [] w2 := by
  refine Eq.trans (zd_aload_n zh118 rfl rfl) ?_
  refine Eq.trans (zd_getfield zh118 (ci := 6) (k := 0) rfl h1 rfl) ?_
  refine Eq.trans (zd_iconst zh118 (v := (nI 0)) rfl rfl) ?_
  refine Eq.trans (zd_dup2 zh118 rfl) ?_
  refine Eq.trans (zd_iaload zh118 h2 rfl) ?_
  refine Eq.trans (zd_iconst zh118 (v := (nI 1)) rfl rfl) ?_
  refine Eq.trans (zd_isub zh118 rfl) ?_
  refine Eq.trans (zd_iastore zh118 h3 rfl) ?_
  refine Eq.trans (zd_aload_n zh118 rfl rfl) ?_
  refine Eq.trans (zd_getfield zh118 (ci := 6) (k := 0) rfl h4 rfl) ?_
  refine Eq.trans (zd_bipush zh118 (v := (nI 24)) rfl rfl) ?_
  refine Eq.trans (zd_aload_n zh118 rfl rfl) ?_
  refine Eq.trans (zd_getfield zh118 (ci := 6) (k := 0) rfl h5 rfl) ?_
  refine Eq.trans (zd_iconst zh118 (v := (nI 0)) rfl rfl) ?_
  refine Eq.trans (zd_iaload zh118 h6 rfl) ?_
  refine Eq.trans (zd_iadd zh118 rfl) ?_
  refine Eq.trans (zd_iconst zh118 (v := (nI 0)) rfl rfl) ?_
  refine Eq.trans (zd_iastore zh118 h7 rfl) ?_
  refine Eq.trans (zd_bipush zh118 (v := (nI 12)) rfl rfl) ?_
  refine Eq.trans (zd_iconst zh118 (v := (nI 2)) rfl rfl) ?_
  refine Eq.trans (zd_iload_n zh118 rfl rfl) ?_
  refine Eq.trans (zd_imul zh118 rfl) ?_
  refine Eq.trans (zd_iadd zh118 rfl) ?_
  refine Eq.trans (zd_istore zh118 (ls' := [some (.ref a0), some (.int x1), some (.int x2), some (.int x3), some (.int ((nI 12) + ((nI 2) * x1))), v5]) (Nat.le_of_ble_eq_true rfl) rfl rfl) ?_
  exact rfl
theorem b118_158 {scr : List Int32} {w : zAW} {a0 : Nat} {x1 : Int32} {x2 : Int32} {x3 : Int32} {x4 : Int32} {v5 : Option Value} {g1 : Nat} (h1 : zgf w a0 6 0 = some (.ref g1)) {g2 : Nat} (h2 : zgf w a0 6 0 = some (.ref g2)) {f3 : Int32} (h3 : zal w g2 (x4 + (nI 2)) = some f3) {w1 : zAW} (h4 : zas w g1 x4 f3 = some w1) : zd scr 118 158 [some (.ref a0), some (.int x1), some (.int x2), some (.int x3), some (.int x4), v5] [] w = zd scr 118 142 [some (.ref a0), some (.int x1), some (.int x2), some (.int x3), some (.int (x4 + (nI 1))), v5] [] w1 := by
  refine Eq.trans (zd_aload_n zh118 rfl rfl) ?_
  refine Eq.trans (zd_getfield zh118 (ci := 6) (k := 0) rfl h1 rfl) ?_
  refine Eq.trans (zd_iload zh118 rfl rfl) ?_
  refine Eq.trans (zd_aload_n zh118 rfl rfl) ?_
  refine Eq.trans (zd_getfield zh118 (ci := 6) (k := 0) rfl h2 rfl) ?_
  refine Eq.trans (zd_iload zh118 rfl rfl) ?_
  refine Eq.trans (zd_iconst zh118 (v := (nI 2)) rfl rfl) ?_
  refine Eq.trans (zd_iadd zh118 rfl) ?_
  refine Eq.trans (zd_iaload zh118 h3 rfl) ?_
  refine Eq.trans (zd_iastore zh118 h4 rfl) ?_
  refine Eq.trans (zd_iinc zh118 (ls' := [some (.ref a0), some (.int x1), some (.int x2), some (.int x3), some (.int (x4 + (nI 1))), v5]) (v := (x4 + (nI 1))) rfl rfl rfl rfl) ?_
  refine Eq.trans (zd_goto zh118 (t := 142) (by decide) rfl) ?_
  exact rfl
theorem b118_180 {scr : List Int32} {w : zAW} {a0 : Nat} {x1 : Int32} {x2 : Int32} {x3 : Int32} {x4 : Int32} {v5 : Option Value} {g1 : Nat} (h1 : zgf w a0 6 0 = some (.ref g1)) {g2 : Nat} (h2 : zgf w a0 6 0 = some (.ref g2)) {f3 : Int32} (h3 : zal w g2 (nI 0) = some f3) {w1 : zAW} (h4 : zas w g1 ((nI 12) + ((nI 2) * f3)) (nI 0) = some w1) {g4 : Nat} (h5 : zgf w1 a0 6 0 = some (.ref g4)) {g5 : Nat} (h6 : zgf w1 a0 6 0 = some (.ref g5)) {f6 : Int32} (h7 : zal w1 g5 (nI 0) = some f6) {w2 : zAW} (h8 : zas w1 g4 (((nI 12) + ((nI 2) * f6)) + (nI 1)) (nI 0) = some w2) : zd scr 118 180 [some (.ref a0), some (.int x1), some (.int x2), some (.int x3), some (.int x4), v5] [] w = some (some (.int x2), w2) := by
  refine Eq.trans (zd_aload_n zh118 rfl rfl) ?_
  refine Eq.trans (zd_getfield zh118 (ci := 6) (k := 0) rfl h1 rfl) ?_
  refine Eq.trans (zd_bipush zh118 (v := (nI 12)) rfl rfl) ?_
  refine Eq.trans (zd_iconst zh118 (v := (nI 2)) rfl rfl) ?_
  refine Eq.trans (zd_aload_n zh118 rfl rfl) ?_
  refine Eq.trans (zd_getfield zh118 (ci := 6) (k := 0) rfl h2 rfl) ?_
  refine Eq.trans (zd_iconst zh118 (v := (nI 0)) rfl rfl) ?_
  refine Eq.trans (zd_iaload zh118 h3 rfl) ?_
  refine Eq.trans (zd_imul zh118 rfl) ?_
  refine Eq.trans (zd_iadd zh118 rfl) ?_
  refine Eq.trans (zd_iconst zh118 (v := (nI 0)) rfl rfl) ?_
  refine Eq.trans (zd_iastore zh118 h4 rfl) ?_
  refine Eq.trans (zd_aload_n zh118 rfl rfl) ?_
  refine Eq.trans (zd_getfield zh118 (ci := 6) (k := 0) rfl h5 rfl) ?_
  refine Eq.trans (zd_bipush zh118 (v := (nI 12)) rfl rfl) ?_
  refine Eq.trans (zd_iconst zh118 (v := (nI 2)) rfl rfl) ?_
  refine Eq.trans (zd_aload_n zh118 rfl rfl) ?_
  refine Eq.trans (zd_getfield zh118 (ci := 6) (k := 0) rfl h6 rfl) ?_
  refine Eq.trans (zd_iconst zh118 (v := (nI 0)) rfl rfl) ?_
  refine Eq.trans (zd_iaload zh118 h7 rfl) ?_
  refine Eq.trans (zd_imul zh118 rfl) ?_
  refine Eq.trans (zd_iadd zh118 rfl) ?_
  refine Eq.trans (zd_iconst zh118 (v := (nI 1)) rfl rfl) ?_
  refine Eq.trans (zd_iadd zh118 rfl) ?_
  refine Eq.trans (zd_iconst zh118 (v := (nI 0)) rfl rfl) ?_
  refine Eq.trans (zd_iastore zh118 h8 rfl) ?_
  refine Eq.trans (zd_iload_n zh118 rfl rfl) ?_
  exact zd_iret zh118 rfl rfl
theorem b118_30 {scr : List Int32} {w : zAW} {a0 : Nat} {x1 : Int32} {x2 : Int32}  : zd scr 118 30 [some (.ref a0), some (.int x1), some (.int x2), none, none, none] [] w = some (some (.int (-4)), w) := by
  refine Eq.trans (zd_bipush zh118 (v := (-4)) rfl rfl) ?_
  exact zd_iret zh118 rfl rfl
set_option maxRecDepth 20000 in
theorem b118_33 {scr : List Int32} {w : zAW} {a0 : Nat} {x1 : Int32} {x2 : Int32} (h1 : zob w a0 6 = true) {w1 : zAW} (h2 : zC scr 92 [.ref a0] w = some (none, w1)) (h3 : zob w1 a0 6 = true) {w2 : zAW} (h4 : zC scr 117 [.ref a0, .int x1] w1 = some (none, w2)) : zd scr 118 33 [some (.ref a0), some (.int x1), some (.int x2), none, none, none] [] w = zd scr 118 47 [some (.ref a0), some (.int x1), some (.int x2), some (.int (nI 0)), some (.int (nI 0)), none] [] w2 := by
  refine Eq.trans (zd_aload_n zh118 rfl rfl) ?_
  refine Eq.trans (zd_invVv zh118 zh92 rfl rfl ⟨Nat.le_of_ble_eq_true rfl, Nat.le_of_ble_eq_true rfl, Nat.le_of_ble_eq_true rfl, Nat.le_of_ble_eq_true rfl⟩ rfl h1 h2 rfl) ?_
  refine Eq.trans (zd_aload_n zh118 rfl rfl) ?_
  refine Eq.trans (zd_iload_n zh118 rfl rfl) ?_
  refine Eq.trans (zd_invVv zh118 zh117 rfl rfl ⟨Nat.le_of_ble_eq_true rfl, Nat.le_of_ble_eq_true rfl, Nat.le_of_ble_eq_true rfl, Nat.le_of_ble_eq_true rfl⟩ rfl h3 h4 rfl) ?_
  refine Eq.trans (zd_iconst zh118 (v := (nI 0)) rfl rfl) ?_
  refine Eq.trans (zd_istore_n zh118 (ls' := [some (.ref a0), some (.int x1), some (.int x2), some (.int (nI 0)), none, none]) (Nat.le_of_ble_eq_true rfl) rfl rfl) ?_
  refine Eq.trans (zd_iconst zh118 (v := (nI 0)) rfl rfl) ?_
  refine Eq.trans (zd_istore zh118 (ls' := [some (.ref a0), some (.int x1), some (.int x2), some (.int (nI 0)), some (.int (nI 0)), none]) (Nat.le_of_ble_eq_true rfl) rfl rfl) ?_
  exact rfl
theorem b118_103 {scr : List Int32} {w : zAW} {a0 : Nat} {x1 : Int32} {x2 : Int32} {x3 : Int32} {x4 : Int32} {x5 : Int32}  : zd scr 118 103 [some (.ref a0), some (.int x1), some (.int x2), some (.int x3), some (.int x4), some (.int x5)] [] w = zd scr 118 47 [some (.ref a0), some (.int x1), some (.int x2), some (.int x3), some (.int (x4 + (nI 1))), some (.int x5)] [] w := by
  refine Eq.trans (zd_iinc zh118 (ls' := [some (.ref a0), some (.int x1), some (.int x2), some (.int x3), some (.int (x4 + (nI 1))), some (.int x5)]) (v := (x4 + (nI 1))) rfl rfl rfl rfl) ?_
  refine Eq.trans (zd_goto zh118 (t := 47) (by decide) rfl) ?_
  exact rfl
theorem b118_76 {scr : List Int32} {w : zAW} {a0 : Nat} {x1 : Int32} {x2 : Int32} {x3 : Int32} {x4 : Int32} {x5 : Int32} {g1 : Nat} (h1 : zgf w a0 6 0 = some (.ref g1)) : zd scr 118 76 [some (.ref a0), some (.int x1), some (.int x2), some (.int x3), some (.int x4), some (.int x5)] [] w = if x1 < x5 then zd scr 118 90 [some (.ref a0), some (.int x1), some (.int x2), some (.int x3), some (.int x4), some (.int x5)] [.int ((nI 24) + x3), .ref g1] w else zd scr 118 97 [some (.ref a0), some (.int x1), some (.int x2), some (.int x3), some (.int x4), some (.int x5)] [.int ((nI 24) + x3), .ref g1] w := by
  refine Eq.trans (zd_aload_n zh118 rfl rfl) ?_
  refine Eq.trans (zd_getfield zh118 (ci := 6) (k := 0) rfl h1 rfl) ?_
  refine Eq.trans (zd_bipush zh118 (v := (nI 24)) rfl rfl) ?_
  refine Eq.trans (zd_iload_n zh118 rfl rfl) ?_
  refine Eq.trans (zd_iadd zh118 rfl) ?_
  refine Eq.trans (zd_iload zh118 rfl rfl) ?_
  refine Eq.trans (zd_iload_n zh118 rfl rfl) ?_
  exact zd_icmple zh118 (t := 97) (by decide) rfl
theorem b118_90 {scr : List Int32} {w : zAW} {a0 : Nat} {x1 : Int32} {x2 : Int32} {x3 : Int32} {x4 : Int32} {x5 : Int32} {c0 : Nat} {y1 : Int32} {w1 : zAW} (h1 : zas w c0 y1 (x5 - (nI 1)) = some w1) : zd scr 118 90 [some (.ref a0), some (.int x1), some (.int x2), some (.int x3), some (.int x4), some (.int x5)] [.int y1, .ref c0] w = zd scr 118 47 [some (.ref a0), some (.int x1), some (.int x2), some (.int (x3 + (nI 1))), some (.int (x4 + (nI 1))), some (.int x5)] [] w1 := by
  refine Eq.trans (zd_iload zh118 rfl rfl) ?_
  refine Eq.trans (zd_iconst zh118 (v := (nI 1)) rfl rfl) ?_
  refine Eq.trans (zd_isub zh118 rfl) ?_
  refine Eq.trans (zd_goto zh118 (t := 99) (by decide) rfl) ?_
  refine Eq.trans (zd_iastore zh118 h1 rfl) ?_
  refine Eq.trans (zd_iinc zh118 (ls' := [some (.ref a0), some (.int x1), some (.int x2), some (.int (x3 + (nI 1))), some (.int x4), some (.int x5)]) (v := (x3 + (nI 1))) rfl rfl rfl rfl) ?_
  refine Eq.trans (zd_iinc zh118 (ls' := [some (.ref a0), some (.int x1), some (.int x2), some (.int (x3 + (nI 1))), some (.int (x4 + (nI 1))), some (.int x5)]) (v := (x4 + (nI 1))) rfl rfl rfl rfl) ?_
  refine Eq.trans (zd_goto zh118 (t := 47) (by decide) rfl) ?_
  exact rfl
theorem b118_97 {scr : List Int32} {w : zAW} {a0 : Nat} {x1 : Int32} {x2 : Int32} {x3 : Int32} {x4 : Int32} {x5 : Int32} {c0 : Nat} {y1 : Int32} {w1 : zAW} (h1 : zas w c0 y1 x5 = some w1) : zd scr 118 97 [some (.ref a0), some (.int x1), some (.int x2), some (.int x3), some (.int x4), some (.int x5)] [.int y1, .ref c0] w = zd scr 118 47 [some (.ref a0), some (.int x1), some (.int x2), some (.int (x3 + (nI 1))), some (.int (x4 + (nI 1))), some (.int x5)] [] w1 := by
  refine Eq.trans (zd_iload zh118 rfl rfl) ?_
  refine Eq.trans (zd_iastore zh118 h1 rfl) ?_
  refine Eq.trans (zd_iinc zh118 (ls' := [some (.ref a0), some (.int x1), some (.int x2), some (.int (x3 + (nI 1))), some (.int x4), some (.int x5)]) (v := (x3 + (nI 1))) rfl rfl rfl rfl) ?_
  refine Eq.trans (zd_iinc zh118 (ls' := [some (.ref a0), some (.int x1), some (.int x2), some (.int (x3 + (nI 1))), some (.int (x4 + (nI 1))), some (.int x5)]) (v := (x4 + (nI 1))) rfl rfl rfl rfl) ?_
  refine Eq.trans (zd_goto zh118 (t := 47) (by decide) rfl) ?_
  exact rfl
/-! yX6_wish: 119, MarbleHeirsModel.wish(II)I -/
set_option maxRecDepth 20000 in
theorem b119_0 {scr : List Int32} {w : zAW} {a0 : Nat} {x1 : Int32} {x2 : Int32} (h1 : zob w a0 6 = true) {f1 : Int32} {w1 : zAW} (h2 : zC scr 88 [.ref a0, .int x1] w = some (some (.int f1), w1)) : zd scr 119 0 [some (.ref a0), some (.int x1), some (.int x2)] [] w = if f1 = 0 then zd scr 119 8 [some (.ref a0), some (.int x1), some (.int x2)] [] w1 else zd scr 119 10 [some (.ref a0), some (.int x1), some (.int x2)] [] w1 := by
  refine Eq.trans (zd_aload_n zh119 rfl rfl) ?_
  refine Eq.trans (zd_iload_n zh119 rfl rfl) ?_
  refine Eq.trans (zd_invVi zh119 zh88 rfl rfl ⟨Nat.le_of_ble_eq_true rfl, Nat.le_of_ble_eq_true rfl, Nat.le_of_ble_eq_true rfl, Nat.le_of_ble_eq_true rfl⟩ rfl h1 h2 rfl) ?_
  exact zd_ifne zh119 (t := 10) (by decide) rfl
theorem b119_8 {scr : List Int32} {w : zAW} {a0 : Nat} {x1 : Int32} {x2 : Int32}  : zd scr 119 8 [some (.ref a0), some (.int x1), some (.int x2)] [] w = some (some (.int (-1)), w) := by
  refine Eq.trans (zd_iconst zh119 (v := (-1)) rfl rfl) ?_
  exact zd_iret zh119 rfl rfl
set_option maxRecDepth 20000 in
theorem b119_10 {scr : List Int32} {w : zAW} {a0 : Nat} {x1 : Int32} {x2 : Int32} {f1 : Int32} {w1 : zAW} (h1 : zC scr 90 [.int x2] w = some (some (.int f1), w1)) : zd scr 119 10 [some (.ref a0), some (.int x1), some (.int x2)] [] w = if f1 = 0 then zd scr 119 17 [some (.ref a0), some (.int x1), some (.int x2)] [] w1 else zd scr 119 20 [some (.ref a0), some (.int x1), some (.int x2)] [] w1 := by
  refine Eq.trans (zd_iload_n zh119 rfl rfl) ?_
  refine Eq.trans (zd_invSi zh119 zh90 rfl rfl ⟨Nat.le_of_ble_eq_true rfl, Nat.le_of_ble_eq_true rfl, Nat.le_of_ble_eq_true rfl, Nat.le_of_ble_eq_true rfl, Nat.le_of_ble_eq_true rfl⟩ rfl h1 rfl) ?_
  exact zd_ifne zh119 (t := 20) (by decide) rfl
theorem b119_17 {scr : List Int32} {w : zAW} {a0 : Nat} {x1 : Int32} {x2 : Int32}  : zd scr 119 17 [some (.ref a0), some (.int x1), some (.int x2)] [] w = some (some (.int (-2)), w) := by
  refine Eq.trans (zd_bipush zh119 (v := (-2)) rfl rfl) ?_
  exact zd_iret zh119 rfl rfl
set_option maxRecDepth 20000 in
theorem b119_20 {scr : List Int32} {w : zAW} {a0 : Nat} {x1 : Int32} {x2 : Int32} (h1 : zob w a0 6 = true) {w1 : zAW} (h2 : zC scr 92 [.ref a0] w = some (none, w1)) {g1 : Nat} (h3 : zgf w1 a0 6 0 = some (.ref g1)) {w2 : zAW} (h4 : zas w1 g1 (((nI 12) + ((nI 2) * x1)) + (nI 1)) x2 = some w2) (h5 : zob w2 a0 6 = true) {f2 : Int32} {w3 : zAW} (h6 : zC scr 100 [.ref a0, .int x1, .int x2] w2 = some (some (.int f2), w3)) : zd scr 119 20 [some (.ref a0), some (.int x1), some (.int x2)] [] w = some (some (.int f2), w3) := by
  refine Eq.trans (zd_aload_n zh119 rfl rfl) ?_
  refine Eq.trans (zd_invVv zh119 zh92 rfl rfl ⟨Nat.le_of_ble_eq_true rfl, Nat.le_of_ble_eq_true rfl, Nat.le_of_ble_eq_true rfl, Nat.le_of_ble_eq_true rfl⟩ rfl h1 h2 rfl) ?_
  refine Eq.trans (zd_aload_n zh119 rfl rfl) ?_
  refine Eq.trans (zd_getfield zh119 (ci := 6) (k := 0) rfl h3 rfl) ?_
  refine Eq.trans (zd_bipush zh119 (v := (nI 12)) rfl rfl) ?_
  refine Eq.trans (zd_iconst zh119 (v := (nI 2)) rfl rfl) ?_
  refine Eq.trans (zd_iload_n zh119 rfl rfl) ?_
  refine Eq.trans (zd_imul zh119 rfl) ?_
  refine Eq.trans (zd_iadd zh119 rfl) ?_
  refine Eq.trans (zd_iconst zh119 (v := (nI 1)) rfl rfl) ?_
  refine Eq.trans (zd_iadd zh119 rfl) ?_
  refine Eq.trans (zd_iload_n zh119 rfl rfl) ?_
  refine Eq.trans (zd_iastore zh119 h4 rfl) ?_
  refine Eq.trans (zd_aload_n zh119 rfl rfl) ?_
  refine Eq.trans (zd_iload_n zh119 rfl rfl) ?_
  refine Eq.trans (zd_iload_n zh119 rfl rfl) ?_
  refine Eq.trans (zd_invVi zh119 zh100 rfl rfl ⟨Nat.le_of_ble_eq_true rfl, Nat.le_of_ble_eq_true rfl, Nat.le_of_ble_eq_true rfl, Nat.le_of_ble_eq_true rfl⟩ rfl h5 h6 rfl) ?_
  exact zd_iret zh119 rfl rfl
/-! yX6_lays: 120, MarbleHeirsModel.lays(II)I -/
set_option maxRecDepth 20000 in
theorem b120_0 {scr : List Int32} {w : zAW} {a0 : Nat} {x1 : Int32} {x2 : Int32} (h1 : zob w a0 6 = true) {w1 : zAW} (h2 : zC scr 92 [.ref a0] w = some (none, w1)) {g1 : Nat} (h3 : zgf w1 a0 6 0 = some (.ref g1)) {f2 : Int32} (h4 : zal w1 g1 x1 = some f2) {g3 : Nat} (h5 : zgf w1 a0 6 0 = some (.ref g3)) {w2 : zAW} (h6 : zas w1 g3 x1 x2 = some w2) : zd scr 120 0 [some (.ref a0), some (.int x1), some (.int x2), none] [] w = some (some (.int f2), w2) := by
  refine Eq.trans (zd_aload_n zh120 rfl rfl) ?_
  refine Eq.trans (zd_invVv zh120 zh92 rfl rfl ⟨Nat.le_of_ble_eq_true rfl, Nat.le_of_ble_eq_true rfl, Nat.le_of_ble_eq_true rfl, Nat.le_of_ble_eq_true rfl⟩ rfl h1 h2 rfl) ?_
  refine Eq.trans (zd_aload_n zh120 rfl rfl) ?_
  refine Eq.trans (zd_getfield zh120 (ci := 6) (k := 0) rfl h3 rfl) ?_
  refine Eq.trans (zd_iload_n zh120 rfl rfl) ?_
  refine Eq.trans (zd_iaload zh120 h4 rfl) ?_
  refine Eq.trans (zd_istore_n zh120 (ls' := [some (.ref a0), some (.int x1), some (.int x2), some (.int f2)]) (Nat.le_of_ble_eq_true rfl) rfl rfl) ?_
  refine Eq.trans (zd_aload_n zh120 rfl rfl) ?_
  refine Eq.trans (zd_getfield zh120 (ci := 6) (k := 0) rfl h5 rfl) ?_
  refine Eq.trans (zd_iload_n zh120 rfl rfl) ?_
  refine Eq.trans (zd_iload_n zh120 rfl rfl) ?_
  refine Eq.trans (zd_iastore zh120 h6 rfl) ?_
  refine Eq.trans (zd_iload_n zh120 rfl rfl) ?_
  exact zd_iret zh120 rfl rfl
/-! yX6_setRule: 121, MarbleHeirsModel.setRule(I)I -/
set_option maxRecDepth 20000 in
theorem b121_0 {scr : List Int32} {w : zAW} {a0 : Nat} {x1 : Int32} {f1 : Int32} {w1 : zAW} (h1 : zC scr 87 [.int x1, .int (nI 0), .int (nI 2)] w = some (some (.int f1), w1)) : zd scr 121 0 [some (.ref a0), some (.int x1)] [] w = if f1 = 0 then zd scr 121 18 [some (.ref a0), some (.int x1)] [] w1 else zd scr 121 9 [some (.ref a0), some (.int x1)] [] w1 := by
  refine Eq.trans (zd_iload_n zh121 rfl rfl) ?_
  refine Eq.trans (zd_iconst zh121 (v := (nI 0)) rfl rfl) ?_
  refine Eq.trans (zd_iconst zh121 (v := (nI 2)) rfl rfl) ?_
  refine Eq.trans (zd_invSi zh121 zh87 rfl rfl ⟨Nat.le_of_ble_eq_true rfl, Nat.le_of_ble_eq_true rfl, Nat.le_of_ble_eq_true rfl, Nat.le_of_ble_eq_true rfl, Nat.le_of_ble_eq_true rfl⟩ rfl h1 rfl) ?_
  exact zd_ifeq zh121 (t := 18) (by decide) rfl
theorem b121_18 {scr : List Int32} {w : zAW} {a0 : Nat} {x1 : Int32}  : zd scr 121 18 [some (.ref a0), some (.int x1)] [] w = some (some (.int (-2)), w) := by
  refine Eq.trans (zd_bipush zh121 (v := (-2)) rfl rfl) ?_
  exact zd_iret zh121 rfl rfl
set_option maxRecDepth 20000 in
theorem b121_9 {scr : List Int32} {w : zAW} {a0 : Nat} {x1 : Int32} (h1 : zob w a0 6 = true) {f1 : Int32} {w1 : zAW} (h2 : zC scr 120 [.ref a0, .int (nI 1), .int x1] w = some (some (.int f1), w1)) : zd scr 121 9 [some (.ref a0), some (.int x1)] [] w = some (some (.int f1), w1) := by
  refine Eq.trans (zd_aload_n zh121 rfl rfl) ?_
  refine Eq.trans (zd_iconst zh121 (v := (nI 1)) rfl rfl) ?_
  refine Eq.trans (zd_iload_n zh121 rfl rfl) ?_
  refine Eq.trans (zd_invVi zh121 zh120 rfl rfl ⟨Nat.le_of_ble_eq_true rfl, Nat.le_of_ble_eq_true rfl, Nat.le_of_ble_eq_true rfl, Nat.le_of_ble_eq_true rfl⟩ rfl h1 h2 rfl) ?_
  refine Eq.trans (zd_goto zh121 (t := 20) (by decide) rfl) ?_
  exact zd_iret zh121 rfl rfl
/-! yX6_setPatience: 122, MarbleHeirsModel.setPatience(I)I -/
set_option maxRecDepth 20000 in
theorem b122_0 {scr : List Int32} {w : zAW} {a0 : Nat} {x1 : Int32} {f1 : Int32} {w1 : zAW} (h1 : zC scr 87 [.int x1, .int (nI 0), .int (nI 8)] w = some (some (.int f1), w1)) : zd scr 122 0 [some (.ref a0), some (.int x1)] [] w = if f1 = 0 then zd scr 122 19 [some (.ref a0), some (.int x1)] [] w1 else zd scr 122 10 [some (.ref a0), some (.int x1)] [] w1 := by
  refine Eq.trans (zd_iload_n zh122 rfl rfl) ?_
  refine Eq.trans (zd_iconst zh122 (v := (nI 0)) rfl rfl) ?_
  refine Eq.trans (zd_bipush zh122 (v := (nI 8)) rfl rfl) ?_
  refine Eq.trans (zd_invSi zh122 zh87 rfl rfl ⟨Nat.le_of_ble_eq_true rfl, Nat.le_of_ble_eq_true rfl, Nat.le_of_ble_eq_true rfl, Nat.le_of_ble_eq_true rfl, Nat.le_of_ble_eq_true rfl⟩ rfl h1 rfl) ?_
  exact zd_ifeq zh122 (t := 19) (by decide) rfl
theorem b122_19 {scr : List Int32} {w : zAW} {a0 : Nat} {x1 : Int32}  : zd scr 122 19 [some (.ref a0), some (.int x1)] [] w = some (some (.int (-2)), w) := by
  refine Eq.trans (zd_bipush zh122 (v := (-2)) rfl rfl) ?_
  exact zd_iret zh122 rfl rfl
set_option maxRecDepth 20000 in
theorem b122_10 {scr : List Int32} {w : zAW} {a0 : Nat} {x1 : Int32} (h1 : zob w a0 6 = true) {f1 : Int32} {w1 : zAW} (h2 : zC scr 120 [.ref a0, .int (nI 2), .int x1] w = some (some (.int f1), w1)) : zd scr 122 10 [some (.ref a0), some (.int x1)] [] w = some (some (.int f1), w1) := by
  refine Eq.trans (zd_aload_n zh122 rfl rfl) ?_
  refine Eq.trans (zd_iconst zh122 (v := (nI 2)) rfl rfl) ?_
  refine Eq.trans (zd_iload_n zh122 rfl rfl) ?_
  refine Eq.trans (zd_invVi zh122 zh120 rfl rfl ⟨Nat.le_of_ble_eq_true rfl, Nat.le_of_ble_eq_true rfl, Nat.le_of_ble_eq_true rfl, Nat.le_of_ble_eq_true rfl⟩ rfl h1 h2 rfl) ?_
  refine Eq.trans (zd_goto zh122 (t := 21) (by decide) rfl) ?_
  exact zd_iret zh122 rfl rfl
/-! yX6_grant: 123, MarbleHeirsModel.grant(II)I -/
set_option maxRecDepth 20000 in
theorem b123_0 {scr : List Int32} {w : zAW} {a0 : Nat} {x1 : Int32} {x2 : Int32} {f1 : Int32} {w1 : zAW} (h1 : zC scr 89 [.int x1] w = some (some (.int f1), w1)) : zd scr 123 0 [some (.ref a0), some (.int x1), some (.int x2)] [] w = if f1 = 0 then zd scr 123 7 [some (.ref a0), some (.int x1), some (.int x2)] [] w1 else zd scr 123 9 [some (.ref a0), some (.int x1), some (.int x2)] [] w1 := by
  refine Eq.trans (zd_iload_n zh123 rfl rfl) ?_
  refine Eq.trans (zd_invSi zh123 zh89 rfl rfl ⟨Nat.le_of_ble_eq_true rfl, Nat.le_of_ble_eq_true rfl, Nat.le_of_ble_eq_true rfl, Nat.le_of_ble_eq_true rfl, Nat.le_of_ble_eq_true rfl⟩ rfl h1 rfl) ?_
  exact zd_ifne zh123 (t := 9) (by decide) rfl
theorem b123_7 {scr : List Int32} {w : zAW} {a0 : Nat} {x1 : Int32} {x2 : Int32}  : zd scr 123 7 [some (.ref a0), some (.int x1), some (.int x2)] [] w = some (some (.int (-1)), w) := by
  refine Eq.trans (zd_iconst zh123 (v := (-1)) rfl rfl) ?_
  exact zd_iret zh123 rfl rfl
set_option maxRecDepth 20000 in
theorem b123_9 {scr : List Int32} {w : zAW} {a0 : Nat} {x1 : Int32} {x2 : Int32} {f1 : Int32} {w1 : zAW} (h1 : zC scr 87 [.int x2, .int (nI 0), .int (nI 9)] w = some (some (.int f1), w1)) : zd scr 123 9 [some (.ref a0), some (.int x1), some (.int x2)] [] w = if f1 = 0 then zd scr 123 31 [some (.ref a0), some (.int x1), some (.int x2)] [] w1 else zd scr 123 19 [some (.ref a0), some (.int x1), some (.int x2)] [] w1 := by
  refine Eq.trans (zd_iload_n zh123 rfl rfl) ?_
  refine Eq.trans (zd_iconst zh123 (v := (nI 0)) rfl rfl) ?_
  refine Eq.trans (zd_bipush zh123 (v := (nI 9)) rfl rfl) ?_
  refine Eq.trans (zd_invSi zh123 zh87 rfl rfl ⟨Nat.le_of_ble_eq_true rfl, Nat.le_of_ble_eq_true rfl, Nat.le_of_ble_eq_true rfl, Nat.le_of_ble_eq_true rfl, Nat.le_of_ble_eq_true rfl⟩ rfl h1 rfl) ?_
  exact zd_ifeq zh123 (t := 31) (by decide) rfl
theorem b123_31 {scr : List Int32} {w : zAW} {a0 : Nat} {x1 : Int32} {x2 : Int32}  : zd scr 123 31 [some (.ref a0), some (.int x1), some (.int x2)] [] w = some (some (.int (-2)), w) := by
  refine Eq.trans (zd_bipush zh123 (v := (-2)) rfl rfl) ?_
  exact zd_iret zh123 rfl rfl
set_option maxRecDepth 20000 in
theorem b123_19 {scr : List Int32} {w : zAW} {a0 : Nat} {x1 : Int32} {x2 : Int32} (h1 : zob w a0 6 = true) {f1 : Int32} {w1 : zAW} (h2 : zC scr 120 [.ref a0, .int ((nI 8) + x1), .int x2] w = some (some (.int f1), w1)) : zd scr 123 19 [some (.ref a0), some (.int x1), some (.int x2)] [] w = some (some (.int f1), w1) := by
  refine Eq.trans (zd_aload_n zh123 rfl rfl) ?_
  refine Eq.trans (zd_bipush zh123 (v := (nI 8)) rfl rfl) ?_
  refine Eq.trans (zd_iload_n zh123 rfl rfl) ?_
  refine Eq.trans (zd_iadd zh123 rfl) ?_
  refine Eq.trans (zd_iload_n zh123 rfl rfl) ?_
  refine Eq.trans (zd_invVi zh123 zh120 rfl rfl ⟨Nat.le_of_ble_eq_true rfl, Nat.le_of_ble_eq_true rfl, Nat.le_of_ble_eq_true rfl, Nat.le_of_ble_eq_true rfl⟩ rfl h1 h2 rfl) ?_
  refine Eq.trans (zd_goto zh123 (t := 33) (by decide) rfl) ?_
  exact zd_iret zh123 rfl rfl
/-! yX6_hasRoom: 124, MarbleHeirsModel.hasRoom(I)Z -/
theorem b124_0 {scr : List Int32} {w : zAW} {a0 : Nat} {x1 : Int32} {g1 : Nat} (h1 : zgf w a0 6 0 = some (.ref g1)) {f2 : Int32} (h2 : zal w g1 (nI 6) = some f2) : zd scr 124 0 [some (.ref a0), some (.int x1)] [] w = if (f2 + x1) ≤ (nI 40) then zd scr 124 14 [some (.ref a0), some (.int x1)] [] w else zd scr 124 40 [some (.ref a0), some (.int x1)] [] w := by
  refine Eq.trans (zd_aload_n zh124 rfl rfl) ?_
  refine Eq.trans (zd_getfield zh124 (ci := 6) (k := 0) rfl h1 rfl) ?_
  refine Eq.trans (zd_bipush zh124 (v := (nI 6)) rfl rfl) ?_
  refine Eq.trans (zd_iaload zh124 h2 rfl) ?_
  refine Eq.trans (zd_iload_n zh124 rfl rfl) ?_
  refine Eq.trans (zd_iadd zh124 rfl) ?_
  refine Eq.trans (zd_bipush zh124 (v := (nI 40)) rfl rfl) ?_
  exact zd_icmpgt zh124 (t := 40) (by decide) rfl
theorem b124_14 {scr : List Int32} {w : zAW} {a0 : Nat} {x1 : Int32} {g1 : Nat} (h1 : zgf w a0 6 0 = some (.ref g1)) {f2 : Int32} (h2 : zal w g1 (nI 6) = some f2) {g3 : Nat} (h3 : zgf w a0 6 0 = some (.ref g3)) {f4 : Int32} (h4 : zal w g3 (nI 7) = some f4) : zd scr 124 14 [some (.ref a0), some (.int x1)] [] w = if ((f2 + f4) + x1) ≤ (nI 120) then zd scr 124 36 [some (.ref a0), some (.int x1)] [] w else zd scr 124 40 [some (.ref a0), some (.int x1)] [] w := by
  refine Eq.trans (zd_aload_n zh124 rfl rfl) ?_
  refine Eq.trans (zd_getfield zh124 (ci := 6) (k := 0) rfl h1 rfl) ?_
  refine Eq.trans (zd_bipush zh124 (v := (nI 6)) rfl rfl) ?_
  refine Eq.trans (zd_iaload zh124 h2 rfl) ?_
  refine Eq.trans (zd_aload_n zh124 rfl rfl) ?_
  refine Eq.trans (zd_getfield zh124 (ci := 6) (k := 0) rfl h3 rfl) ?_
  refine Eq.trans (zd_bipush zh124 (v := (nI 7)) rfl rfl) ?_
  refine Eq.trans (zd_iaload zh124 h4 rfl) ?_
  refine Eq.trans (zd_iadd zh124 rfl) ?_
  refine Eq.trans (zd_iload_n zh124 rfl rfl) ?_
  refine Eq.trans (zd_iadd zh124 rfl) ?_
  refine Eq.trans (zd_bipush zh124 (v := (nI 120)) rfl rfl) ?_
  exact zd_icmpgt zh124 (t := 40) (by decide) rfl
theorem b124_40 {scr : List Int32} {w : zAW} {a0 : Nat} {x1 : Int32}  : zd scr 124 40 [some (.ref a0), some (.int x1)] [] w = some (some (.int (nI 0)), w) := by
  refine Eq.trans (zd_iconst zh124 (v := (nI 0)) rfl rfl) ?_
  exact zd_iret zh124 rfl rfl
theorem b124_36 {scr : List Int32} {w : zAW} {a0 : Nat} {x1 : Int32}  : zd scr 124 36 [some (.ref a0), some (.int x1)] [] w = some (some (.int (nI 1)), w) := by
  refine Eq.trans (zd_iconst zh124 (v := (nI 1)) rfl rfl) ?_
  refine Eq.trans (zd_goto zh124 (t := 41) (by decide) rfl) ?_
  exact zd_iret zh124 rfl rfl
/-! yX6_drops: 125, MarbleHeirsModel.drops(II)V -/
theorem b125_0 {scr : List Int32} {w : zAW} {a0 : Nat} {x1 : Int32} {x2 : Int32} {g1 : Nat} (h1 : zgf w a0 6 0 = some (.ref g1)) {g2 : Nat} (h2 : zgf w a0 6 0 = some (.ref g2)) {f3 : Int32} (h3 : zal w g2 (nI 6) = some f3) {w1 : zAW} (h4 : zas w g1 ((nI 30) + f3) (((nI 10) * x1) + x2) = some w1) {g4 : Nat} (h5 : zgf w1 a0 6 0 = some (.ref g4)) {f5 : Int32} (h6 : zal w1 g4 (nI 6) = some f5) {w2 : zAW} (h7 : zas w1 g4 (nI 6) (f5 + (nI 1)) = some w2) : zd scr 125 0 [some (.ref a0), some (.int x1), some (.int x2)] [] w = some (none, w2) := by
  refine Eq.trans (zd_aload_n zh125 rfl rfl) ?_
  refine Eq.trans (zd_getfield zh125 (ci := 6) (k := 0) rfl h1 rfl) ?_
  refine Eq.trans (zd_bipush zh125 (v := (nI 30)) rfl rfl) ?_
  refine Eq.trans (zd_aload_n zh125 rfl rfl) ?_
  refine Eq.trans (zd_getfield zh125 (ci := 6) (k := 0) rfl h2 rfl) ?_
  refine Eq.trans (zd_bipush zh125 (v := (nI 6)) rfl rfl) ?_
  refine Eq.trans (zd_iaload zh125 h3 rfl) ?_
  refine Eq.trans (zd_iadd zh125 rfl) ?_
  refine Eq.trans (zd_bipush zh125 (v := (nI 10)) rfl rfl) ?_
  refine Eq.trans (zd_iload_n zh125 rfl rfl) ?_
  refine Eq.trans (zd_imul zh125 rfl) ?_
  refine Eq.trans (zd_iload_n zh125 rfl rfl) ?_
  refine Eq.trans (zd_iadd zh125 rfl) ?_
  refine Eq.trans (zd_iastore zh125 h4 rfl) ?_
  refine Eq.trans (zd_aload_n zh125 rfl rfl) ?_
  refine Eq.trans (zd_getfield zh125 (ci := 6) (k := 0) rfl h5 rfl) ?_
  refine Eq.trans (zd_bipush zh125 (v := (nI 6)) rfl rfl) ?_
  refine Eq.trans (zd_dup2 zh125 rfl) ?_
  refine Eq.trans (zd_iaload zh125 h6 rfl) ?_
  refine Eq.trans (zd_iconst zh125 (v := (nI 1)) rfl rfl) ?_
  refine Eq.trans (zd_iadd zh125 rfl) ?_
  refine Eq.trans (zd_iastore zh125 h7 rfl) ?_
  exact zd_vret zh125 rfl rfl
/-! yX6_drop: 126, MarbleHeirsModel.drop(II)I -/
set_option maxRecDepth 20000 in
theorem b126_0 {scr : List Int32} {w : zAW} {a0 : Nat} {x1 : Int32} {x2 : Int32} {f1 : Int32} {w1 : zAW} (h1 : zC scr 90 [.int x1] w = some (some (.int f1), w1)) : zd scr 126 0 [some (.ref a0), some (.int x1), some (.int x2)] [] w = if f1 = 0 then zd scr 126 17 [some (.ref a0), some (.int x1), some (.int x2)] [] w1 else zd scr 126 7 [some (.ref a0), some (.int x1), some (.int x2)] [] w1 := by
  refine Eq.trans (zd_iload_n zh126 rfl rfl) ?_
  refine Eq.trans (zd_invSi zh126 zh90 rfl rfl ⟨Nat.le_of_ble_eq_true rfl, Nat.le_of_ble_eq_true rfl, Nat.le_of_ble_eq_true rfl, Nat.le_of_ble_eq_true rfl, Nat.le_of_ble_eq_true rfl⟩ rfl h1 rfl) ?_
  exact zd_ifeq zh126 (t := 17) (by decide) rfl
theorem b126_17 {scr : List Int32} {w : zAW} {a0 : Nat} {x1 : Int32} {x2 : Int32}  : zd scr 126 17 [some (.ref a0), some (.int x1), some (.int x2)] [] w = some (some (.int (-2)), w) := by
  refine Eq.trans (zd_bipush zh126 (v := (-2)) rfl rfl) ?_
  exact zd_iret zh126 rfl rfl
set_option maxRecDepth 20000 in
theorem b126_7 {scr : List Int32} {w : zAW} {a0 : Nat} {x1 : Int32} {x2 : Int32} {f1 : Int32} {w1 : zAW} (h1 : zC scr 87 [.int x2, .int (nI 1), .int (nI 9)] w = some (some (.int f1), w1)) : zd scr 126 7 [some (.ref a0), some (.int x1), some (.int x2)] [] w = if f1 = 0 then zd scr 126 17 [some (.ref a0), some (.int x1), some (.int x2)] [] w1 else zd scr 126 20 [some (.ref a0), some (.int x1), some (.int x2)] [] w1 := by
  refine Eq.trans (zd_iload_n zh126 rfl rfl) ?_
  refine Eq.trans (zd_iconst zh126 (v := (nI 1)) rfl rfl) ?_
  refine Eq.trans (zd_bipush zh126 (v := (nI 9)) rfl rfl) ?_
  refine Eq.trans (zd_invSi zh126 zh87 rfl rfl ⟨Nat.le_of_ble_eq_true rfl, Nat.le_of_ble_eq_true rfl, Nat.le_of_ble_eq_true rfl, Nat.le_of_ble_eq_true rfl, Nat.le_of_ble_eq_true rfl⟩ rfl h1 rfl) ?_
  exact zd_ifne zh126 (t := 20) (by decide) rfl
set_option maxRecDepth 20000 in
theorem b126_20 {scr : List Int32} {w : zAW} {a0 : Nat} {x1 : Int32} {x2 : Int32} (h1 : zob w a0 6 = true) {f1 : Int32} {w1 : zAW} (h2 : zC scr 124 [.ref a0, .int (nI 1)] w = some (some (.int f1), w1)) : zd scr 126 20 [some (.ref a0), some (.int x1), some (.int x2)] [] w = if f1 = 0 then zd scr 126 28 [some (.ref a0), some (.int x1), some (.int x2)] [] w1 else zd scr 126 31 [some (.ref a0), some (.int x1), some (.int x2)] [] w1 := by
  refine Eq.trans (zd_aload_n zh126 rfl rfl) ?_
  refine Eq.trans (zd_iconst zh126 (v := (nI 1)) rfl rfl) ?_
  refine Eq.trans (zd_invVi zh126 zh124 rfl rfl ⟨Nat.le_of_ble_eq_true rfl, Nat.le_of_ble_eq_true rfl, Nat.le_of_ble_eq_true rfl, Nat.le_of_ble_eq_true rfl⟩ rfl h1 h2 rfl) ?_
  exact zd_ifne zh126 (t := 31) (by decide) rfl
theorem b126_28 {scr : List Int32} {w : zAW} {a0 : Nat} {x1 : Int32} {x2 : Int32}  : zd scr 126 28 [some (.ref a0), some (.int x1), some (.int x2)] [] w = some (some (.int (-4)), w) := by
  refine Eq.trans (zd_bipush zh126 (v := (-4)) rfl rfl) ?_
  exact zd_iret zh126 rfl rfl
set_option maxRecDepth 20000 in
theorem b126_31 {scr : List Int32} {w : zAW} {a0 : Nat} {x1 : Int32} {x2 : Int32} (h1 : zob w a0 6 = true) {w1 : zAW} (h2 : zC scr 92 [.ref a0] w = some (none, w1)) (h3 : zob w1 a0 6 = true) {w2 : zAW} (h4 : zC scr 125 [.ref a0, .int x1, .int x2] w1 = some (none, w2)) {g1 : Nat} (h5 : zgf w2 a0 6 0 = some (.ref g1)) {f2 : Int32} (h6 : zal w2 g1 (nI 6) = some f2) : zd scr 126 31 [some (.ref a0), some (.int x1), some (.int x2)] [] w = some (some (.int f2), w2) := by
  refine Eq.trans (zd_aload_n zh126 rfl rfl) ?_
  refine Eq.trans (zd_invVv zh126 zh92 rfl rfl ⟨Nat.le_of_ble_eq_true rfl, Nat.le_of_ble_eq_true rfl, Nat.le_of_ble_eq_true rfl, Nat.le_of_ble_eq_true rfl⟩ rfl h1 h2 rfl) ?_
  refine Eq.trans (zd_aload_n zh126 rfl rfl) ?_
  refine Eq.trans (zd_iload_n zh126 rfl rfl) ?_
  refine Eq.trans (zd_iload_n zh126 rfl rfl) ?_
  refine Eq.trans (zd_invVv zh126 zh125 rfl rfl ⟨Nat.le_of_ble_eq_true rfl, Nat.le_of_ble_eq_true rfl, Nat.le_of_ble_eq_true rfl, Nat.le_of_ble_eq_true rfl⟩ rfl h3 h4 rfl) ?_
  refine Eq.trans (zd_aload_n zh126 rfl rfl) ?_
  refine Eq.trans (zd_getfield zh126 (ci := 6) (k := 0) rfl h5 rfl) ?_
  refine Eq.trans (zd_bipush zh126 (v := (nI 6)) rfl rfl) ?_
  refine Eq.trans (zd_iaload zh126 h6 rfl) ?_
  exact zd_iret zh126 rfl rfl
/-! yX6_round: 127, MarbleHeirsModel.round()I -/
theorem b127_0 {scr : List Int32} {w : zAW} {a0 : Nat} {g1 : Nat} (h1 : zgf w a0 6 0 = some (.ref g1)) {f2 : Int32} (h2 : zal w g1 (nI 0) = some f2) : zd scr 127 0 [some (.ref a0)] [] w = if f2 = 0 then zd scr 127 9 [some (.ref a0)] [] w else zd scr 127 12 [some (.ref a0)] [] w := by
  refine Eq.trans (zd_aload_n zh127 rfl rfl) ?_
  refine Eq.trans (zd_getfield zh127 (ci := 6) (k := 0) rfl h1 rfl) ?_
  refine Eq.trans (zd_iconst zh127 (v := (nI 0)) rfl rfl) ?_
  refine Eq.trans (zd_iaload zh127 h2 rfl) ?_
  exact zd_ifne zh127 (t := 12) (by decide) rfl
theorem b127_9 {scr : List Int32} {w : zAW} {a0 : Nat}  : zd scr 127 9 [some (.ref a0)] [] w = some (some (.int (-3)), w) := by
  refine Eq.trans (zd_bipush zh127 (v := (-3)) rfl rfl) ?_
  exact zd_iret zh127 rfl rfl
set_option maxRecDepth 20000 in
theorem b127_12 {scr : List Int32} {w : zAW} {a0 : Nat} (h1 : zob w a0 6 = true) {w1 : zAW} (h2 : zC scr 92 [.ref a0] w = some (none, w1)) (h3 : zob w1 a0 6 = true) {f1 : Int32} {w2 : zAW} (h4 : zC scr 106 [.ref a0] w1 = some (some (.int f1), w2)) : zd scr 127 12 [some (.ref a0)] [] w = some (some (.int f1), w2) := by
  refine Eq.trans (zd_aload_n zh127 rfl rfl) ?_
  refine Eq.trans (zd_invVv zh127 zh92 rfl rfl ⟨Nat.le_of_ble_eq_true rfl, Nat.le_of_ble_eq_true rfl, Nat.le_of_ble_eq_true rfl, Nat.le_of_ble_eq_true rfl⟩ rfl h1 h2 rfl) ?_
  refine Eq.trans (zd_aload_n zh127 rfl rfl) ?_
  refine Eq.trans (zd_invVi zh127 zh106 rfl rfl ⟨Nat.le_of_ble_eq_true rfl, Nat.le_of_ble_eq_true rfl, Nat.le_of_ble_eq_true rfl, Nat.le_of_ble_eq_true rfl⟩ rfl h3 h4 rfl) ?_
  exact zd_iret zh127 rfl rfl
/-! yX6_divide: 128, MarbleHeirsModel.divide()I -/
theorem b128_0 {scr : List Int32} {w : zAW} {a0 : Nat} {g1 : Nat} (h1 : zgf w a0 6 0 = some (.ref g1)) {f2 : Int32} (h2 : zal w g1 (nI 0) = some f2) : zd scr 128 0 [some (.ref a0)] [] w = if f2 = 0 then zd scr 128 9 [some (.ref a0)] [] w else zd scr 128 12 [some (.ref a0)] [] w := by
  refine Eq.trans (zd_aload_n zh128 rfl rfl) ?_
  refine Eq.trans (zd_getfield zh128 (ci := 6) (k := 0) rfl h1 rfl) ?_
  refine Eq.trans (zd_iconst zh128 (v := (nI 0)) rfl rfl) ?_
  refine Eq.trans (zd_iaload zh128 h2 rfl) ?_
  exact zd_ifne zh128 (t := 12) (by decide) rfl
theorem b128_9 {scr : List Int32} {w : zAW} {a0 : Nat}  : zd scr 128 9 [some (.ref a0)] [] w = some (some (.int (-3)), w) := by
  refine Eq.trans (zd_bipush zh128 (v := (-3)) rfl rfl) ?_
  exact zd_iret zh128 rfl rfl
set_option maxRecDepth 20000 in
theorem b128_12 {scr : List Int32} {w : zAW} {a0 : Nat} (h1 : zob w a0 6 = true) {w1 : zAW} (h2 : zC scr 92 [.ref a0] w = some (none, w1)) (h3 : zob w1 a0 6 = true) {f1 : Int32} {w2 : zAW} (h4 : zC scr 107 [.ref a0] w1 = some (some (.int f1), w2)) : zd scr 128 12 [some (.ref a0)] [] w = some (some (.int f1), w2) := by
  refine Eq.trans (zd_aload_n zh128 rfl rfl) ?_
  refine Eq.trans (zd_invVv zh128 zh92 rfl rfl ⟨Nat.le_of_ble_eq_true rfl, Nat.le_of_ble_eq_true rfl, Nat.le_of_ble_eq_true rfl, Nat.le_of_ble_eq_true rfl⟩ rfl h1 h2 rfl) ?_
  refine Eq.trans (zd_aload_n zh128 rfl rfl) ?_
  refine Eq.trans (zd_invVi zh128 zh107 rfl rfl ⟨Nat.le_of_ble_eq_true rfl, Nat.le_of_ble_eq_true rfl, Nat.le_of_ble_eq_true rfl, Nat.le_of_ble_eq_true rfl⟩ rfl h3 h4 rfl) ?_
  exact zd_iret zh128 rfl rfl
/-! yX6_wrongSwap: 129, MarbleHeirsModel.wrongSwap(IIII)I -/
set_option maxRecDepth 20000 in
theorem b129_0 {scr : List Int32} {w : zAW} {a0 : Nat} {x1 : Int32} {x2 : Int32} {x3 : Int32} {x4 : Int32} (h1 : zob w a0 6 = true) {f1 : Int32} {w1 : zAW} (h2 : zC scr 101 [.ref a0, .int x1, .int x2] w = some (some (.int f1), w1)) : zd scr 129 0 [some (.ref a0), some (.int x1), some (.int x2), some (.int x3), some (.int x4)] [] w = if f1 = (-6) then zd scr 129 23 [some (.ref a0), some (.int x1), some (.int x2), some (.int x3), some (.int x4)] [] w1 else zd scr 129 11 [some (.ref a0), some (.int x1), some (.int x2), some (.int x3), some (.int x4)] [] w1 := by
  refine Eq.trans (zd_aload_n zh129 rfl rfl) ?_
  refine Eq.trans (zd_iload_n zh129 rfl rfl) ?_
  refine Eq.trans (zd_iload_n zh129 rfl rfl) ?_
  refine Eq.trans (zd_invVi zh129 zh101 rfl rfl ⟨Nat.le_of_ble_eq_true rfl, Nat.le_of_ble_eq_true rfl, Nat.le_of_ble_eq_true rfl, Nat.le_of_ble_eq_true rfl⟩ rfl h1 h2 rfl) ?_
  refine Eq.trans (zd_bipush zh129 (v := (-6)) rfl rfl) ?_
  exact zd_icmpeq zh129 (t := 23) (by decide) rfl
theorem b129_23 {scr : List Int32} {w : zAW} {a0 : Nat} {x1 : Int32} {x2 : Int32} {x3 : Int32} {x4 : Int32}  : zd scr 129 23 [some (.ref a0), some (.int x1), some (.int x2), some (.int x3), some (.int x4)] [] w = some (some (.int (-1)), w) := by
  refine Eq.trans (zd_iconst zh129 (v := (-1)) rfl rfl) ?_
  refine Eq.trans (zd_goto zh129 (t := 38) (by decide) rfl) ?_
  exact zd_iret zh129 rfl rfl
set_option maxRecDepth 20000 in
theorem b129_11 {scr : List Int32} {w : zAW} {a0 : Nat} {x1 : Int32} {x2 : Int32} {x3 : Int32} {x4 : Int32} (h1 : zob w a0 6 = true) {f1 : Int32} {w1 : zAW} (h2 : zC scr 101 [.ref a0, .int x3, .int x4] w = some (some (.int f1), w1)) : zd scr 129 11 [some (.ref a0), some (.int x1), some (.int x2), some (.int x3), some (.int x4)] [] w = if f1 = (-6) then zd scr 129 23 [some (.ref a0), some (.int x1), some (.int x2), some (.int x3), some (.int x4)] [] w1 else zd scr 129 27 [some (.ref a0), some (.int x1), some (.int x2), some (.int x3), some (.int x4)] [] w1 := by
  refine Eq.trans (zd_aload_n zh129 rfl rfl) ?_
  refine Eq.trans (zd_iload_n zh129 rfl rfl) ?_
  refine Eq.trans (zd_iload zh129 rfl rfl) ?_
  refine Eq.trans (zd_invVi zh129 zh101 rfl rfl ⟨Nat.le_of_ble_eq_true rfl, Nat.le_of_ble_eq_true rfl, Nat.le_of_ble_eq_true rfl, Nat.le_of_ble_eq_true rfl⟩ rfl h1 h2 rfl) ?_
  refine Eq.trans (zd_bipush zh129 (v := (-6)) rfl rfl) ?_
  exact zd_icmpne zh129 (t := 27) (by decide) rfl
theorem b129_27 {scr : List Int32} {w : zAW} {a0 : Nat} {x1 : Int32} {x2 : Int32} {x3 : Int32} {x4 : Int32}  : zd scr 129 27 [some (.ref a0), some (.int x1), some (.int x2), some (.int x3), some (.int x4)] [] w = if x1 = x3 then zd scr 129 32 [some (.ref a0), some (.int x1), some (.int x2), some (.int x3), some (.int x4)] [] w else zd scr 129 37 [some (.ref a0), some (.int x1), some (.int x2), some (.int x3), some (.int x4)] [] w := by
  refine Eq.trans (zd_iload_n zh129 rfl rfl) ?_
  refine Eq.trans (zd_iload_n zh129 rfl rfl) ?_
  exact zd_icmpne zh129 (t := 37) (by decide) rfl
theorem b129_32 {scr : List Int32} {w : zAW} {a0 : Nat} {x1 : Int32} {x2 : Int32} {x3 : Int32} {x4 : Int32}  : zd scr 129 32 [some (.ref a0), some (.int x1), some (.int x2), some (.int x3), some (.int x4)] [] w = some (some (.int (-2)), w) := by
  refine Eq.trans (zd_bipush zh129 (v := (-2)) rfl rfl) ?_
  refine Eq.trans (zd_goto zh129 (t := 38) (by decide) rfl) ?_
  exact zd_iret zh129 rfl rfl
theorem b129_37 {scr : List Int32} {w : zAW} {a0 : Nat} {x1 : Int32} {x2 : Int32} {x3 : Int32} {x4 : Int32}  : zd scr 129 37 [some (.ref a0), some (.int x1), some (.int x2), some (.int x3), some (.int x4)] [] w = some (some (.int (nI 0)), w) := by
  refine Eq.trans (zd_iconst zh129 (v := (nI 0)) rfl rfl) ?_
  exact zd_iret zh129 rfl rfl
/-! yX6_swap: 130, MarbleHeirsModel.swap(IIII)I -/
set_option maxRecDepth 20000 in
theorem b130_0 {scr : List Int32} {w : zAW} {a0 : Nat} {x1 : Int32} {x2 : Int32} {x3 : Int32} {x4 : Int32} (h1 : zob w a0 6 = true) {f1 : Int32} {w1 : zAW} (h2 : zC scr 129 [.ref a0, .int x1, .int x2, .int x3, .int x4] w = some (some (.int f1), w1)) : zd scr 130 0 [some (.ref a0), some (.int x1), some (.int x2), some (.int x3), some (.int x4), none, none, none, none] [] w = if f1 < 0 then zd scr 130 16 [some (.ref a0), some (.int x1), some (.int x2), some (.int x3), some (.int x4), some (.int f1), none, none, none] [] w1 else zd scr 130 19 [some (.ref a0), some (.int x1), some (.int x2), some (.int x3), some (.int x4), some (.int f1), none, none, none] [] w1 := by
  refine Eq.trans (zd_aload_n zh130 rfl rfl) ?_
  refine Eq.trans (zd_iload_n zh130 rfl rfl) ?_
  refine Eq.trans (zd_iload_n zh130 rfl rfl) ?_
  refine Eq.trans (zd_iload_n zh130 rfl rfl) ?_
  refine Eq.trans (zd_iload zh130 rfl rfl) ?_
  refine Eq.trans (zd_invVi zh130 zh129 rfl rfl ⟨Nat.le_of_ble_eq_true rfl, Nat.le_of_ble_eq_true rfl, Nat.le_of_ble_eq_true rfl, Nat.le_of_ble_eq_true rfl⟩ rfl h1 h2 rfl) ?_
  refine Eq.trans (zd_istore zh130 (ls' := [some (.ref a0), some (.int x1), some (.int x2), some (.int x3), some (.int x4), some (.int f1), none, none, none]) (Nat.le_of_ble_eq_true rfl) rfl rfl) ?_
  refine Eq.trans (zd_iload zh130 rfl rfl) ?_
  exact zd_ifge zh130 (t := 19) (by decide) rfl
theorem b130_16 {scr : List Int32} {w : zAW} {a0 : Nat} {x1 : Int32} {x2 : Int32} {x3 : Int32} {x4 : Int32} {x5 : Int32}  : zd scr 130 16 [some (.ref a0), some (.int x1), some (.int x2), some (.int x3), some (.int x4), some (.int x5), none, none, none] [] w = some (some (.int x5), w) := by
  refine Eq.trans (zd_iload zh130 rfl rfl) ?_
  exact zd_iret zh130 rfl rfl
set_option maxRecDepth 20000 in
theorem b130_19 {scr : List Int32} {w : zAW} {a0 : Nat} {x1 : Int32} {x2 : Int32} {x3 : Int32} {x4 : Int32} {x5 : Int32} (h1 : zob w a0 6 = true) {w1 : zAW} (h2 : zC scr 92 [.ref a0] w = some (none, w1)) (h3 : zob w1 a0 6 = true) {f1 : Int32} {w2 : zAW} (h4 : zC scr 101 [.ref a0, .int x1, .int x2] w1 = some (some (.int f1), w2)) (h5 : zob w2 a0 6 = true) {f2 : Int32} {w3 : zAW} (h6 : zC scr 101 [.ref a0, .int x3, .int x4] w2 = some (some (.int f2), w3)) (h7 : zob w3 a0 6 = true) {f3 : Int32} {w4 : zAW} (h8 : zC scr 108 [.ref a0, .int f1, .int f2] w3 = some (some (.int f3), w4)) : zd scr 130 19 [some (.ref a0), some (.int x1), some (.int x2), some (.int x3), some (.int x4), some (.int x5), none, none, none] [] w = if f3 = (-6) then zd scr 130 57 [some (.ref a0), some (.int x1), some (.int x2), some (.int x3), some (.int x4), some (.int x5), some (.int f1), some (.int f2), some (.int f3)] [] w4 else zd scr 130 68 [some (.ref a0), some (.int x1), some (.int x2), some (.int x3), some (.int x4), some (.int x5), some (.int f1), some (.int f2), some (.int f3)] [] w4 := by
  refine Eq.trans (zd_aload_n zh130 rfl rfl) ?_
  refine Eq.trans (zd_invVv zh130 zh92 rfl rfl ⟨Nat.le_of_ble_eq_true rfl, Nat.le_of_ble_eq_true rfl, Nat.le_of_ble_eq_true rfl, Nat.le_of_ble_eq_true rfl⟩ rfl h1 h2 rfl) ?_
  refine Eq.trans (zd_aload_n zh130 rfl rfl) ?_
  refine Eq.trans (zd_iload_n zh130 rfl rfl) ?_
  refine Eq.trans (zd_iload_n zh130 rfl rfl) ?_
  refine Eq.trans (zd_invVi zh130 zh101 rfl rfl ⟨Nat.le_of_ble_eq_true rfl, Nat.le_of_ble_eq_true rfl, Nat.le_of_ble_eq_true rfl, Nat.le_of_ble_eq_true rfl⟩ rfl h3 h4 rfl) ?_
  refine Eq.trans (zd_istore zh130 (ls' := [some (.ref a0), some (.int x1), some (.int x2), some (.int x3), some (.int x4), some (.int x5), some (.int f1), none, none]) (Nat.le_of_ble_eq_true rfl) rfl rfl) ?_
  refine Eq.trans (zd_aload_n zh130 rfl rfl) ?_
  refine Eq.trans (zd_iload_n zh130 rfl rfl) ?_
  refine Eq.trans (zd_iload zh130 rfl rfl) ?_
  refine Eq.trans (zd_invVi zh130 zh101 rfl rfl ⟨Nat.le_of_ble_eq_true rfl, Nat.le_of_ble_eq_true rfl, Nat.le_of_ble_eq_true rfl, Nat.le_of_ble_eq_true rfl⟩ rfl h5 h6 rfl) ?_
  refine Eq.trans (zd_istore zh130 (ls' := [some (.ref a0), some (.int x1), some (.int x2), some (.int x3), some (.int x4), some (.int x5), some (.int f1), some (.int f2), none]) (Nat.le_of_ble_eq_true rfl) rfl rfl) ?_
  refine Eq.trans (zd_aload_n zh130 rfl rfl) ?_
  refine Eq.trans (zd_iload zh130 rfl rfl) ?_
  refine Eq.trans (zd_iload zh130 rfl rfl) ?_
  refine Eq.trans (zd_invVi zh130 zh108 rfl rfl ⟨Nat.le_of_ble_eq_true rfl, Nat.le_of_ble_eq_true rfl, Nat.le_of_ble_eq_true rfl, Nat.le_of_ble_eq_true rfl⟩ rfl h7 h8 rfl) ?_
  refine Eq.trans (zd_istore zh130 (ls' := [some (.ref a0), some (.int x1), some (.int x2), some (.int x3), some (.int x4), some (.int x5), some (.int f1), some (.int f2), some (.int f3)]) (Nat.le_of_ble_eq_true rfl) rfl rfl) ?_
  refine Eq.trans (zd_iload zh130 rfl rfl) ?_
  refine Eq.trans (zd_bipush zh130 (v := (-6)) rfl rfl) ?_
  exact zd_icmpne zh130 (t := 68) (by decide) rfl
set_option maxRecDepth 20000 in
theorem b130_57 {scr : List Int32} {w : zAW} {a0 : Nat} {x1 : Int32} {x2 : Int32} {x3 : Int32} {x4 : Int32} {x5 : Int32} {x6 : Int32} {x7 : Int32} {x8 : Int32} (h1 : zob w a0 6 = true) {w1 : zAW} (h2 : zC scr 109 [.ref a0, .int x6, .int x7] w = some (none, w1)) : zd scr 130 57 [some (.ref a0), some (.int x1), some (.int x2), some (.int x3), some (.int x4), some (.int x5), some (.int x6), some (.int x7), some (.int x8)] [] w = some (some (.int x8), w1) := by
  refine Eq.trans (zd_aload_n zh130 rfl rfl) ?_
  refine Eq.trans (zd_iload zh130 rfl rfl) ?_
  refine Eq.trans (zd_iload zh130 rfl rfl) ?_
  refine Eq.trans (zd_invVv zh130 zh109 rfl rfl ⟨Nat.le_of_ble_eq_true rfl, Nat.le_of_ble_eq_true rfl, Nat.le_of_ble_eq_true rfl, Nat.le_of_ble_eq_true rfl⟩ rfl h1 h2 rfl) ?_
  refine Eq.trans (zd_goto zh130 (t := 92) (by decide) rfl) ?_
  refine Eq.trans (zd_iload zh130 rfl rfl) ?_
  exact zd_iret zh130 rfl rfl
theorem b130_68 {scr : List Int32} {w : zAW} {a0 : Nat} {x1 : Int32} {x2 : Int32} {x3 : Int32} {x4 : Int32} {x5 : Int32} {x6 : Int32} {x7 : Int32} {x8 : Int32} {g1 : Nat} (h1 : zgf w a0 6 0 = some (.ref g1)) {f2 : Int32} (h2 : zal w g1 ((nI 8) + x8) = some f2) {w1 : zAW} (h3 : zas w g1 ((nI 8) + x8) (f2 - (nI 1)) = some w1) {g3 : Nat} (h4 : zgf w1 a0 6 0 = some (.ref g3)) {f4 : Int32} (h5 : zal w1 g3 (nI 5) = some f4) {w2 : zAW} (h6 : zas w1 g3 (nI 5) (f4 + (nI 1)) = some w2) : zd scr 130 68 [some (.ref a0), some (.int x1), some (.int x2), some (.int x3), some (.int x4), some (.int x5), some (.int x6), some (.int x7), some (.int x8)] [] w = some (some (.int x8), w2) := by
  refine Eq.trans (zd_aload_n zh130 rfl rfl) ?_
  refine Eq.trans (zd_getfield zh130 (ci := 6) (k := 0) rfl h1 rfl) ?_
  refine Eq.trans (zd_bipush zh130 (v := (nI 8)) rfl rfl) ?_
  refine Eq.trans (zd_iload zh130 rfl rfl) ?_
  refine Eq.trans (zd_iadd zh130 rfl) ?_
  refine Eq.trans (zd_dup2 zh130 rfl) ?_
  refine Eq.trans (zd_iaload zh130 h2 rfl) ?_
  refine Eq.trans (zd_iconst zh130 (v := (nI 1)) rfl rfl) ?_
  refine Eq.trans (zd_isub zh130 rfl) ?_
  refine Eq.trans (zd_iastore zh130 h3 rfl) ?_
  refine Eq.trans (zd_aload_n zh130 rfl rfl) ?_
  refine Eq.trans (zd_getfield zh130 (ci := 6) (k := 0) rfl h4 rfl) ?_
  refine Eq.trans (zd_iconst zh130 (v := (nI 5)) rfl rfl) ?_
  refine Eq.trans (zd_dup2 zh130 rfl) ?_
  refine Eq.trans (zd_iaload zh130 h5 rfl) ?_
  refine Eq.trans (zd_iconst zh130 (v := (nI 1)) rfl rfl) ?_
  refine Eq.trans (zd_iadd zh130 rfl) ?_
  refine Eq.trans (zd_iastore zh130 h6 rfl) ?_
  refine Eq.trans (zd_iload zh130 rfl rfl) ?_
  exact zd_iret zh130 rfl rfl
/-! yX6_settle: 131, MarbleHeirsModel.settle()I -/
set_option maxRecDepth 20000 in
theorem b131_0 {scr : List Int32} {w : zAW} {a0 : Nat} (h1 : zob w a0 6 = true) {w1 : zAW} (h2 : zC scr 92 [.ref a0] w = some (none, w1)) (h3 : zob w1 a0 6 = true) {w2 : zAW} (h4 : zC scr 114 [.ref a0] w1 = some (none, w2)) : zd scr 131 0 [some (.ref a0), none] [] w = zd scr 131 10 [some (.ref a0), some (.int (nI 0))] [] w2 := by
  refine Eq.trans (zd_aload_n zh131 rfl rfl) ?_
  refine Eq.trans (zd_invVv zh131 zh92 rfl rfl ⟨Nat.le_of_ble_eq_true rfl, Nat.le_of_ble_eq_true rfl, Nat.le_of_ble_eq_true rfl, Nat.le_of_ble_eq_true rfl⟩ rfl h1 h2 rfl) ?_
  refine Eq.trans (zd_iconst zh131 (v := (nI 0)) rfl rfl) ?_
  refine Eq.trans (zd_istore_n zh131 (ls' := [some (.ref a0), some (.int (nI 0))]) (Nat.le_of_ble_eq_true rfl) rfl rfl) ?_
  refine Eq.trans (zd_aload_n zh131 rfl rfl) ?_
  refine Eq.trans (zd_invVv zh131 zh114 rfl rfl ⟨Nat.le_of_ble_eq_true rfl, Nat.le_of_ble_eq_true rfl, Nat.le_of_ble_eq_true rfl, Nat.le_of_ble_eq_true rfl⟩ rfl h3 h4 rfl) ?_
  exact rfl
theorem b131_10 {scr : List Int32} {w : zAW} {a0 : Nat} {x1 : Int32} {g1 : Nat} (h1 : zgf w a0 6 8 = some (.ref g1)) {f2 : Int32} (h2 : zal w g1 (nI 0) = some f2) : zd scr 131 10 [some (.ref a0), some (.int x1)] [] w = if f2 = (-6) then zd scr 131 48 [some (.ref a0), some (.int x1)] [] w else zd scr 131 21 [some (.ref a0), some (.int x1)] [] w := by
  refine Eq.trans (zd_aload_n zh131 rfl rfl) ?_
  refine Eq.trans (zd_getfield zh131 (ci := 6) (k := 8) rfl h1 rfl) ?_
  refine Eq.trans (zd_iconst zh131 (v := (nI 0)) rfl rfl) ?_
  refine Eq.trans (zd_iaload zh131 h2 rfl) ?_
  refine Eq.trans (zd_bipush zh131 (v := (-6)) rfl rfl) ?_
  exact zd_icmpeq zh131 (t := 48) (by decide) rfl
theorem b131_48 {scr : List Int32} {w : zAW} {a0 : Nat} {x1 : Int32}  : zd scr 131 48 [some (.ref a0), some (.int x1)] [] w = some (some (.int x1), w) := by
  refine Eq.trans (zd_iload_n zh131 rfl rfl) ?_
  exact zd_iret zh131 rfl rfl
set_option maxRecDepth 20000 in
theorem b131_21 {scr : List Int32} {w : zAW} {a0 : Nat} {x1 : Int32} {g1 : Nat} (h1 : zgf w a0 6 8 = some (.ref g1)) {f2 : Int32} (h2 : zal w g1 (nI 5) = some f2) {g3 : Nat} (h3 : zgf w a0 6 8 = some (.ref g3)) {f4 : Int32} (h4 : zal w g3 (nI 6) = some f4) (h5 : zob w a0 6 = true) {w1 : zAW} (h6 : zC scr 109 [.ref a0, .int f2, .int f4] w = some (none, w1)) (h7 : zob w1 a0 6 = true) {w2 : zAW} (h8 : zC scr 114 [.ref a0] w1 = some (none, w2)) : zd scr 131 21 [some (.ref a0), some (.int x1)] [] w = zd scr 131 10 [some (.ref a0), some (.int (x1 + (nI 1)))] [] w2 := by
  refine Eq.trans (zd_aload_n zh131 rfl rfl) ?_
  refine Eq.trans (zd_aload_n zh131 rfl rfl) ?_
  refine Eq.trans (zd_getfield zh131 (ci := 6) (k := 8) rfl h1 rfl) ?_
  refine Eq.trans (zd_iconst zh131 (v := (nI 5)) rfl rfl) ?_
  refine Eq.trans (zd_iaload zh131 h2 rfl) ?_
  refine Eq.trans (zd_aload_n zh131 rfl rfl) ?_
  refine Eq.trans (zd_getfield zh131 (ci := 6) (k := 8) rfl h3 rfl) ?_
  refine Eq.trans (zd_bipush zh131 (v := (nI 6)) rfl rfl) ?_
  refine Eq.trans (zd_iaload zh131 h4 rfl) ?_
  refine Eq.trans (zd_invVv zh131 zh109 rfl rfl ⟨Nat.le_of_ble_eq_true rfl, Nat.le_of_ble_eq_true rfl, Nat.le_of_ble_eq_true rfl, Nat.le_of_ble_eq_true rfl⟩ rfl h5 h6 rfl) ?_
  refine Eq.trans (zd_iinc zh131 (ls' := [some (.ref a0), some (.int (x1 + (nI 1)))]) (v := (x1 + (nI 1))) rfl rfl rfl rfl) ?_
  refine Eq.trans (zd_aload_n zh131 rfl rfl) ?_
  refine Eq.trans (zd_invVv zh131 zh114 rfl rfl ⟨Nat.le_of_ble_eq_true rfl, Nat.le_of_ble_eq_true rfl, Nat.le_of_ble_eq_true rfl, Nat.le_of_ble_eq_true rfl⟩ rfl h7 h8 rfl) ?_
  refine Eq.trans (zd_goto zh131 (t := 10) (by decide) rfl) ?_
  exact rfl
/-! yX6_placeOf: 132, MarbleHeirsModel.placeOf(I)I -/
theorem b132_0 {scr : List Int32} {w : zAW} {a0 : Nat} {x1 : Int32}  : zd scr 132 0 [some (.ref a0), some (.int x1), none, none] [] w = zd scr 132 4 [some (.ref a0), some (.int x1), some (.int (nI 0)), some (.int (nI 0))] [] w := by
  refine Eq.trans (zd_iconst zh132 (v := (nI 0)) rfl rfl) ?_
  refine Eq.trans (zd_istore_n zh132 (ls' := [some (.ref a0), some (.int x1), some (.int (nI 0)), none]) (Nat.le_of_ble_eq_true rfl) rfl rfl) ?_
  refine Eq.trans (zd_iconst zh132 (v := (nI 0)) rfl rfl) ?_
  refine Eq.trans (zd_istore_n zh132 (ls' := [some (.ref a0), some (.int x1), some (.int (nI 0)), some (.int (nI 0))]) (Nat.le_of_ble_eq_true rfl) rfl rfl) ?_
  exact rfl
theorem b132_4 {scr : List Int32} {w : zAW} {a0 : Nat} {x1 : Int32} {x2 : Int32} {x3 : Int32} {g1 : Nat} (h1 : zgf w a0 6 0 = some (.ref g1)) {f2 : Int32} (h2 : zal w g1 (nI 0) = some f2) : zd scr 132 4 [some (.ref a0), some (.int x1), some (.int x2), some (.int x3)] [] w = if x3 < f2 then zd scr 132 14 [some (.ref a0), some (.int x1), some (.int x2), some (.int x3)] [] w else zd scr 132 39 [some (.ref a0), some (.int x1), some (.int x2), some (.int x3)] [] w := by
  refine Eq.trans (zd_iload_n zh132 rfl rfl) ?_
  refine Eq.trans (zd_aload_n zh132 rfl rfl) ?_
  refine Eq.trans (zd_getfield zh132 (ci := 6) (k := 0) rfl h1 rfl) ?_
  refine Eq.trans (zd_iconst zh132 (v := (nI 0)) rfl rfl) ?_
  refine Eq.trans (zd_iaload zh132 h2 rfl) ?_
  exact zd_icmpge zh132 (t := 39) (by decide) rfl
theorem b132_14 {scr : List Int32} {w : zAW} {a0 : Nat} {x1 : Int32} {x2 : Int32} {x3 : Int32} {g1 : Nat} (h1 : zgf w a0 6 0 = some (.ref g1)) {f2 : Int32} (h2 : zal w g1 ((nI 24) + x3) = some f2) : zd scr 132 14 [some (.ref a0), some (.int x1), some (.int x2), some (.int x3)] [] w = if f2 = x1 then zd scr 132 27 [some (.ref a0), some (.int x1), some (.int x2), some (.int x3)] [] w else zd scr 132 31 [some (.ref a0), some (.int x1), some (.int x2), some (.int x3)] [] w := by
  refine Eq.trans (zd_aload_n zh132 rfl rfl) ?_
  refine Eq.trans (zd_getfield zh132 (ci := 6) (k := 0) rfl h1 rfl) ?_
  refine Eq.trans (zd_bipush zh132 (v := (nI 24)) rfl rfl) ?_
  refine Eq.trans (zd_iload_n zh132 rfl rfl) ?_
  refine Eq.trans (zd_iadd zh132 rfl) ?_
  refine Eq.trans (zd_iaload zh132 h2 rfl) ?_
  refine Eq.trans (zd_iload_n zh132 rfl rfl) ?_
  exact zd_icmpne zh132 (t := 31) (by decide) rfl
theorem b132_39 {scr : List Int32} {w : zAW} {a0 : Nat} {x1 : Int32} {x2 : Int32} {x3 : Int32}  : zd scr 132 39 [some (.ref a0), some (.int x1), some (.int x2), some (.int x3)] [] w = some (some (.int x2), w) := by
  refine Eq.trans (zd_iload_n zh132 rfl rfl) ?_
  exact zd_iret zh132 rfl rfl
theorem b132_27 {scr : List Int32} {w : zAW} {a0 : Nat} {x1 : Int32} {x2 : Int32} {x3 : Int32}  : zd scr 132 27 [some (.ref a0), some (.int x1), some (.int x2), some (.int x3)] [] w = zd scr 132 4 [some (.ref a0), some (.int x1), some (.int x3), some (.int (x3 + (nI 1)))] [] w := by
  refine Eq.trans (zd_iload_n zh132 rfl rfl) ?_
  refine Eq.trans (zd_goto zh132 (t := 32) (by decide) rfl) ?_
  refine Eq.trans (zd_istore_n zh132 (ls' := [some (.ref a0), some (.int x1), some (.int x3), some (.int x3)]) (Nat.le_of_ble_eq_true rfl) rfl rfl) ?_
  refine Eq.trans (zd_iinc zh132 (ls' := [some (.ref a0), some (.int x1), some (.int x3), some (.int (x3 + (nI 1)))]) (v := (x3 + (nI 1))) rfl rfl rfl rfl) ?_
  refine Eq.trans (zd_goto zh132 (t := 4) (by decide) rfl) ?_
  exact rfl
theorem b132_31 {scr : List Int32} {w : zAW} {a0 : Nat} {x1 : Int32} {x2 : Int32} {x3 : Int32}  : zd scr 132 31 [some (.ref a0), some (.int x1), some (.int x2), some (.int x3)] [] w = zd scr 132 4 [some (.ref a0), some (.int x1), some (.int x2), some (.int (x3 + (nI 1)))] [] w := by
  refine Eq.trans (zd_iload_n zh132 rfl rfl) ?_
  refine Eq.trans (zd_istore_n zh132 (ls' := [some (.ref a0), some (.int x1), some (.int x2), some (.int x3)]) (Nat.le_of_ble_eq_true rfl) rfl rfl) ?_
  refine Eq.trans (zd_iinc zh132 (ls' := [some (.ref a0), some (.int x1), some (.int x2), some (.int (x3 + (nI 1)))]) (v := (x3 + (nI 1))) rfl rfl rfl rfl) ?_
  refine Eq.trans (zd_goto zh132 (t := 4) (by decide) rfl) ?_
  exact rfl
