/-! yL_swaps: 90, MarbleHeirsLaw.swaps(LMarbleHeirs;IIII)Z -/
set_option maxRecDepth 20000 in
theorem b90_0 {scr : List Int32} {w : zAW} {a0 : Nat} {x1 : Int32} {x2 : Int32} {x3 : Int32} {x4 : Int32} (h1 : zob w a0 5 = true) {f1 : Int32} {w1 : zAW} (h2 : zC scr 72 [.ref a0, .int x1, .int x2, .int x3, .int x4] w = some (some (.int f1), w1)) (h3 : zob w1 a0 5 = true) {f2 : Int32} {w2 : zAW} (h4 : zC scr 65 [.ref a0, .int x1, .int x2, .int (nI 0)] w1 = some (some (.int f2), w2)) (h5 : zob w2 a0 5 = true) {f3 : Int32} {w3 : zAW} (h6 : zC scr 65 [.ref a0, .int x1, .int x2, .int (nI 1)] w2 = some (some (.int f3), w3)) (h7 : zob w3 a0 5 = true) {f4 : Int32} {w4 : zAW} (h8 : zC scr 65 [.ref a0, .int x3, .int x4, .int (nI 0)] w3 = some (some (.int f4), w4)) (h9 : zob w4 a0 5 = true) {f5 : Int32} {w5 : zAW} (h10 : zC scr 65 [.ref a0, .int x3, .int x4, .int (nI 1)] w4 = some (some (.int f5), w5)) (h11 : zob w5 a0 5 = true) {f6 : Int32} {w6 : zAW} (h12 : zC scr 69 [.ref a0, .int (nI 6)] w5 = some (some (.int f6), w6)) (h13 : zob w6 a0 5 = true) {f7 : Int32} {w7 : zAW} (h14 : zC scr 69 [.ref a0, .int (nI 7)] w6 = some (some (.int f7), w7)) : zd scr 90 0 [some (.ref a0), some (.int x1), some (.int x2), some (.int x3), some (.int x4), none, none, none, none, none, none, none, none, none, none, none, none, none] [] w = if f2 < 0 then zd scr 90 80 [some (.ref a0), some (.int x1), some (.int x2), some (.int x3), some (.int x4), some (.int f1), some (.int f2), some (.int f3), some (.int f4), some (.int f5), some (.int f6), some (.int f7), none, none, none, none, none, none] [] w7 else zd scr 90 70 [some (.ref a0), some (.int x1), some (.int x2), some (.int x3), some (.int x4), some (.int f1), some (.int f2), some (.int f3), some (.int f4), some (.int f5), some (.int f6), some (.int f7), none, none, none, none, none, none] [] w7 := by
  refine Eq.trans (zd_aload_n zh90 rfl rfl) ?_
  refine Eq.trans (zd_iload_n zh90 rfl rfl) ?_
  refine Eq.trans (zd_iload_n zh90 rfl rfl) ?_
  refine Eq.trans (zd_iload_n zh90 rfl rfl) ?_
  refine Eq.trans (zd_iload zh90 rfl rfl) ?_
  refine Eq.trans (zd_invVi zh90 zh72 rfl rfl ⟨Nat.le_of_ble_eq_true rfl, Nat.le_of_ble_eq_true rfl, Nat.le_of_ble_eq_true rfl, Nat.le_of_ble_eq_true rfl⟩ rfl h1 h2 rfl) ?_
  refine Eq.trans (zd_istore zh90 (ls' := [some (.ref a0), some (.int x1), some (.int x2), some (.int x3), some (.int x4), some (.int f1), none, none, none, none, none, none, none, none, none, none, none, none]) (Nat.le_of_ble_eq_true rfl) rfl rfl) ?_
  refine Eq.trans (zd_aload_n zh90 rfl rfl) ?_
  refine Eq.trans (zd_iload_n zh90 rfl rfl) ?_
  refine Eq.trans (zd_iload_n zh90 rfl rfl) ?_
  refine Eq.trans (zd_iconst zh90 (v := (nI 0)) rfl rfl) ?_
  refine Eq.trans (zd_invVi zh90 zh65 rfl rfl ⟨Nat.le_of_ble_eq_true rfl, Nat.le_of_ble_eq_true rfl, Nat.le_of_ble_eq_true rfl, Nat.le_of_ble_eq_true rfl⟩ rfl h3 h4 rfl) ?_
  refine Eq.trans (zd_istore zh90 (ls' := [some (.ref a0), some (.int x1), some (.int x2), some (.int x3), some (.int x4), some (.int f1), some (.int f2), none, none, none, none, none, none, none, none, none, none, none]) (Nat.le_of_ble_eq_true rfl) rfl rfl) ?_
  refine Eq.trans (zd_aload_n zh90 rfl rfl) ?_
  refine Eq.trans (zd_iload_n zh90 rfl rfl) ?_
  refine Eq.trans (zd_iload_n zh90 rfl rfl) ?_
  refine Eq.trans (zd_iconst zh90 (v := (nI 1)) rfl rfl) ?_
  refine Eq.trans (zd_invVi zh90 zh65 rfl rfl ⟨Nat.le_of_ble_eq_true rfl, Nat.le_of_ble_eq_true rfl, Nat.le_of_ble_eq_true rfl, Nat.le_of_ble_eq_true rfl⟩ rfl h5 h6 rfl) ?_
  refine Eq.trans (zd_istore zh90 (ls' := [some (.ref a0), some (.int x1), some (.int x2), some (.int x3), some (.int x4), some (.int f1), some (.int f2), some (.int f3), none, none, none, none, none, none, none, none, none, none]) (Nat.le_of_ble_eq_true rfl) rfl rfl) ?_
  refine Eq.trans (zd_aload_n zh90 rfl rfl) ?_
  refine Eq.trans (zd_iload_n zh90 rfl rfl) ?_
  refine Eq.trans (zd_iload zh90 rfl rfl) ?_
  refine Eq.trans (zd_iconst zh90 (v := (nI 0)) rfl rfl) ?_
  refine Eq.trans (zd_invVi zh90 zh65 rfl rfl ⟨Nat.le_of_ble_eq_true rfl, Nat.le_of_ble_eq_true rfl, Nat.le_of_ble_eq_true rfl, Nat.le_of_ble_eq_true rfl⟩ rfl h7 h8 rfl) ?_
  refine Eq.trans (zd_istore zh90 (ls' := [some (.ref a0), some (.int x1), some (.int x2), some (.int x3), some (.int x4), some (.int f1), some (.int f2), some (.int f3), some (.int f4), none, none, none, none, none, none, none, none, none]) (Nat.le_of_ble_eq_true rfl) rfl rfl) ?_
  refine Eq.trans (zd_aload_n zh90 rfl rfl) ?_
  refine Eq.trans (zd_iload_n zh90 rfl rfl) ?_
  refine Eq.trans (zd_iload zh90 rfl rfl) ?_
  refine Eq.trans (zd_iconst zh90 (v := (nI 1)) rfl rfl) ?_
  refine Eq.trans (zd_invVi zh90 zh65 rfl rfl ⟨Nat.le_of_ble_eq_true rfl, Nat.le_of_ble_eq_true rfl, Nat.le_of_ble_eq_true rfl, Nat.le_of_ble_eq_true rfl⟩ rfl h9 h10 rfl) ?_
  refine Eq.trans (zd_istore zh90 (ls' := [some (.ref a0), some (.int x1), some (.int x2), some (.int x3), some (.int x4), some (.int f1), some (.int f2), some (.int f3), some (.int f4), some (.int f5), none, none, none, none, none, none, none, none]) (Nat.le_of_ble_eq_true rfl) rfl rfl) ?_
  refine Eq.trans (zd_aload_n zh90 rfl rfl) ?_
  refine Eq.trans (zd_bipush zh90 (v := (nI 6)) rfl rfl) ?_
  refine Eq.trans (zd_invVi zh90 zh69 rfl rfl ⟨Nat.le_of_ble_eq_true rfl, Nat.le_of_ble_eq_true rfl, Nat.le_of_ble_eq_true rfl, Nat.le_of_ble_eq_true rfl⟩ rfl h11 h12 rfl) ?_
  refine Eq.trans (zd_istore zh90 (ls' := [some (.ref a0), some (.int x1), some (.int x2), some (.int x3), some (.int x4), some (.int f1), some (.int f2), some (.int f3), some (.int f4), some (.int f5), some (.int f6), none, none, none, none, none, none, none]) (Nat.le_of_ble_eq_true rfl) rfl rfl) ?_
  refine Eq.trans (zd_aload_n zh90 rfl rfl) ?_
  refine Eq.trans (zd_bipush zh90 (v := (nI 7)) rfl rfl) ?_
  refine Eq.trans (zd_invVi zh90 zh69 rfl rfl ⟨Nat.le_of_ble_eq_true rfl, Nat.le_of_ble_eq_true rfl, Nat.le_of_ble_eq_true rfl, Nat.le_of_ble_eq_true rfl⟩ rfl h13 h14 rfl) ?_
  refine Eq.trans (zd_istore zh90 (ls' := [some (.ref a0), some (.int x1), some (.int x2), some (.int x3), some (.int x4), some (.int f1), some (.int f2), some (.int f3), some (.int f4), some (.int f5), some (.int f6), some (.int f7), none, none, none, none, none, none]) (Nat.le_of_ble_eq_true rfl) rfl rfl) ?_
  refine Eq.trans (zd_iload zh90 rfl rfl) ?_
  exact zd_iflt zh90 (t := 80) (by decide) rfl
set_option maxRecDepth 20000 in
theorem b90_80 {scr : List Int32} {w : zAW} {a0 : Nat} {x1 : Int32} {x2 : Int32} {x3 : Int32} {x4 : Int32} {x5 : Int32} {x6 : Int32} {x7 : Int32} {x8 : Int32} {x9 : Int32} {x10 : Int32} {x11 : Int32}  : zd scr 90 80 [some (.ref a0), some (.int x1), some (.int x2), some (.int x3), some (.int x4), some (.int x5), some (.int x6), some (.int x7), some (.int x8), some (.int x9), some (.int x10), some (.int x11), none, none, none, none, none, none] [] w = if x6 < 0 then zd scr 90 90 [some (.ref a0), some (.int x1), some (.int x2), some (.int x3), some (.int x4), some (.int x5), some (.int x6), some (.int x7), some (.int x8), some (.int x9), some (.int x10), some (.int x11), none, none, none, none, none, none] [] w else zd scr 90 85 [some (.ref a0), some (.int x1), some (.int x2), some (.int x3), some (.int x4), some (.int x5), some (.int x6), some (.int x7), some (.int x8), some (.int x9), some (.int x10), some (.int x11), none, none, none, none, none, none] [] w := by
  refine Eq.trans (zd_iload zh90 rfl rfl) ?_
  exact zd_iflt zh90 (t := 90) (by decide) rfl
set_option maxRecDepth 20000 in
theorem b90_70 {scr : List Int32} {w : zAW} {a0 : Nat} {x1 : Int32} {x2 : Int32} {x3 : Int32} {x4 : Int32} {x5 : Int32} {x6 : Int32} {x7 : Int32} {x8 : Int32} {x9 : Int32} {x10 : Int32} {x11 : Int32}  : zd scr 90 70 [some (.ref a0), some (.int x1), some (.int x2), some (.int x3), some (.int x4), some (.int x5), some (.int x6), some (.int x7), some (.int x8), some (.int x9), some (.int x10), some (.int x11), none, none, none, none, none, none] [] w = if x8 < 0 then zd scr 90 80 [some (.ref a0), some (.int x1), some (.int x2), some (.int x3), some (.int x4), some (.int x5), some (.int x6), some (.int x7), some (.int x8), some (.int x9), some (.int x10), some (.int x11), none, none, none, none, none, none] [] w else zd scr 90 75 [some (.ref a0), some (.int x1), some (.int x2), some (.int x3), some (.int x4), some (.int x5), some (.int x6), some (.int x7), some (.int x8), some (.int x9), some (.int x10), some (.int x11), none, none, none, none, none, none] [] w := by
  refine Eq.trans (zd_iload zh90 rfl rfl) ?_
  exact zd_iflt zh90 (t := 80) (by decide) rfl
set_option maxRecDepth 20000 in
theorem b90_90 {scr : List Int32} {w : zAW} {a0 : Nat} {x1 : Int32} {x2 : Int32} {x3 : Int32} {x4 : Int32} {x5 : Int32} {x6 : Int32} {x7 : Int32} {x8 : Int32} {x9 : Int32} {x10 : Int32} {x11 : Int32}  : zd scr 90 90 [some (.ref a0), some (.int x1), some (.int x2), some (.int x3), some (.int x4), some (.int x5), some (.int x6), some (.int x7), some (.int x8), some (.int x9), some (.int x10), some (.int x11), none, none, none, none, none, none] [] w = if x5 = (-1) then zd scr 90 105 [some (.ref a0), some (.int x1), some (.int x2), some (.int x3), some (.int x4), some (.int x5), some (.int x6), some (.int x7), some (.int x8), some (.int x9), some (.int x10), some (.int x11), some (.int (-1)), none, none, none, none, none] [] w else zd scr 90 145 [some (.ref a0), some (.int x1), some (.int x2), some (.int x3), some (.int x4), some (.int x5), some (.int x6), some (.int x7), some (.int x8), some (.int x9), some (.int x10), some (.int x11), some (.int (-1)), none, none, none, none, none] [] w := by
  refine Eq.trans (zd_iconst zh90 (v := (-1)) rfl rfl) ?_
  refine Eq.trans (zd_goto zh90 (t := 96) (by decide) rfl) ?_
  refine Eq.trans (zd_istore zh90 (ls' := [some (.ref a0), some (.int x1), some (.int x2), some (.int x3), some (.int x4), some (.int x5), some (.int x6), some (.int x7), some (.int x8), some (.int x9), some (.int x10), some (.int x11), some (.int (-1)), none, none, none, none, none]) (Nat.le_of_ble_eq_true rfl) rfl rfl) ?_
  refine Eq.trans (zd_iload zh90 rfl rfl) ?_
  refine Eq.trans (zd_iload zh90 rfl rfl) ?_
  exact zd_icmpne zh90 (t := 145) (by decide) rfl
set_option maxRecDepth 20000 in
theorem b90_85 {scr : List Int32} {w : zAW} {a0 : Nat} {x1 : Int32} {x2 : Int32} {x3 : Int32} {x4 : Int32} {x5 : Int32} {x6 : Int32} {x7 : Int32} {x8 : Int32} {x9 : Int32} {x10 : Int32} {x11 : Int32}  : zd scr 90 85 [some (.ref a0), some (.int x1), some (.int x2), some (.int x3), some (.int x4), some (.int x5), some (.int x6), some (.int x7), some (.int x8), some (.int x9), some (.int x10), some (.int x11), none, none, none, none, none, none] [] w = if x8 < 0 then zd scr 90 90 [some (.ref a0), some (.int x1), some (.int x2), some (.int x3), some (.int x4), some (.int x5), some (.int x6), some (.int x7), some (.int x8), some (.int x9), some (.int x10), some (.int x11), none, none, none, none, none, none] [] w else zd scr 90 94 [some (.ref a0), some (.int x1), some (.int x2), some (.int x3), some (.int x4), some (.int x5), some (.int x6), some (.int x7), some (.int x8), some (.int x9), some (.int x10), some (.int x11), none, none, none, none, none, none] [] w := by
  refine Eq.trans (zd_iload zh90 rfl rfl) ?_
  exact zd_ifge zh90 (t := 94) (by decide) rfl
set_option maxRecDepth 20000 in
theorem b90_75 {scr : List Int32} {w : zAW} {a0 : Nat} {x1 : Int32} {x2 : Int32} {x3 : Int32} {x4 : Int32} {x5 : Int32} {x6 : Int32} {x7 : Int32} {x8 : Int32} {x9 : Int32} {x10 : Int32} {x11 : Int32}  : zd scr 90 75 [some (.ref a0), some (.int x1), some (.int x2), some (.int x3), some (.int x4), some (.int x5), some (.int x6), some (.int x7), some (.int x8), some (.int x9), some (.int x10), some (.int x11), none, none, none, none, none, none] [] w = if x1 = x3 then zd scr 90 80 [some (.ref a0), some (.int x1), some (.int x2), some (.int x3), some (.int x4), some (.int x5), some (.int x6), some (.int x7), some (.int x8), some (.int x9), some (.int x10), some (.int x11), none, none, none, none, none, none] [] w else zd scr 90 147 [some (.ref a0), some (.int x1), some (.int x2), some (.int x3), some (.int x4), some (.int x5), some (.int x6), some (.int x7), some (.int x8), some (.int x9), some (.int x10), some (.int x11), none, none, none, none, none, none] [] w := by
  refine Eq.trans (zd_iload_n zh90 rfl rfl) ?_
  refine Eq.trans (zd_iload_n zh90 rfl rfl) ?_
  exact zd_icmpne zh90 (t := 147) (by decide) rfl
set_option maxRecDepth 20000 in
theorem b90_105 {scr : List Int32} {w : zAW} {a0 : Nat} {x1 : Int32} {x2 : Int32} {x3 : Int32} {x4 : Int32} {x5 : Int32} {x6 : Int32} {x7 : Int32} {x8 : Int32} {x9 : Int32} {x10 : Int32} {x11 : Int32} {x12 : Int32} (h1 : zob w a0 5 = true) {f1 : Int32} {w1 : zAW} (h2 : zC scr 62 [.ref a0, .int x1, .int x2, .int x3, .int x4] w = some (some (.int f1), w1)) : zd scr 90 105 [some (.ref a0), some (.int x1), some (.int x2), some (.int x3), some (.int x4), some (.int x5), some (.int x6), some (.int x7), some (.int x8), some (.int x9), some (.int x10), some (.int x11), some (.int x12), none, none, none, none, none] [] w = if f1 = x12 then zd scr 90 119 [some (.ref a0), some (.int x1), some (.int x2), some (.int x3), some (.int x4), some (.int x5), some (.int x6), some (.int x7), some (.int x8), some (.int x9), some (.int x10), some (.int x11), some (.int x12), none, none, none, none, none] [] w1 else zd scr 90 145 [some (.ref a0), some (.int x1), some (.int x2), some (.int x3), some (.int x4), some (.int x5), some (.int x6), some (.int x7), some (.int x8), some (.int x9), some (.int x10), some (.int x11), some (.int x12), none, none, none, none, none] [] w1 := by
  refine Eq.trans (zd_aload_n zh90 rfl rfl) ?_
  refine Eq.trans (zd_iload_n zh90 rfl rfl) ?_
  refine Eq.trans (zd_iload_n zh90 rfl rfl) ?_
  refine Eq.trans (zd_iload_n zh90 rfl rfl) ?_
  refine Eq.trans (zd_iload zh90 rfl rfl) ?_
  refine Eq.trans (zd_invVi zh90 zh62 rfl rfl ⟨Nat.le_of_ble_eq_true rfl, Nat.le_of_ble_eq_true rfl, Nat.le_of_ble_eq_true rfl, Nat.le_of_ble_eq_true rfl⟩ rfl h1 h2 rfl) ?_
  refine Eq.trans (zd_iload zh90 rfl rfl) ?_
  exact zd_icmpne zh90 (t := 145) (by decide) rfl
set_option maxRecDepth 20000 in
theorem b90_145 {scr : List Int32} {w : zAW} {a0 : Nat} {x1 : Int32} {x2 : Int32} {x3 : Int32} {x4 : Int32} {x5 : Int32} {x6 : Int32} {x7 : Int32} {x8 : Int32} {x9 : Int32} {x10 : Int32} {x11 : Int32} {x12 : Int32}  : zd scr 90 145 [some (.ref a0), some (.int x1), some (.int x2), some (.int x3), some (.int x4), some (.int x5), some (.int x6), some (.int x7), some (.int x8), some (.int x9), some (.int x10), some (.int x11), some (.int x12), none, none, none, none, none] [] w = some (some (.int (nI 0)), w) := by
  refine Eq.trans (zd_iconst zh90 (v := (nI 0)) rfl rfl) ?_
  exact zd_iret zh90 rfl rfl
set_option maxRecDepth 20000 in
theorem b90_94 {scr : List Int32} {w : zAW} {a0 : Nat} {x1 : Int32} {x2 : Int32} {x3 : Int32} {x4 : Int32} {x5 : Int32} {x6 : Int32} {x7 : Int32} {x8 : Int32} {x9 : Int32} {x10 : Int32} {x11 : Int32}  : zd scr 90 94 [some (.ref a0), some (.int x1), some (.int x2), some (.int x3), some (.int x4), some (.int x5), some (.int x6), some (.int x7), some (.int x8), some (.int x9), some (.int x10), some (.int x11), none, none, none, none, none, none] [] w = if x5 = (-2) then zd scr 90 105 [some (.ref a0), some (.int x1), some (.int x2), some (.int x3), some (.int x4), some (.int x5), some (.int x6), some (.int x7), some (.int x8), some (.int x9), some (.int x10), some (.int x11), some (.int (-2)), none, none, none, none, none] [] w else zd scr 90 145 [some (.ref a0), some (.int x1), some (.int x2), some (.int x3), some (.int x4), some (.int x5), some (.int x6), some (.int x7), some (.int x8), some (.int x9), some (.int x10), some (.int x11), some (.int (-2)), none, none, none, none, none] [] w := by
  refine Eq.trans (zd_bipush zh90 (v := (-2)) rfl rfl) ?_
  refine Eq.trans (zd_istore zh90 (ls' := [some (.ref a0), some (.int x1), some (.int x2), some (.int x3), some (.int x4), some (.int x5), some (.int x6), some (.int x7), some (.int x8), some (.int x9), some (.int x10), some (.int x11), some (.int (-2)), none, none, none, none, none]) (Nat.le_of_ble_eq_true rfl) rfl rfl) ?_
  refine Eq.trans (zd_iload zh90 rfl rfl) ?_
  refine Eq.trans (zd_iload zh90 rfl rfl) ?_
  exact zd_icmpne zh90 (t := 145) (by decide) rfl
set_option maxRecDepth 20000 in
theorem b90_147 {scr : List Int32} {w : zAW} {a0 : Nat} {x1 : Int32} {x2 : Int32} {x3 : Int32} {x4 : Int32} {x5 : Int32} {x6 : Int32} {x7 : Int32} {x8 : Int32} {x9 : Int32} {x10 : Int32} {x11 : Int32} (h1 : zob w a0 5 = true) {f1 : Int32} {w1 : zAW} (h2 : zC scr 64 [.ref a0, .int x1, .int (nI 0)] w = some (some (.int f1), w1)) (h3 : zob w1 a0 5 = true) {f2 : Int32} {w2 : zAW} (h4 : zC scr 64 [.ref a0, .int x3, .int (nI 0)] w1 = some (some (.int f2), w2)) (h5 : zob w2 a0 5 = true) {f3 : Int32} {w3 : zAW} (h6 : zC scr 69 [.ref a0, .int (nI 12)] w2 = some (some (.int f3), w3)) : zd scr 90 147 [some (.ref a0), some (.int x1), some (.int x2), some (.int x3), some (.int x4), some (.int x5), some (.int x6), some (.int x7), some (.int x8), some (.int x9), some (.int x10), some (.int x11), none, none, none, none, none, none] [] w = if f3 < (x7 - x9) then zd scr 90 181 [some (.ref a0), some (.int x1), some (.int x2), some (.int x3), some (.int x4), some (.int x5), some (.int x6), some (.int x7), some (.int x8), some (.int x9), some (.int x10), some (.int x11), some (.int (x7 - x9)), some (.int f1), some (.int f2), none, none, none] [] w3 else zd scr 90 195 [some (.ref a0), some (.int x1), some (.int x2), some (.int x3), some (.int x4), some (.int x5), some (.int x6), some (.int x7), some (.int x8), some (.int x9), some (.int x10), some (.int x11), some (.int (x7 - x9)), some (.int f1), some (.int f2), none, none, none] [] w3 := by
  refine Eq.trans (zd_iload zh90 rfl rfl) ?_
  refine Eq.trans (zd_iload zh90 rfl rfl) ?_
  refine Eq.trans (zd_isub zh90 rfl) ?_
  refine Eq.trans (zd_istore zh90 (ls' := [some (.ref a0), some (.int x1), some (.int x2), some (.int x3), some (.int x4), some (.int x5), some (.int x6), some (.int x7), some (.int x8), some (.int x9), some (.int x10), some (.int x11), some (.int (x7 - x9)), none, none, none, none, none]) (Nat.le_of_ble_eq_true rfl) rfl rfl) ?_
  refine Eq.trans (zd_aload_n zh90 rfl rfl) ?_
  refine Eq.trans (zd_iload_n zh90 rfl rfl) ?_
  refine Eq.trans (zd_iconst zh90 (v := (nI 0)) rfl rfl) ?_
  refine Eq.trans (zd_invVi zh90 zh64 rfl rfl ⟨Nat.le_of_ble_eq_true rfl, Nat.le_of_ble_eq_true rfl, Nat.le_of_ble_eq_true rfl, Nat.le_of_ble_eq_true rfl⟩ rfl h1 h2 rfl) ?_
  refine Eq.trans (zd_istore zh90 (ls' := [some (.ref a0), some (.int x1), some (.int x2), some (.int x3), some (.int x4), some (.int x5), some (.int x6), some (.int x7), some (.int x8), some (.int x9), some (.int x10), some (.int x11), some (.int (x7 - x9)), some (.int f1), none, none, none, none]) (Nat.le_of_ble_eq_true rfl) rfl rfl) ?_
  refine Eq.trans (zd_aload_n zh90 rfl rfl) ?_
  refine Eq.trans (zd_iload_n zh90 rfl rfl) ?_
  refine Eq.trans (zd_iconst zh90 (v := (nI 0)) rfl rfl) ?_
  refine Eq.trans (zd_invVi zh90 zh64 rfl rfl ⟨Nat.le_of_ble_eq_true rfl, Nat.le_of_ble_eq_true rfl, Nat.le_of_ble_eq_true rfl, Nat.le_of_ble_eq_true rfl⟩ rfl h3 h4 rfl) ?_
  refine Eq.trans (zd_istore zh90 (ls' := [some (.ref a0), some (.int x1), some (.int x2), some (.int x3), some (.int x4), some (.int x5), some (.int x6), some (.int x7), some (.int x8), some (.int x9), some (.int x10), some (.int x11), some (.int (x7 - x9)), some (.int f1), some (.int f2), none, none, none]) (Nat.le_of_ble_eq_true rfl) rfl rfl) ?_
  refine Eq.trans (zd_iload zh90 rfl rfl) ?_
  refine Eq.trans (zd_aload_n zh90 rfl rfl) ?_
  refine Eq.trans (zd_bipush zh90 (v := (nI 12)) rfl rfl) ?_
  refine Eq.trans (zd_invVi zh90 zh69 rfl rfl ⟨Nat.le_of_ble_eq_true rfl, Nat.le_of_ble_eq_true rfl, Nat.le_of_ble_eq_true rfl, Nat.le_of_ble_eq_true rfl⟩ rfl h5 h6 rfl) ?_
  exact zd_icmple zh90 (t := 195) (by decide) rfl
set_option maxRecDepth 20000 in
theorem b90_119 {scr : List Int32} {w : zAW} {a0 : Nat} {x1 : Int32} {x2 : Int32} {x3 : Int32} {x4 : Int32} {x5 : Int32} {x6 : Int32} {x7 : Int32} {x8 : Int32} {x9 : Int32} {x10 : Int32} {x11 : Int32} {x12 : Int32} (h1 : zob w a0 5 = true) {f1 : Int32} {w1 : zAW} (h2 : zC scr 69 [.ref a0, .int (nI 6)] w = some (some (.int f1), w1)) : zd scr 90 119 [some (.ref a0), some (.int x1), some (.int x2), some (.int x3), some (.int x4), some (.int x5), some (.int x6), some (.int x7), some (.int x8), some (.int x9), some (.int x10), some (.int x11), some (.int x12), none, none, none, none, none] [] w = if f1 = x10 then zd scr 90 130 [some (.ref a0), some (.int x1), some (.int x2), some (.int x3), some (.int x4), some (.int x5), some (.int x6), some (.int x7), some (.int x8), some (.int x9), some (.int x10), some (.int x11), some (.int x12), none, none, none, none, none] [] w1 else zd scr 90 145 [some (.ref a0), some (.int x1), some (.int x2), some (.int x3), some (.int x4), some (.int x5), some (.int x6), some (.int x7), some (.int x8), some (.int x9), some (.int x10), some (.int x11), some (.int x12), none, none, none, none, none] [] w1 := by
  refine Eq.trans (zd_aload_n zh90 rfl rfl) ?_
  refine Eq.trans (zd_bipush zh90 (v := (nI 6)) rfl rfl) ?_
  refine Eq.trans (zd_invVi zh90 zh69 rfl rfl ⟨Nat.le_of_ble_eq_true rfl, Nat.le_of_ble_eq_true rfl, Nat.le_of_ble_eq_true rfl, Nat.le_of_ble_eq_true rfl⟩ rfl h1 h2 rfl) ?_
  refine Eq.trans (zd_iload zh90 rfl rfl) ?_
  exact zd_icmpne zh90 (t := 145) (by decide) rfl
set_option maxRecDepth 20000 in
theorem b90_181 {scr : List Int32} {w : zAW} {a0 : Nat} {x1 : Int32} {x2 : Int32} {x3 : Int32} {x4 : Int32} {x5 : Int32} {x6 : Int32} {x7 : Int32} {x8 : Int32} {x9 : Int32} {x10 : Int32} {x11 : Int32} {x12 : Int32} {x13 : Int32} {x14 : Int32} (h1 : zob w a0 5 = true) {f1 : Int32} {w1 : zAW} (h2 : zC scr 67 [.ref a0, .int x13] w = some (some (.int f1), w1)) : zd scr 90 181 [some (.ref a0), some (.int x1), some (.int x2), some (.int x3), some (.int x4), some (.int x5), some (.int x6), some (.int x7), some (.int x8), some (.int x9), some (.int x10), some (.int x11), some (.int x12), some (.int x13), some (.int x14), none, none, none] [] w = if 0 < f1 then zd scr 90 190 [some (.ref a0), some (.int x1), some (.int x2), some (.int x3), some (.int x4), some (.int x5), some (.int x6), some (.int x7), some (.int x8), some (.int x9), some (.int x10), some (.int x11), some (.int x12), some (.int x13), some (.int x14), none, none, none] [] w1 else zd scr 90 195 [some (.ref a0), some (.int x1), some (.int x2), some (.int x3), some (.int x4), some (.int x5), some (.int x6), some (.int x7), some (.int x8), some (.int x9), some (.int x10), some (.int x11), some (.int x12), some (.int x13), some (.int x14), none, none, none] [] w1 := by
  refine Eq.trans (zd_aload_n zh90 rfl rfl) ?_
  refine Eq.trans (zd_iload zh90 rfl rfl) ?_
  refine Eq.trans (zd_invVi zh90 zh67 rfl rfl ⟨Nat.le_of_ble_eq_true rfl, Nat.le_of_ble_eq_true rfl, Nat.le_of_ble_eq_true rfl, Nat.le_of_ble_eq_true rfl⟩ rfl h1 h2 rfl) ?_
  exact zd_ifle zh90 (t := 195) (by decide) rfl
set_option maxRecDepth 20000 in
theorem b90_195 {scr : List Int32} {w : zAW} {a0 : Nat} {x1 : Int32} {x2 : Int32} {x3 : Int32} {x4 : Int32} {x5 : Int32} {x6 : Int32} {x7 : Int32} {x8 : Int32} {x9 : Int32} {x10 : Int32} {x11 : Int32} {x12 : Int32} {x13 : Int32} {x14 : Int32} (h1 : zob w a0 5 = true) {f1 : Int32} {w1 : zAW} (h2 : zC scr 69 [.ref a0, .int (nI 12)] w = some (some (.int f1), w1)) : zd scr 90 195 [some (.ref a0), some (.int x1), some (.int x2), some (.int x3), some (.int x4), some (.int x5), some (.int x6), some (.int x7), some (.int x8), some (.int x9), some (.int x10), some (.int x11), some (.int x12), some (.int x13), some (.int x14), none, none, none] [] w = if f1 < (-x12) then zd scr 90 207 [some (.ref a0), some (.int x1), some (.int x2), some (.int x3), some (.int x4), some (.int x5), some (.int x6), some (.int x7), some (.int x8), some (.int x9), some (.int x10), some (.int x11), some (.int x12), some (.int x13), some (.int x14), none, none, none] [] w1 else zd scr 90 221 [some (.ref a0), some (.int x1), some (.int x2), some (.int x3), some (.int x4), some (.int x5), some (.int x6), some (.int x7), some (.int x8), some (.int x9), some (.int x10), some (.int x11), some (.int x12), some (.int x13), some (.int x14), none, none, none] [] w1 := by
  refine Eq.trans (zd_iload zh90 rfl rfl) ?_
  refine Eq.trans (zd_ineg zh90 rfl) ?_
  refine Eq.trans (zd_aload_n zh90 rfl rfl) ?_
  refine Eq.trans (zd_bipush zh90 (v := (nI 12)) rfl rfl) ?_
  refine Eq.trans (zd_invVi zh90 zh69 rfl rfl ⟨Nat.le_of_ble_eq_true rfl, Nat.le_of_ble_eq_true rfl, Nat.le_of_ble_eq_true rfl, Nat.le_of_ble_eq_true rfl⟩ rfl h1 h2 rfl) ?_
  exact zd_icmple zh90 (t := 221) (by decide) rfl
set_option maxRecDepth 20000 in
theorem b90_130 {scr : List Int32} {w : zAW} {a0 : Nat} {x1 : Int32} {x2 : Int32} {x3 : Int32} {x4 : Int32} {x5 : Int32} {x6 : Int32} {x7 : Int32} {x8 : Int32} {x9 : Int32} {x10 : Int32} {x11 : Int32} {x12 : Int32} (h1 : zob w a0 5 = true) {f1 : Int32} {w1 : zAW} (h2 : zC scr 69 [.ref a0, .int (nI 7)] w = some (some (.int f1), w1)) : zd scr 90 130 [some (.ref a0), some (.int x1), some (.int x2), some (.int x3), some (.int x4), some (.int x5), some (.int x6), some (.int x7), some (.int x8), some (.int x9), some (.int x10), some (.int x11), some (.int x12), none, none, none, none, none] [] w = if f1 = x11 then zd scr 90 141 [some (.ref a0), some (.int x1), some (.int x2), some (.int x3), some (.int x4), some (.int x5), some (.int x6), some (.int x7), some (.int x8), some (.int x9), some (.int x10), some (.int x11), some (.int x12), none, none, none, none, none] [] w1 else zd scr 90 145 [some (.ref a0), some (.int x1), some (.int x2), some (.int x3), some (.int x4), some (.int x5), some (.int x6), some (.int x7), some (.int x8), some (.int x9), some (.int x10), some (.int x11), some (.int x12), none, none, none, none, none] [] w1 := by
  refine Eq.trans (zd_aload_n zh90 rfl rfl) ?_
  refine Eq.trans (zd_bipush zh90 (v := (nI 7)) rfl rfl) ?_
  refine Eq.trans (zd_invVi zh90 zh69 rfl rfl ⟨Nat.le_of_ble_eq_true rfl, Nat.le_of_ble_eq_true rfl, Nat.le_of_ble_eq_true rfl, Nat.le_of_ble_eq_true rfl⟩ rfl h1 h2 rfl) ?_
  refine Eq.trans (zd_iload zh90 rfl rfl) ?_
  exact zd_icmpne zh90 (t := 145) (by decide) rfl
set_option maxRecDepth 20000 in
theorem b90_190 {scr : List Int32} {w : zAW} {a0 : Nat} {x1 : Int32} {x2 : Int32} {x3 : Int32} {x4 : Int32} {x5 : Int32} {x6 : Int32} {x7 : Int32} {x8 : Int32} {x9 : Int32} {x10 : Int32} {x11 : Int32} {x12 : Int32} {x13 : Int32} {x14 : Int32}  : zd scr 90 190 [some (.ref a0), some (.int x1), some (.int x2), some (.int x3), some (.int x4), some (.int x5), some (.int x6), some (.int x7), some (.int x8), some (.int x9), some (.int x10), some (.int x11), some (.int x12), some (.int x13), some (.int x14), none, none, none] [] w = if x13 = (-6) then zd scr 90 232 [some (.ref a0), some (.int x1), some (.int x2), some (.int x3), some (.int x4), some (.int x5), some (.int x6), some (.int x7), some (.int x8), some (.int x9), some (.int x10), some (.int x11), some (.int x12), some (.int x13), some (.int x14), some (.int x13), none, none] [] w else zd scr 90 236 [some (.ref a0), some (.int x1), some (.int x2), some (.int x3), some (.int x4), some (.int x5), some (.int x6), some (.int x7), some (.int x8), some (.int x9), some (.int x10), some (.int x11), some (.int x12), some (.int x13), some (.int x14), some (.int x13), none, none] [] w := by
  refine Eq.trans (zd_iload zh90 rfl rfl) ?_
  refine Eq.trans (zd_goto zh90 (t := 223) (by decide) rfl) ?_
  refine Eq.trans (zd_istore zh90 (ls' := [some (.ref a0), some (.int x1), some (.int x2), some (.int x3), some (.int x4), some (.int x5), some (.int x6), some (.int x7), some (.int x8), some (.int x9), some (.int x10), some (.int x11), some (.int x12), some (.int x13), some (.int x14), some (.int x13), none, none]) (Nat.le_of_ble_eq_true rfl) rfl rfl) ?_
  refine Eq.trans (zd_iload zh90 rfl rfl) ?_
  refine Eq.trans (zd_bipush zh90 (v := (-6)) rfl rfl) ?_
  exact zd_icmpne zh90 (t := 236) (by decide) rfl
set_option maxRecDepth 20000 in
theorem b90_207 {scr : List Int32} {w : zAW} {a0 : Nat} {x1 : Int32} {x2 : Int32} {x3 : Int32} {x4 : Int32} {x5 : Int32} {x6 : Int32} {x7 : Int32} {x8 : Int32} {x9 : Int32} {x10 : Int32} {x11 : Int32} {x12 : Int32} {x13 : Int32} {x14 : Int32} (h1 : zob w a0 5 = true) {f1 : Int32} {w1 : zAW} (h2 : zC scr 67 [.ref a0, .int x14] w = some (some (.int f1), w1)) : zd scr 90 207 [some (.ref a0), some (.int x1), some (.int x2), some (.int x3), some (.int x4), some (.int x5), some (.int x6), some (.int x7), some (.int x8), some (.int x9), some (.int x10), some (.int x11), some (.int x12), some (.int x13), some (.int x14), none, none, none] [] w = if 0 < f1 then zd scr 90 216 [some (.ref a0), some (.int x1), some (.int x2), some (.int x3), some (.int x4), some (.int x5), some (.int x6), some (.int x7), some (.int x8), some (.int x9), some (.int x10), some (.int x11), some (.int x12), some (.int x13), some (.int x14), none, none, none] [] w1 else zd scr 90 221 [some (.ref a0), some (.int x1), some (.int x2), some (.int x3), some (.int x4), some (.int x5), some (.int x6), some (.int x7), some (.int x8), some (.int x9), some (.int x10), some (.int x11), some (.int x12), some (.int x13), some (.int x14), none, none, none] [] w1 := by
  refine Eq.trans (zd_aload_n zh90 rfl rfl) ?_
  refine Eq.trans (zd_iload zh90 rfl rfl) ?_
  refine Eq.trans (zd_invVi zh90 zh67 rfl rfl ⟨Nat.le_of_ble_eq_true rfl, Nat.le_of_ble_eq_true rfl, Nat.le_of_ble_eq_true rfl, Nat.le_of_ble_eq_true rfl⟩ rfl h1 h2 rfl) ?_
  exact zd_ifle zh90 (t := 221) (by decide) rfl
set_option maxRecDepth 20000 in
theorem b90_221 {scr : List Int32} {w : zAW} {a0 : Nat} {x1 : Int32} {x2 : Int32} {x3 : Int32} {x4 : Int32} {x5 : Int32} {x6 : Int32} {x7 : Int32} {x8 : Int32} {x9 : Int32} {x10 : Int32} {x11 : Int32} {x12 : Int32} {x13 : Int32} {x14 : Int32}  : zd scr 90 221 [some (.ref a0), some (.int x1), some (.int x2), some (.int x3), some (.int x4), some (.int x5), some (.int x6), some (.int x7), some (.int x8), some (.int x9), some (.int x10), some (.int x11), some (.int x12), some (.int x13), some (.int x14), none, none, none] [] w = if (-6) = (-6) then zd scr 90 232 [some (.ref a0), some (.int x1), some (.int x2), some (.int x3), some (.int x4), some (.int x5), some (.int x6), some (.int x7), some (.int x8), some (.int x9), some (.int x10), some (.int x11), some (.int x12), some (.int x13), some (.int x14), some (.int (-6)), none, none] [] w else zd scr 90 236 [some (.ref a0), some (.int x1), some (.int x2), some (.int x3), some (.int x4), some (.int x5), some (.int x6), some (.int x7), some (.int x8), some (.int x9), some (.int x10), some (.int x11), some (.int x12), some (.int x13), some (.int x14), some (.int (-6)), none, none] [] w := by
  refine Eq.trans (zd_bipush zh90 (v := (-6)) rfl rfl) ?_
  refine Eq.trans (zd_istore zh90 (ls' := [some (.ref a0), some (.int x1), some (.int x2), some (.int x3), some (.int x4), some (.int x5), some (.int x6), some (.int x7), some (.int x8), some (.int x9), some (.int x10), some (.int x11), some (.int x12), some (.int x13), some (.int x14), some (.int (-6)), none, none]) (Nat.le_of_ble_eq_true rfl) rfl rfl) ?_
  refine Eq.trans (zd_iload zh90 rfl rfl) ?_
  refine Eq.trans (zd_bipush zh90 (v := (-6)) rfl rfl) ?_
  exact zd_icmpne zh90 (t := 236) (by decide) rfl
set_option maxRecDepth 20000 in
theorem b90_141 {scr : List Int32} {w : zAW} {a0 : Nat} {x1 : Int32} {x2 : Int32} {x3 : Int32} {x4 : Int32} {x5 : Int32} {x6 : Int32} {x7 : Int32} {x8 : Int32} {x9 : Int32} {x10 : Int32} {x11 : Int32} {x12 : Int32}  : zd scr 90 141 [some (.ref a0), some (.int x1), some (.int x2), some (.int x3), some (.int x4), some (.int x5), some (.int x6), some (.int x7), some (.int x8), some (.int x9), some (.int x10), some (.int x11), some (.int x12), none, none, none, none, none] [] w = some (some (.int (nI 1)), w) := by
  refine Eq.trans (zd_iconst zh90 (v := (nI 1)) rfl rfl) ?_
  refine Eq.trans (zd_goto zh90 (t := 146) (by decide) rfl) ?_
  exact zd_iret zh90 rfl rfl
set_option maxRecDepth 20000 in
theorem b90_232 {scr : List Int32} {w : zAW} {a0 : Nat} {x1 : Int32} {x2 : Int32} {x3 : Int32} {x4 : Int32} {x5 : Int32} {x6 : Int32} {x7 : Int32} {x8 : Int32} {x9 : Int32} {x10 : Int32} {x11 : Int32} {x12 : Int32} {x13 : Int32} {x14 : Int32} {x15 : Int32}  : zd scr 90 232 [some (.ref a0), some (.int x1), some (.int x2), some (.int x3), some (.int x4), some (.int x5), some (.int x6), some (.int x7), some (.int x8), some (.int x9), some (.int x10), some (.int x11), some (.int x12), some (.int x13), some (.int x14), some (.int x15), none, none] [] w = if x5 = x15 then zd scr 90 251 [some (.ref a0), some (.int x1), some (.int x2), some (.int x3), some (.int x4), some (.int x5), some (.int x6), some (.int x7), some (.int x8), some (.int x9), some (.int x10), some (.int x11), some (.int x12), some (.int x13), some (.int x14), some (.int x15), some (.int (nI 0)), none] [] w else zd scr 90 317 [some (.ref a0), some (.int x1), some (.int x2), some (.int x3), some (.int x4), some (.int x5), some (.int x6), some (.int x7), some (.int x8), some (.int x9), some (.int x10), some (.int x11), some (.int x12), some (.int x13), some (.int x14), some (.int x15), some (.int (nI 0)), none] [] w := by
  refine Eq.trans (zd_iconst zh90 (v := (nI 0)) rfl rfl) ?_
  refine Eq.trans (zd_goto zh90 (t := 242) (by decide) rfl) ?_
  refine Eq.trans (zd_istore zh90 (ls' := [some (.ref a0), some (.int x1), some (.int x2), some (.int x3), some (.int x4), some (.int x5), some (.int x6), some (.int x7), some (.int x8), some (.int x9), some (.int x10), some (.int x11), some (.int x12), some (.int x13), some (.int x14), some (.int x15), some (.int (nI 0)), none]) (Nat.le_of_ble_eq_true rfl) rfl rfl) ?_
  refine Eq.trans (zd_iload zh90 rfl rfl) ?_
  refine Eq.trans (zd_iload zh90 rfl rfl) ?_
  exact zd_icmpne zh90 (t := 317) (by decide) rfl
set_option maxRecDepth 20000 in
theorem b90_236 {scr : List Int32} {w : zAW} {a0 : Nat} {x1 : Int32} {x2 : Int32} {x3 : Int32} {x4 : Int32} {x5 : Int32} {x6 : Int32} {x7 : Int32} {x8 : Int32} {x9 : Int32} {x10 : Int32} {x11 : Int32} {x12 : Int32} {x13 : Int32} {x14 : Int32} {x15 : Int32} (h1 : zob w a0 5 = true) {f1 : Int32} {w1 : zAW} (h2 : zC scr 67 [.ref a0, .int x15] w = some (some (.int f1), w1)) : zd scr 90 236 [some (.ref a0), some (.int x1), some (.int x2), some (.int x3), some (.int x4), some (.int x5), some (.int x6), some (.int x7), some (.int x8), some (.int x9), some (.int x10), some (.int x11), some (.int x12), some (.int x13), some (.int x14), some (.int x15), none, none] [] w = if x5 = x15 then zd scr 90 251 [some (.ref a0), some (.int x1), some (.int x2), some (.int x3), some (.int x4), some (.int x5), some (.int x6), some (.int x7), some (.int x8), some (.int x9), some (.int x10), some (.int x11), some (.int x12), some (.int x13), some (.int x14), some (.int x15), some (.int f1), none] [] w1 else zd scr 90 317 [some (.ref a0), some (.int x1), some (.int x2), some (.int x3), some (.int x4), some (.int x5), some (.int x6), some (.int x7), some (.int x8), some (.int x9), some (.int x10), some (.int x11), some (.int x12), some (.int x13), some (.int x14), some (.int x15), some (.int f1), none] [] w1 := by
  refine Eq.trans (zd_aload_n zh90 rfl rfl) ?_
  refine Eq.trans (zd_iload zh90 rfl rfl) ?_
  refine Eq.trans (zd_invVi zh90 zh67 rfl rfl ⟨Nat.le_of_ble_eq_true rfl, Nat.le_of_ble_eq_true rfl, Nat.le_of_ble_eq_true rfl, Nat.le_of_ble_eq_true rfl⟩ rfl h1 h2 rfl) ?_
  refine Eq.trans (zd_istore zh90 (ls' := [some (.ref a0), some (.int x1), some (.int x2), some (.int x3), some (.int x4), some (.int x5), some (.int x6), some (.int x7), some (.int x8), some (.int x9), some (.int x10), some (.int x11), some (.int x12), some (.int x13), some (.int x14), some (.int x15), some (.int f1), none]) (Nat.le_of_ble_eq_true rfl) rfl rfl) ?_
  refine Eq.trans (zd_iload zh90 rfl rfl) ?_
  refine Eq.trans (zd_iload zh90 rfl rfl) ?_
  exact zd_icmpne zh90 (t := 317) (by decide) rfl
set_option maxRecDepth 20000 in
theorem b90_216 {scr : List Int32} {w : zAW} {a0 : Nat} {x1 : Int32} {x2 : Int32} {x3 : Int32} {x4 : Int32} {x5 : Int32} {x6 : Int32} {x7 : Int32} {x8 : Int32} {x9 : Int32} {x10 : Int32} {x11 : Int32} {x12 : Int32} {x13 : Int32} {x14 : Int32}  : zd scr 90 216 [some (.ref a0), some (.int x1), some (.int x2), some (.int x3), some (.int x4), some (.int x5), some (.int x6), some (.int x7), some (.int x8), some (.int x9), some (.int x10), some (.int x11), some (.int x12), some (.int x13), some (.int x14), none, none, none] [] w = if x14 = (-6) then zd scr 90 232 [some (.ref a0), some (.int x1), some (.int x2), some (.int x3), some (.int x4), some (.int x5), some (.int x6), some (.int x7), some (.int x8), some (.int x9), some (.int x10), some (.int x11), some (.int x12), some (.int x13), some (.int x14), some (.int x14), none, none] [] w else zd scr 90 236 [some (.ref a0), some (.int x1), some (.int x2), some (.int x3), some (.int x4), some (.int x5), some (.int x6), some (.int x7), some (.int x8), some (.int x9), some (.int x10), some (.int x11), some (.int x12), some (.int x13), some (.int x14), some (.int x14), none, none] [] w := by
  refine Eq.trans (zd_iload zh90 rfl rfl) ?_
  refine Eq.trans (zd_goto zh90 (t := 223) (by decide) rfl) ?_
  refine Eq.trans (zd_istore zh90 (ls' := [some (.ref a0), some (.int x1), some (.int x2), some (.int x3), some (.int x4), some (.int x5), some (.int x6), some (.int x7), some (.int x8), some (.int x9), some (.int x10), some (.int x11), some (.int x12), some (.int x13), some (.int x14), some (.int x14), none, none]) (Nat.le_of_ble_eq_true rfl) rfl rfl) ?_
  refine Eq.trans (zd_iload zh90 rfl rfl) ?_
  refine Eq.trans (zd_bipush zh90 (v := (-6)) rfl rfl) ?_
  exact zd_icmpne zh90 (t := 236) (by decide) rfl
set_option maxRecDepth 20000 in
theorem b90_251 {scr : List Int32} {w : zAW} {a0 : Nat} {x1 : Int32} {x2 : Int32} {x3 : Int32} {x4 : Int32} {x5 : Int32} {x6 : Int32} {x7 : Int32} {x8 : Int32} {x9 : Int32} {x10 : Int32} {x11 : Int32} {x12 : Int32} {x13 : Int32} {x14 : Int32} {x15 : Int32} {x16 : Int32} (h1 : zob w a0 5 = true) {f1 : Int32} {w1 : zAW} (h2 : zC scr 62 [.ref a0, .int x1, .int x2, .int x3, .int x4] w = some (some (.int f1), w1)) : zd scr 90 251 [some (.ref a0), some (.int x1), some (.int x2), some (.int x3), some (.int x4), some (.int x5), some (.int x6), some (.int x7), some (.int x8), some (.int x9), some (.int x10), some (.int x11), some (.int x12), some (.int x13), some (.int x14), some (.int x15), some (.int x16), none] [] w = if f1 = x15 then zd scr 90 265 [some (.ref a0), some (.int x1), some (.int x2), some (.int x3), some (.int x4), some (.int x5), some (.int x6), some (.int x7), some (.int x8), some (.int x9), some (.int x10), some (.int x11), some (.int x12), some (.int x13), some (.int x14), some (.int x15), some (.int x16), none] [] w1 else zd scr 90 317 [some (.ref a0), some (.int x1), some (.int x2), some (.int x3), some (.int x4), some (.int x5), some (.int x6), some (.int x7), some (.int x8), some (.int x9), some (.int x10), some (.int x11), some (.int x12), some (.int x13), some (.int x14), some (.int x15), some (.int x16), none] [] w1 := by
  refine Eq.trans (zd_aload_n zh90 rfl rfl) ?_
  refine Eq.trans (zd_iload_n zh90 rfl rfl) ?_
  refine Eq.trans (zd_iload_n zh90 rfl rfl) ?_
  refine Eq.trans (zd_iload_n zh90 rfl rfl) ?_
  refine Eq.trans (zd_iload zh90 rfl rfl) ?_
  refine Eq.trans (zd_invVi zh90 zh62 rfl rfl ⟨Nat.le_of_ble_eq_true rfl, Nat.le_of_ble_eq_true rfl, Nat.le_of_ble_eq_true rfl, Nat.le_of_ble_eq_true rfl⟩ rfl h1 h2 rfl) ?_
  refine Eq.trans (zd_iload zh90 rfl rfl) ?_
  exact zd_icmpne zh90 (t := 317) (by decide) rfl
set_option maxRecDepth 20000 in
theorem b90_317 {scr : List Int32} {w : zAW} {a0 : Nat} {x1 : Int32} {x2 : Int32} {x3 : Int32} {x4 : Int32} {x5 : Int32} {x6 : Int32} {x7 : Int32} {x8 : Int32} {x9 : Int32} {x10 : Int32} {x11 : Int32} {x12 : Int32} {x13 : Int32} {x14 : Int32} {x15 : Int32} {x16 : Int32}  : zd scr 90 317 [some (.ref a0), some (.int x1), some (.int x2), some (.int x3), some (.int x4), some (.int x5), some (.int x6), some (.int x7), some (.int x8), some (.int x9), some (.int x10), some (.int x11), some (.int x12), some (.int x13), some (.int x14), some (.int x15), some (.int x16), none] [] w = if x15 = (-6) then zd scr 90 375 [some (.ref a0), some (.int x1), some (.int x2), some (.int x3), some (.int x4), some (.int x5), some (.int x6), some (.int x7), some (.int x8), some (.int x9), some (.int x10), some (.int x11), some (.int x12), some (.int x13), some (.int x14), some (.int x15), some (.int x16), some (.int (nI 0))] [] w else zd scr 90 327 [some (.ref a0), some (.int x1), some (.int x2), some (.int x3), some (.int x4), some (.int x5), some (.int x6), some (.int x7), some (.int x8), some (.int x9), some (.int x10), some (.int x11), some (.int x12), some (.int x13), some (.int x14), some (.int x15), some (.int x16), some (.int (nI 0))] [] w := by
  refine Eq.trans (zd_iconst zh90 (v := (nI 0)) rfl rfl) ?_
  refine Eq.trans (zd_istore zh90 (ls' := [some (.ref a0), some (.int x1), some (.int x2), some (.int x3), some (.int x4), some (.int x5), some (.int x6), some (.int x7), some (.int x8), some (.int x9), some (.int x10), some (.int x11), some (.int x12), some (.int x13), some (.int x14), some (.int x15), some (.int x16), some (.int (nI 0))]) (Nat.le_of_ble_eq_true rfl) rfl rfl) ?_
  refine Eq.trans (zd_iload zh90 rfl rfl) ?_
  refine Eq.trans (zd_bipush zh90 (v := (-6)) rfl rfl) ?_
  exact zd_icmpeq zh90 (t := 375) (by decide) rfl
set_option maxRecDepth 20000 in
theorem b90_265 {scr : List Int32} {w : zAW} {a0 : Nat} {x1 : Int32} {x2 : Int32} {x3 : Int32} {x4 : Int32} {x5 : Int32} {x6 : Int32} {x7 : Int32} {x8 : Int32} {x9 : Int32} {x10 : Int32} {x11 : Int32} {x12 : Int32} {x13 : Int32} {x14 : Int32} {x15 : Int32} {x16 : Int32} (h1 : zob w a0 5 = true) {f1 : Int32} {w1 : zAW} (h2 : zC scr 69 [.ref a0, .int (nI 6)] w = some (some (.int f1), w1)) : zd scr 90 265 [some (.ref a0), some (.int x1), some (.int x2), some (.int x3), some (.int x4), some (.int x5), some (.int x6), some (.int x7), some (.int x8), some (.int x9), some (.int x10), some (.int x11), some (.int x12), some (.int x13), some (.int x14), some (.int x15), some (.int x16), none] [] w = if x15 = (-6) then zd scr 90 280 [some (.ref a0), some (.int x1), some (.int x2), some (.int x3), some (.int x4), some (.int x5), some (.int x6), some (.int x7), some (.int x8), some (.int x9), some (.int x10), some (.int x11), some (.int x12), some (.int x13), some (.int x14), some (.int x15), some (.int x16), none] [.int x10, .int f1] w1 else zd scr 90 284 [some (.ref a0), some (.int x1), some (.int x2), some (.int x3), some (.int x4), some (.int x5), some (.int x6), some (.int x7), some (.int x8), some (.int x9), some (.int x10), some (.int x11), some (.int x12), some (.int x13), some (.int x14), some (.int x15), some (.int x16), none] [.int x10, .int f1] w1 := by
  refine Eq.trans (zd_aload_n zh90 rfl rfl) ?_
  refine Eq.trans (zd_bipush zh90 (v := (nI 6)) rfl rfl) ?_
  refine Eq.trans (zd_invVi zh90 zh69 rfl rfl ⟨Nat.le_of_ble_eq_true rfl, Nat.le_of_ble_eq_true rfl, Nat.le_of_ble_eq_true rfl, Nat.le_of_ble_eq_true rfl⟩ rfl h1 h2 rfl) ?_
  refine Eq.trans (zd_iload zh90 rfl rfl) ?_
  refine Eq.trans (zd_iload zh90 rfl rfl) ?_
  refine Eq.trans (zd_bipush zh90 (v := (-6)) rfl rfl) ?_
  exact zd_icmpne zh90 (t := 284) (by decide) rfl
set_option maxRecDepth 20000 in
theorem b90_375 {scr : List Int32} {w : zAW} {a0 : Nat} {x1 : Int32} {x2 : Int32} {x3 : Int32} {x4 : Int32} {x5 : Int32} {x6 : Int32} {x7 : Int32} {x8 : Int32} {x9 : Int32} {x10 : Int32} {x11 : Int32} {x12 : Int32} {x13 : Int32} {x14 : Int32} {x15 : Int32} {x16 : Int32} {x17 : Int32}  : zd scr 90 375 [some (.ref a0), some (.int x1), some (.int x2), some (.int x3), some (.int x4), some (.int x5), some (.int x6), some (.int x7), some (.int x8), some (.int x9), some (.int x10), some (.int x11), some (.int x12), some (.int x13), some (.int x14), some (.int x15), some (.int x16), some (.int x17)] [] w = if x17 = 0 then zd scr 90 434 [some (.ref a0), some (.int x1), some (.int x2), some (.int x3), some (.int x4), some (.int x5), some (.int x6), some (.int x7), some (.int x8), some (.int x9), some (.int x10), some (.int x11), some (.int x12), some (.int x13), some (.int x14), some (.int x15), some (.int x16), some (.int x17)] [] w else zd scr 90 380 [some (.ref a0), some (.int x1), some (.int x2), some (.int x3), some (.int x4), some (.int x5), some (.int x6), some (.int x7), some (.int x8), some (.int x9), some (.int x10), some (.int x11), some (.int x12), some (.int x13), some (.int x14), some (.int x15), some (.int x16), some (.int x17)] [] w := by
  refine Eq.trans (zd_iload zh90 rfl rfl) ?_
  exact zd_ifeq zh90 (t := 434) (by decide) rfl
set_option maxRecDepth 20000 in
theorem b90_327 {scr : List Int32} {w : zAW} {a0 : Nat} {x1 : Int32} {x2 : Int32} {x3 : Int32} {x4 : Int32} {x5 : Int32} {x6 : Int32} {x7 : Int32} {x8 : Int32} {x9 : Int32} {x10 : Int32} {x11 : Int32} {x12 : Int32} {x13 : Int32} {x14 : Int32} {x15 : Int32} {x16 : Int32} {x17 : Int32}  : zd scr 90 327 [some (.ref a0), some (.int x1), some (.int x2), some (.int x3), some (.int x4), some (.int x5), some (.int x6), some (.int x7), some (.int x8), some (.int x9), some (.int x10), some (.int x11), some (.int x12), some (.int x13), some (.int x14), some (.int x15), some (.int x16), some (.int x17)] [] w = if x17 = 0 then zd scr 90 373 [some (.ref a0), some (.int x1), some (.int x2), some (.int x3), some (.int x4), some (.int x5), some (.int x6), some (.int x7), some (.int x8), some (.int x9), some (.int x10), some (.int x11), some (.int x12), some (.int x13), some (.int x14), some (.int x15), some (.int x16), some (.int x17)] [] w else zd scr 90 332 [some (.ref a0), some (.int x1), some (.int x2), some (.int x3), some (.int x4), some (.int x5), some (.int x6), some (.int x7), some (.int x8), some (.int x9), some (.int x10), some (.int x11), some (.int x12), some (.int x13), some (.int x14), some (.int x15), some (.int x16), some (.int x17)] [] w := by
  refine Eq.trans (zd_iload zh90 rfl rfl) ?_
  exact zd_ifeq zh90 (t := 373) (by decide) rfl
set_option maxRecDepth 20000 in
theorem b90_280 {scr : List Int32} {w : zAW} {a0 : Nat} {x1 : Int32} {x2 : Int32} {x3 : Int32} {x4 : Int32} {x5 : Int32} {x6 : Int32} {x7 : Int32} {x8 : Int32} {x9 : Int32} {x10 : Int32} {x11 : Int32} {x12 : Int32} {x13 : Int32} {x14 : Int32} {x15 : Int32} {x16 : Int32} {y0 : Int32} {y1 : Int32}  : zd scr 90 280 [some (.ref a0), some (.int x1), some (.int x2), some (.int x3), some (.int x4), some (.int x5), some (.int x6), some (.int x7), some (.int x8), some (.int x9), some (.int x10), some (.int x11), some (.int x12), some (.int x13), some (.int x14), some (.int x15), some (.int x16), none] [.int y1, .int y0] w = if y0 = (y1 + (nI 1)) then zd scr 90 289 [some (.ref a0), some (.int x1), some (.int x2), some (.int x3), some (.int x4), some (.int x5), some (.int x6), some (.int x7), some (.int x8), some (.int x9), some (.int x10), some (.int x11), some (.int x12), some (.int x13), some (.int x14), some (.int x15), some (.int x16), none] [] w else zd scr 90 317 [some (.ref a0), some (.int x1), some (.int x2), some (.int x3), some (.int x4), some (.int x5), some (.int x6), some (.int x7), some (.int x8), some (.int x9), some (.int x10), some (.int x11), some (.int x12), some (.int x13), some (.int x14), some (.int x15), some (.int x16), none] [] w := by
  refine Eq.trans (zd_iconst zh90 (v := (nI 1)) rfl rfl) ?_
  refine Eq.trans (zd_goto zh90 (t := 285) (by decide) rfl) ?_
  refine Eq.trans (zd_iadd zh90 rfl) ?_
  exact zd_icmpne zh90 (t := 317) (by decide) rfl
set_option maxRecDepth 20000 in
theorem b90_284 {scr : List Int32} {w : zAW} {a0 : Nat} {x1 : Int32} {x2 : Int32} {x3 : Int32} {x4 : Int32} {x5 : Int32} {x6 : Int32} {x7 : Int32} {x8 : Int32} {x9 : Int32} {x10 : Int32} {x11 : Int32} {x12 : Int32} {x13 : Int32} {x14 : Int32} {x15 : Int32} {x16 : Int32} {y0 : Int32} {y1 : Int32}  : zd scr 90 284 [some (.ref a0), some (.int x1), some (.int x2), some (.int x3), some (.int x4), some (.int x5), some (.int x6), some (.int x7), some (.int x8), some (.int x9), some (.int x10), some (.int x11), some (.int x12), some (.int x13), some (.int x14), some (.int x15), some (.int x16), none] [.int y1, .int y0] w = if y0 = (y1 + (nI 0)) then zd scr 90 289 [some (.ref a0), some (.int x1), some (.int x2), some (.int x3), some (.int x4), some (.int x5), some (.int x6), some (.int x7), some (.int x8), some (.int x9), some (.int x10), some (.int x11), some (.int x12), some (.int x13), some (.int x14), some (.int x15), some (.int x16), none] [] w else zd scr 90 317 [some (.ref a0), some (.int x1), some (.int x2), some (.int x3), some (.int x4), some (.int x5), some (.int x6), some (.int x7), some (.int x8), some (.int x9), some (.int x10), some (.int x11), some (.int x12), some (.int x13), some (.int x14), some (.int x15), some (.int x16), none] [] w := by
  refine Eq.trans (zd_iconst zh90 (v := (nI 0)) rfl rfl) ?_
  refine Eq.trans (zd_iadd zh90 rfl) ?_
  exact zd_icmpne zh90 (t := 317) (by decide) rfl
set_option maxRecDepth 20000 in
theorem b90_434 {scr : List Int32} {w : zAW} {a0 : Nat} {x1 : Int32} {x2 : Int32} {x3 : Int32} {x4 : Int32} {x5 : Int32} {x6 : Int32} {x7 : Int32} {x8 : Int32} {x9 : Int32} {x10 : Int32} {x11 : Int32} {x12 : Int32} {x13 : Int32} {x14 : Int32} {x15 : Int32} {x16 : Int32} {x17 : Int32}  : zd scr 90 434 [some (.ref a0), some (.int x1), some (.int x2), some (.int x3), some (.int x4), some (.int x5), some (.int x6), some (.int x7), some (.int x8), some (.int x9), some (.int x10), some (.int x11), some (.int x12), some (.int x13), some (.int x14), some (.int x15), some (.int x16), some (.int x17)] [] w = some (some (.int (nI 0)), w) := by
  refine Eq.trans (zd_iconst zh90 (v := (nI 0)) rfl rfl) ?_
  exact zd_iret zh90 rfl rfl
set_option maxRecDepth 20000 in
theorem b90_380 {scr : List Int32} {w : zAW} {a0 : Nat} {x1 : Int32} {x2 : Int32} {x3 : Int32} {x4 : Int32} {x5 : Int32} {x6 : Int32} {x7 : Int32} {x8 : Int32} {x9 : Int32} {x10 : Int32} {x11 : Int32} {x12 : Int32} {x13 : Int32} {x14 : Int32} {x15 : Int32} {x16 : Int32} {x17 : Int32} (h1 : zob w a0 5 = true) {f1 : Int32} {w1 : zAW} (h2 : zC scr 65 [.ref a0, .int x1, .int x2, .int (nI 0)] w = some (some (.int f1), w1)) : zd scr 90 380 [some (.ref a0), some (.int x1), some (.int x2), some (.int x3), some (.int x4), some (.int x5), some (.int x6), some (.int x7), some (.int x8), some (.int x9), some (.int x10), some (.int x11), some (.int x12), some (.int x13), some (.int x14), some (.int x15), some (.int x16), some (.int x17)] [] w = if f1 = x8 then zd scr 90 392 [some (.ref a0), some (.int x1), some (.int x2), some (.int x3), some (.int x4), some (.int x5), some (.int x6), some (.int x7), some (.int x8), some (.int x9), some (.int x10), some (.int x11), some (.int x12), some (.int x13), some (.int x14), some (.int x15), some (.int x16), some (.int x17)] [] w1 else zd scr 90 434 [some (.ref a0), some (.int x1), some (.int x2), some (.int x3), some (.int x4), some (.int x5), some (.int x6), some (.int x7), some (.int x8), some (.int x9), some (.int x10), some (.int x11), some (.int x12), some (.int x13), some (.int x14), some (.int x15), some (.int x16), some (.int x17)] [] w1 := by
  refine Eq.trans (zd_aload_n zh90 rfl rfl) ?_
  refine Eq.trans (zd_iload_n zh90 rfl rfl) ?_
  refine Eq.trans (zd_iload_n zh90 rfl rfl) ?_
  refine Eq.trans (zd_iconst zh90 (v := (nI 0)) rfl rfl) ?_
  refine Eq.trans (zd_invVi zh90 zh65 rfl rfl ⟨Nat.le_of_ble_eq_true rfl, Nat.le_of_ble_eq_true rfl, Nat.le_of_ble_eq_true rfl, Nat.le_of_ble_eq_true rfl⟩ rfl h1 h2 rfl) ?_
  refine Eq.trans (zd_iload zh90 rfl rfl) ?_
  exact zd_icmpne zh90 (t := 434) (by decide) rfl
set_option maxRecDepth 20000 in
theorem b90_373 {scr : List Int32} {w : zAW} {a0 : Nat} {x1 : Int32} {x2 : Int32} {x3 : Int32} {x4 : Int32} {x5 : Int32} {x6 : Int32} {x7 : Int32} {x8 : Int32} {x9 : Int32} {x10 : Int32} {x11 : Int32} {x12 : Int32} {x13 : Int32} {x14 : Int32} {x15 : Int32} {x16 : Int32} {x17 : Int32}  : zd scr 90 373 [some (.ref a0), some (.int x1), some (.int x2), some (.int x3), some (.int x4), some (.int x5), some (.int x6), some (.int x7), some (.int x8), some (.int x9), some (.int x10), some (.int x11), some (.int x12), some (.int x13), some (.int x14), some (.int x15), some (.int x16), some (.int x17)] [] w = some (some (.int (nI 0)), w) := by
  refine Eq.trans (zd_iconst zh90 (v := (nI 0)) rfl rfl) ?_
  exact zd_iret zh90 rfl rfl
set_option maxRecDepth 20000 in
theorem b90_332 {scr : List Int32} {w : zAW} {a0 : Nat} {x1 : Int32} {x2 : Int32} {x3 : Int32} {x4 : Int32} {x5 : Int32} {x6 : Int32} {x7 : Int32} {x8 : Int32} {x9 : Int32} {x10 : Int32} {x11 : Int32} {x12 : Int32} {x13 : Int32} {x14 : Int32} {x15 : Int32} {x16 : Int32} {x17 : Int32} (h1 : zob w a0 5 = true) {f1 : Int32} {w1 : zAW} (h2 : zC scr 67 [.ref a0, .int x15] w = some (some (.int f1), w1)) : zd scr 90 332 [some (.ref a0), some (.int x1), some (.int x2), some (.int x3), some (.int x4), some (.int x5), some (.int x6), some (.int x7), some (.int x8), some (.int x9), some (.int x10), some (.int x11), some (.int x12), some (.int x13), some (.int x14), some (.int x15), some (.int x16), some (.int x17)] [] w = if f1 = (x16 - (nI 1)) then zd scr 90 345 [some (.ref a0), some (.int x1), some (.int x2), some (.int x3), some (.int x4), some (.int x5), some (.int x6), some (.int x7), some (.int x8), some (.int x9), some (.int x10), some (.int x11), some (.int x12), some (.int x13), some (.int x14), some (.int x15), some (.int x16), some (.int x17)] [] w1 else zd scr 90 373 [some (.ref a0), some (.int x1), some (.int x2), some (.int x3), some (.int x4), some (.int x5), some (.int x6), some (.int x7), some (.int x8), some (.int x9), some (.int x10), some (.int x11), some (.int x12), some (.int x13), some (.int x14), some (.int x15), some (.int x16), some (.int x17)] [] w1 := by
  refine Eq.trans (zd_aload_n zh90 rfl rfl) ?_
  refine Eq.trans (zd_iload zh90 rfl rfl) ?_
  refine Eq.trans (zd_invVi zh90 zh67 rfl rfl ⟨Nat.le_of_ble_eq_true rfl, Nat.le_of_ble_eq_true rfl, Nat.le_of_ble_eq_true rfl, Nat.le_of_ble_eq_true rfl⟩ rfl h1 h2 rfl) ?_
  refine Eq.trans (zd_iload zh90 rfl rfl) ?_
  refine Eq.trans (zd_iconst zh90 (v := (nI 1)) rfl rfl) ?_
  refine Eq.trans (zd_isub zh90 rfl) ?_
  exact zd_icmpne zh90 (t := 373) (by decide) rfl
set_option maxRecDepth 20000 in
theorem b90_289 {scr : List Int32} {w : zAW} {a0 : Nat} {x1 : Int32} {x2 : Int32} {x3 : Int32} {x4 : Int32} {x5 : Int32} {x6 : Int32} {x7 : Int32} {x8 : Int32} {x9 : Int32} {x10 : Int32} {x11 : Int32} {x12 : Int32} {x13 : Int32} {x14 : Int32} {x15 : Int32} {x16 : Int32} (h1 : zob w a0 5 = true) {f1 : Int32} {w1 : zAW} (h2 : zC scr 69 [.ref a0, .int (nI 7)] w = some (some (.int f1), w1)) : zd scr 90 289 [some (.ref a0), some (.int x1), some (.int x2), some (.int x3), some (.int x4), some (.int x5), some (.int x6), some (.int x7), some (.int x8), some (.int x9), some (.int x10), some (.int x11), some (.int x12), some (.int x13), some (.int x14), some (.int x15), some (.int x16), none] [] w = if x15 = (-6) then zd scr 90 304 [some (.ref a0), some (.int x1), some (.int x2), some (.int x3), some (.int x4), some (.int x5), some (.int x6), some (.int x7), some (.int x8), some (.int x9), some (.int x10), some (.int x11), some (.int x12), some (.int x13), some (.int x14), some (.int x15), some (.int x16), none] [.int x11, .int f1] w1 else zd scr 90 308 [some (.ref a0), some (.int x1), some (.int x2), some (.int x3), some (.int x4), some (.int x5), some (.int x6), some (.int x7), some (.int x8), some (.int x9), some (.int x10), some (.int x11), some (.int x12), some (.int x13), some (.int x14), some (.int x15), some (.int x16), none] [.int x11, .int f1] w1 := by
  refine Eq.trans (zd_aload_n zh90 rfl rfl) ?_
  refine Eq.trans (zd_bipush zh90 (v := (nI 7)) rfl rfl) ?_
  refine Eq.trans (zd_invVi zh90 zh69 rfl rfl ⟨Nat.le_of_ble_eq_true rfl, Nat.le_of_ble_eq_true rfl, Nat.le_of_ble_eq_true rfl, Nat.le_of_ble_eq_true rfl⟩ rfl h1 h2 rfl) ?_
  refine Eq.trans (zd_iload zh90 rfl rfl) ?_
  refine Eq.trans (zd_iload zh90 rfl rfl) ?_
  refine Eq.trans (zd_bipush zh90 (v := (-6)) rfl rfl) ?_
  exact zd_icmpne zh90 (t := 308) (by decide) rfl
set_option maxRecDepth 20000 in
theorem b90_392 {scr : List Int32} {w : zAW} {a0 : Nat} {x1 : Int32} {x2 : Int32} {x3 : Int32} {x4 : Int32} {x5 : Int32} {x6 : Int32} {x7 : Int32} {x8 : Int32} {x9 : Int32} {x10 : Int32} {x11 : Int32} {x12 : Int32} {x13 : Int32} {x14 : Int32} {x15 : Int32} {x16 : Int32} {x17 : Int32} (h1 : zob w a0 5 = true) {f1 : Int32} {w1 : zAW} (h2 : zC scr 65 [.ref a0, .int x1, .int x2, .int (nI 1)] w = some (some (.int f1), w1)) : zd scr 90 392 [some (.ref a0), some (.int x1), some (.int x2), some (.int x3), some (.int x4), some (.int x5), some (.int x6), some (.int x7), some (.int x8), some (.int x9), some (.int x10), some (.int x11), some (.int x12), some (.int x13), some (.int x14), some (.int x15), some (.int x16), some (.int x17)] [] w = if f1 = x9 then zd scr 90 404 [some (.ref a0), some (.int x1), some (.int x2), some (.int x3), some (.int x4), some (.int x5), some (.int x6), some (.int x7), some (.int x8), some (.int x9), some (.int x10), some (.int x11), some (.int x12), some (.int x13), some (.int x14), some (.int x15), some (.int x16), some (.int x17)] [] w1 else zd scr 90 434 [some (.ref a0), some (.int x1), some (.int x2), some (.int x3), some (.int x4), some (.int x5), some (.int x6), some (.int x7), some (.int x8), some (.int x9), some (.int x10), some (.int x11), some (.int x12), some (.int x13), some (.int x14), some (.int x15), some (.int x16), some (.int x17)] [] w1 := by
  refine Eq.trans (zd_aload_n zh90 rfl rfl) ?_
  refine Eq.trans (zd_iload_n zh90 rfl rfl) ?_
  refine Eq.trans (zd_iload_n zh90 rfl rfl) ?_
  refine Eq.trans (zd_iconst zh90 (v := (nI 1)) rfl rfl) ?_
  refine Eq.trans (zd_invVi zh90 zh65 rfl rfl ⟨Nat.le_of_ble_eq_true rfl, Nat.le_of_ble_eq_true rfl, Nat.le_of_ble_eq_true rfl, Nat.le_of_ble_eq_true rfl⟩ rfl h1 h2 rfl) ?_
  refine Eq.trans (zd_iload zh90 rfl rfl) ?_
  exact zd_icmpne zh90 (t := 434) (by decide) rfl
set_option maxRecDepth 20000 in
theorem b90_345 {scr : List Int32} {w : zAW} {a0 : Nat} {x1 : Int32} {x2 : Int32} {x3 : Int32} {x4 : Int32} {x5 : Int32} {x6 : Int32} {x7 : Int32} {x8 : Int32} {x9 : Int32} {x10 : Int32} {x11 : Int32} {x12 : Int32} {x13 : Int32} {x14 : Int32} {x15 : Int32} {x16 : Int32} {x17 : Int32} (h1 : zob w a0 5 = true) {f1 : Int32} {w1 : zAW} (h2 : zC scr 65 [.ref a0, .int x1, .int x2, .int (nI 0)] w = some (some (.int f1), w1)) : zd scr 90 345 [some (.ref a0), some (.int x1), some (.int x2), some (.int x3), some (.int x4), some (.int x5), some (.int x6), some (.int x7), some (.int x8), some (.int x9), some (.int x10), some (.int x11), some (.int x12), some (.int x13), some (.int x14), some (.int x15), some (.int x16), some (.int x17)] [] w = if f1 = x6 then zd scr 90 357 [some (.ref a0), some (.int x1), some (.int x2), some (.int x3), some (.int x4), some (.int x5), some (.int x6), some (.int x7), some (.int x8), some (.int x9), some (.int x10), some (.int x11), some (.int x12), some (.int x13), some (.int x14), some (.int x15), some (.int x16), some (.int x17)] [] w1 else zd scr 90 373 [some (.ref a0), some (.int x1), some (.int x2), some (.int x3), some (.int x4), some (.int x5), some (.int x6), some (.int x7), some (.int x8), some (.int x9), some (.int x10), some (.int x11), some (.int x12), some (.int x13), some (.int x14), some (.int x15), some (.int x16), some (.int x17)] [] w1 := by
  refine Eq.trans (zd_aload_n zh90 rfl rfl) ?_
  refine Eq.trans (zd_iload_n zh90 rfl rfl) ?_
  refine Eq.trans (zd_iload_n zh90 rfl rfl) ?_
  refine Eq.trans (zd_iconst zh90 (v := (nI 0)) rfl rfl) ?_
  refine Eq.trans (zd_invVi zh90 zh65 rfl rfl ⟨Nat.le_of_ble_eq_true rfl, Nat.le_of_ble_eq_true rfl, Nat.le_of_ble_eq_true rfl, Nat.le_of_ble_eq_true rfl⟩ rfl h1 h2 rfl) ?_
  refine Eq.trans (zd_iload zh90 rfl rfl) ?_
  exact zd_icmpne zh90 (t := 373) (by decide) rfl
set_option maxRecDepth 20000 in
theorem b90_304 {scr : List Int32} {w : zAW} {a0 : Nat} {x1 : Int32} {x2 : Int32} {x3 : Int32} {x4 : Int32} {x5 : Int32} {x6 : Int32} {x7 : Int32} {x8 : Int32} {x9 : Int32} {x10 : Int32} {x11 : Int32} {x12 : Int32} {x13 : Int32} {x14 : Int32} {x15 : Int32} {x16 : Int32} {y0 : Int32} {y1 : Int32}  : zd scr 90 304 [some (.ref a0), some (.int x1), some (.int x2), some (.int x3), some (.int x4), some (.int x5), some (.int x6), some (.int x7), some (.int x8), some (.int x9), some (.int x10), some (.int x11), some (.int x12), some (.int x13), some (.int x14), some (.int x15), some (.int x16), none] [.int y1, .int y0] w = if y0 = (y1 + (nI 0)) then zd scr 90 313 [some (.ref a0), some (.int x1), some (.int x2), some (.int x3), some (.int x4), some (.int x5), some (.int x6), some (.int x7), some (.int x8), some (.int x9), some (.int x10), some (.int x11), some (.int x12), some (.int x13), some (.int x14), some (.int x15), some (.int x16), none] [] w else zd scr 90 317 [some (.ref a0), some (.int x1), some (.int x2), some (.int x3), some (.int x4), some (.int x5), some (.int x6), some (.int x7), some (.int x8), some (.int x9), some (.int x10), some (.int x11), some (.int x12), some (.int x13), some (.int x14), some (.int x15), some (.int x16), none] [] w := by
  refine Eq.trans (zd_iconst zh90 (v := (nI 0)) rfl rfl) ?_
  refine Eq.trans (zd_goto zh90 (t := 309) (by decide) rfl) ?_
  refine Eq.trans (zd_iadd zh90 rfl) ?_
  exact zd_icmpne zh90 (t := 317) (by decide) rfl
set_option maxRecDepth 20000 in
theorem b90_308 {scr : List Int32} {w : zAW} {a0 : Nat} {x1 : Int32} {x2 : Int32} {x3 : Int32} {x4 : Int32} {x5 : Int32} {x6 : Int32} {x7 : Int32} {x8 : Int32} {x9 : Int32} {x10 : Int32} {x11 : Int32} {x12 : Int32} {x13 : Int32} {x14 : Int32} {x15 : Int32} {x16 : Int32} {y0 : Int32} {y1 : Int32}  : zd scr 90 308 [some (.ref a0), some (.int x1), some (.int x2), some (.int x3), some (.int x4), some (.int x5), some (.int x6), some (.int x7), some (.int x8), some (.int x9), some (.int x10), some (.int x11), some (.int x12), some (.int x13), some (.int x14), some (.int x15), some (.int x16), none] [.int y1, .int y0] w = if y0 = (y1 + (nI 1)) then zd scr 90 313 [some (.ref a0), some (.int x1), some (.int x2), some (.int x3), some (.int x4), some (.int x5), some (.int x6), some (.int x7), some (.int x8), some (.int x9), some (.int x10), some (.int x11), some (.int x12), some (.int x13), some (.int x14), some (.int x15), some (.int x16), none] [] w else zd scr 90 317 [some (.ref a0), some (.int x1), some (.int x2), some (.int x3), some (.int x4), some (.int x5), some (.int x6), some (.int x7), some (.int x8), some (.int x9), some (.int x10), some (.int x11), some (.int x12), some (.int x13), some (.int x14), some (.int x15), some (.int x16), none] [] w := by
  refine Eq.trans (zd_iconst zh90 (v := (nI 1)) rfl rfl) ?_
  refine Eq.trans (zd_iadd zh90 rfl) ?_
  exact zd_icmpne zh90 (t := 317) (by decide) rfl
set_option maxRecDepth 20000 in
theorem b90_404 {scr : List Int32} {w : zAW} {a0 : Nat} {x1 : Int32} {x2 : Int32} {x3 : Int32} {x4 : Int32} {x5 : Int32} {x6 : Int32} {x7 : Int32} {x8 : Int32} {x9 : Int32} {x10 : Int32} {x11 : Int32} {x12 : Int32} {x13 : Int32} {x14 : Int32} {x15 : Int32} {x16 : Int32} {x17 : Int32} (h1 : zob w a0 5 = true) {f1 : Int32} {w1 : zAW} (h2 : zC scr 65 [.ref a0, .int x3, .int x4, .int (nI 0)] w = some (some (.int f1), w1)) : zd scr 90 404 [some (.ref a0), some (.int x1), some (.int x2), some (.int x3), some (.int x4), some (.int x5), some (.int x6), some (.int x7), some (.int x8), some (.int x9), some (.int x10), some (.int x11), some (.int x12), some (.int x13), some (.int x14), some (.int x15), some (.int x16), some (.int x17)] [] w = if f1 = x6 then zd scr 90 417 [some (.ref a0), some (.int x1), some (.int x2), some (.int x3), some (.int x4), some (.int x5), some (.int x6), some (.int x7), some (.int x8), some (.int x9), some (.int x10), some (.int x11), some (.int x12), some (.int x13), some (.int x14), some (.int x15), some (.int x16), some (.int x17)] [] w1 else zd scr 90 434 [some (.ref a0), some (.int x1), some (.int x2), some (.int x3), some (.int x4), some (.int x5), some (.int x6), some (.int x7), some (.int x8), some (.int x9), some (.int x10), some (.int x11), some (.int x12), some (.int x13), some (.int x14), some (.int x15), some (.int x16), some (.int x17)] [] w1 := by
  refine Eq.trans (zd_aload_n zh90 rfl rfl) ?_
  refine Eq.trans (zd_iload_n zh90 rfl rfl) ?_
  refine Eq.trans (zd_iload zh90 rfl rfl) ?_
  refine Eq.trans (zd_iconst zh90 (v := (nI 0)) rfl rfl) ?_
  refine Eq.trans (zd_invVi zh90 zh65 rfl rfl ⟨Nat.le_of_ble_eq_true rfl, Nat.le_of_ble_eq_true rfl, Nat.le_of_ble_eq_true rfl, Nat.le_of_ble_eq_true rfl⟩ rfl h1 h2 rfl) ?_
  refine Eq.trans (zd_iload zh90 rfl rfl) ?_
  exact zd_icmpne zh90 (t := 434) (by decide) rfl
set_option maxRecDepth 20000 in
theorem b90_357 {scr : List Int32} {w : zAW} {a0 : Nat} {x1 : Int32} {x2 : Int32} {x3 : Int32} {x4 : Int32} {x5 : Int32} {x6 : Int32} {x7 : Int32} {x8 : Int32} {x9 : Int32} {x10 : Int32} {x11 : Int32} {x12 : Int32} {x13 : Int32} {x14 : Int32} {x15 : Int32} {x16 : Int32} {x17 : Int32} (h1 : zob w a0 5 = true) {f1 : Int32} {w1 : zAW} (h2 : zC scr 65 [.ref a0, .int x1, .int x2, .int (nI 1)] w = some (some (.int f1), w1)) : zd scr 90 357 [some (.ref a0), some (.int x1), some (.int x2), some (.int x3), some (.int x4), some (.int x5), some (.int x6), some (.int x7), some (.int x8), some (.int x9), some (.int x10), some (.int x11), some (.int x12), some (.int x13), some (.int x14), some (.int x15), some (.int x16), some (.int x17)] [] w = if f1 = x7 then zd scr 90 369 [some (.ref a0), some (.int x1), some (.int x2), some (.int x3), some (.int x4), some (.int x5), some (.int x6), some (.int x7), some (.int x8), some (.int x9), some (.int x10), some (.int x11), some (.int x12), some (.int x13), some (.int x14), some (.int x15), some (.int x16), some (.int x17)] [] w1 else zd scr 90 373 [some (.ref a0), some (.int x1), some (.int x2), some (.int x3), some (.int x4), some (.int x5), some (.int x6), some (.int x7), some (.int x8), some (.int x9), some (.int x10), some (.int x11), some (.int x12), some (.int x13), some (.int x14), some (.int x15), some (.int x16), some (.int x17)] [] w1 := by
  refine Eq.trans (zd_aload_n zh90 rfl rfl) ?_
  refine Eq.trans (zd_iload_n zh90 rfl rfl) ?_
  refine Eq.trans (zd_iload_n zh90 rfl rfl) ?_
  refine Eq.trans (zd_iconst zh90 (v := (nI 1)) rfl rfl) ?_
  refine Eq.trans (zd_invVi zh90 zh65 rfl rfl ⟨Nat.le_of_ble_eq_true rfl, Nat.le_of_ble_eq_true rfl, Nat.le_of_ble_eq_true rfl, Nat.le_of_ble_eq_true rfl⟩ rfl h1 h2 rfl) ?_
  refine Eq.trans (zd_iload zh90 rfl rfl) ?_
  exact zd_icmpne zh90 (t := 373) (by decide) rfl
set_option maxRecDepth 20000 in
theorem b90_313 {scr : List Int32} {w : zAW} {a0 : Nat} {x1 : Int32} {x2 : Int32} {x3 : Int32} {x4 : Int32} {x5 : Int32} {x6 : Int32} {x7 : Int32} {x8 : Int32} {x9 : Int32} {x10 : Int32} {x11 : Int32} {x12 : Int32} {x13 : Int32} {x14 : Int32} {x15 : Int32} {x16 : Int32}  : zd scr 90 313 [some (.ref a0), some (.int x1), some (.int x2), some (.int x3), some (.int x4), some (.int x5), some (.int x6), some (.int x7), some (.int x8), some (.int x9), some (.int x10), some (.int x11), some (.int x12), some (.int x13), some (.int x14), some (.int x15), some (.int x16), none] [] w = if x15 = (-6) then zd scr 90 375 [some (.ref a0), some (.int x1), some (.int x2), some (.int x3), some (.int x4), some (.int x5), some (.int x6), some (.int x7), some (.int x8), some (.int x9), some (.int x10), some (.int x11), some (.int x12), some (.int x13), some (.int x14), some (.int x15), some (.int x16), some (.int (nI 1))] [] w else zd scr 90 327 [some (.ref a0), some (.int x1), some (.int x2), some (.int x3), some (.int x4), some (.int x5), some (.int x6), some (.int x7), some (.int x8), some (.int x9), some (.int x10), some (.int x11), some (.int x12), some (.int x13), some (.int x14), some (.int x15), some (.int x16), some (.int (nI 1))] [] w := by
  refine Eq.trans (zd_iconst zh90 (v := (nI 1)) rfl rfl) ?_
  refine Eq.trans (zd_goto zh90 (t := 318) (by decide) rfl) ?_
  refine Eq.trans (zd_istore zh90 (ls' := [some (.ref a0), some (.int x1), some (.int x2), some (.int x3), some (.int x4), some (.int x5), some (.int x6), some (.int x7), some (.int x8), some (.int x9), some (.int x10), some (.int x11), some (.int x12), some (.int x13), some (.int x14), some (.int x15), some (.int x16), some (.int (nI 1))]) (Nat.le_of_ble_eq_true rfl) rfl rfl) ?_
  refine Eq.trans (zd_iload zh90 rfl rfl) ?_
  refine Eq.trans (zd_bipush zh90 (v := (-6)) rfl rfl) ?_
  exact zd_icmpeq zh90 (t := 375) (by decide) rfl
set_option maxRecDepth 20000 in
theorem b90_417 {scr : List Int32} {w : zAW} {a0 : Nat} {x1 : Int32} {x2 : Int32} {x3 : Int32} {x4 : Int32} {x5 : Int32} {x6 : Int32} {x7 : Int32} {x8 : Int32} {x9 : Int32} {x10 : Int32} {x11 : Int32} {x12 : Int32} {x13 : Int32} {x14 : Int32} {x15 : Int32} {x16 : Int32} {x17 : Int32} (h1 : zob w a0 5 = true) {f1 : Int32} {w1 : zAW} (h2 : zC scr 65 [.ref a0, .int x3, .int x4, .int (nI 1)] w = some (some (.int f1), w1)) : zd scr 90 417 [some (.ref a0), some (.int x1), some (.int x2), some (.int x3), some (.int x4), some (.int x5), some (.int x6), some (.int x7), some (.int x8), some (.int x9), some (.int x10), some (.int x11), some (.int x12), some (.int x13), some (.int x14), some (.int x15), some (.int x16), some (.int x17)] [] w = if f1 = x7 then zd scr 90 430 [some (.ref a0), some (.int x1), some (.int x2), some (.int x3), some (.int x4), some (.int x5), some (.int x6), some (.int x7), some (.int x8), some (.int x9), some (.int x10), some (.int x11), some (.int x12), some (.int x13), some (.int x14), some (.int x15), some (.int x16), some (.int x17)] [] w1 else zd scr 90 434 [some (.ref a0), some (.int x1), some (.int x2), some (.int x3), some (.int x4), some (.int x5), some (.int x6), some (.int x7), some (.int x8), some (.int x9), some (.int x10), some (.int x11), some (.int x12), some (.int x13), some (.int x14), some (.int x15), some (.int x16), some (.int x17)] [] w1 := by
  refine Eq.trans (zd_aload_n zh90 rfl rfl) ?_
  refine Eq.trans (zd_iload_n zh90 rfl rfl) ?_
  refine Eq.trans (zd_iload zh90 rfl rfl) ?_
  refine Eq.trans (zd_iconst zh90 (v := (nI 1)) rfl rfl) ?_
  refine Eq.trans (zd_invVi zh90 zh65 rfl rfl ⟨Nat.le_of_ble_eq_true rfl, Nat.le_of_ble_eq_true rfl, Nat.le_of_ble_eq_true rfl, Nat.le_of_ble_eq_true rfl⟩ rfl h1 h2 rfl) ?_
  refine Eq.trans (zd_iload zh90 rfl rfl) ?_
  exact zd_icmpne zh90 (t := 434) (by decide) rfl
set_option maxRecDepth 20000 in
theorem b90_369 {scr : List Int32} {w : zAW} {a0 : Nat} {x1 : Int32} {x2 : Int32} {x3 : Int32} {x4 : Int32} {x5 : Int32} {x6 : Int32} {x7 : Int32} {x8 : Int32} {x9 : Int32} {x10 : Int32} {x11 : Int32} {x12 : Int32} {x13 : Int32} {x14 : Int32} {x15 : Int32} {x16 : Int32} {x17 : Int32}  : zd scr 90 369 [some (.ref a0), some (.int x1), some (.int x2), some (.int x3), some (.int x4), some (.int x5), some (.int x6), some (.int x7), some (.int x8), some (.int x9), some (.int x10), some (.int x11), some (.int x12), some (.int x13), some (.int x14), some (.int x15), some (.int x16), some (.int x17)] [] w = some (some (.int (nI 1)), w) := by
  refine Eq.trans (zd_iconst zh90 (v := (nI 1)) rfl rfl) ?_
  refine Eq.trans (zd_goto zh90 (t := 374) (by decide) rfl) ?_
  exact zd_iret zh90 rfl rfl
set_option maxRecDepth 20000 in
theorem b90_430 {scr : List Int32} {w : zAW} {a0 : Nat} {x1 : Int32} {x2 : Int32} {x3 : Int32} {x4 : Int32} {x5 : Int32} {x6 : Int32} {x7 : Int32} {x8 : Int32} {x9 : Int32} {x10 : Int32} {x11 : Int32} {x12 : Int32} {x13 : Int32} {x14 : Int32} {x15 : Int32} {x16 : Int32} {x17 : Int32}  : zd scr 90 430 [some (.ref a0), some (.int x1), some (.int x2), some (.int x3), some (.int x4), some (.int x5), some (.int x6), some (.int x7), some (.int x8), some (.int x9), some (.int x10), some (.int x11), some (.int x12), some (.int x13), some (.int x14), some (.int x15), some (.int x16), some (.int x17)] [] w = some (some (.int (nI 1)), w) := by
  refine Eq.trans (zd_iconst zh90 (v := (nI 1)) rfl rfl) ?_
  refine Eq.trans (zd_goto zh90 (t := 435) (by decide) rfl) ?_
  exact zd_iret zh90 rfl rfl
/-! yL_isBest: 91, MarbleHeirsLaw.isBest(LMarbleHeirs;)Z -/
set_option maxRecDepth 20000 in
theorem b91_0 {scr : List Int32} {w : zAW} {a0 : Nat} (h1 : zob w a0 5 = true) {f1 : Int32} {w1 : zAW} (h2 : zC scr 69 [.ref a0, .int (nI 0)] w = some (some (.int f1), w1)) (h3 : zob w1 a0 5 = true) {f2 : Int32} {w2 : zAW} (h4 : zC scr 73 [.ref a0, .int (nI 4)] w1 = some (some (.int f2), w2)) : zd scr 91 0 [some (.ref a0), none, none, none, none, none, none, none, none, none, none, none, none, none, none] [] w = zd scr 91 24 [some (.ref a0), some (.int f1), some (.int f2), some (.int (-6)), some (.int (nI 0)), some (.int (nI 0)), some (.int (nI 0)), none, none, none, none, none, none, none, none] [] w2 := by
  refine Eq.trans (zd_aload_n zh91 rfl rfl) ?_
  refine Eq.trans (zd_iconst zh91 (v := (nI 0)) rfl rfl) ?_
  refine Eq.trans (zd_invVi zh91 zh69 rfl rfl ⟨Nat.le_of_ble_eq_true rfl, Nat.le_of_ble_eq_true rfl, Nat.le_of_ble_eq_true rfl, Nat.le_of_ble_eq_true rfl⟩ rfl h1 h2 rfl) ?_
  refine Eq.trans (zd_istore_n zh91 (ls' := [some (.ref a0), some (.int f1), none, none, none, none, none, none, none, none, none, none, none, none, none]) (Nat.le_of_ble_eq_true rfl) rfl rfl) ?_
  refine Eq.trans (zd_aload_n zh91 rfl rfl) ?_
  refine Eq.trans (zd_iconst zh91 (v := (nI 4)) rfl rfl) ?_
  refine Eq.trans (zd_invVi zh91 zh73 rfl rfl ⟨Nat.le_of_ble_eq_true rfl, Nat.le_of_ble_eq_true rfl, Nat.le_of_ble_eq_true rfl, Nat.le_of_ble_eq_true rfl⟩ rfl h3 h4 rfl) ?_
  refine Eq.trans (zd_istore_n zh91 (ls' := [some (.ref a0), some (.int f1), some (.int f2), none, none, none, none, none, none, none, none, none, none, none, none]) (Nat.le_of_ble_eq_true rfl) rfl rfl) ?_
  refine Eq.trans (zd_bipush zh91 (v := (-6)) rfl rfl) ?_
  refine Eq.trans (zd_istore_n zh91 (ls' := [some (.ref a0), some (.int f1), some (.int f2), some (.int (-6)), none, none, none, none, none, none, none, none, none, none, none]) (Nat.le_of_ble_eq_true rfl) rfl rfl) ?_
  refine Eq.trans (zd_iconst zh91 (v := (nI 0)) rfl rfl) ?_
  refine Eq.trans (zd_istore zh91 (ls' := [some (.ref a0), some (.int f1), some (.int f2), some (.int (-6)), some (.int (nI 0)), none, none, none, none, none, none, none, none, none, none]) (Nat.le_of_ble_eq_true rfl) rfl rfl) ?_
  refine Eq.trans (zd_iconst zh91 (v := (nI 0)) rfl rfl) ?_
  refine Eq.trans (zd_istore zh91 (ls' := [some (.ref a0), some (.int f1), some (.int f2), some (.int (-6)), some (.int (nI 0)), some (.int (nI 0)), none, none, none, none, none, none, none, none, none]) (Nat.le_of_ble_eq_true rfl) rfl rfl) ?_
  refine Eq.trans (zd_iconst zh91 (v := (nI 0)) rfl rfl) ?_
  refine Eq.trans (zd_istore zh91 (ls' := [some (.ref a0), some (.int f1), some (.int f2), some (.int (-6)), some (.int (nI 0)), some (.int (nI 0)), some (.int (nI 0)), none, none, none, none, none, none, none, none]) (Nat.le_of_ble_eq_true rfl) rfl rfl) ?_
  exact rfl
set_option maxRecDepth 20000 in
theorem b91_24 {scr : List Int32} {w : zAW} {a0 : Nat} {x1 : Int32} {x2 : Int32} {x3 : Int32} {x4 : Int32} {x5 : Int32} {x6 : Int32} {v7 : Option Value} {v8 : Option Value} {v9 : Option Value} {v10 : Option Value} {v11 : Option Value} {v12 : Option Value} {v13 : Option Value} {v14 : Option Value}  : zd scr 91 24 [some (.ref a0), some (.int x1), some (.int x2), some (.int x3), some (.int x4), some (.int x5), some (.int x6), v7, v8, v9, v10, v11, v12, v13, v14] [] w = if x6 < x1 then zd scr 91 30 [some (.ref a0), some (.int x1), some (.int x2), some (.int x3), some (.int x4), some (.int x5), some (.int x6), v7, v8, v9, v10, v11, v12, v13, v14] [] w else zd scr 91 350 [some (.ref a0), some (.int x1), some (.int x2), some (.int x3), some (.int x4), some (.int x5), some (.int x6), v7, v8, v9, v10, v11, v12, v13, v14] [] w := by
  refine Eq.trans (zd_iload zh91 rfl rfl) ?_
  refine Eq.trans (zd_iload_n zh91 rfl rfl) ?_
  exact zd_icmpge zh91 (t := 350) (by decide) rfl
set_option maxRecDepth 20000 in
theorem b91_33 {scr : List Int32} {w : zAW} {a0 : Nat} {x1 : Int32} {x2 : Int32} {x3 : Int32} {x4 : Int32} {x5 : Int32} {x6 : Int32} {x7 : Int32} {v8 : Option Value} {v9 : Option Value} {v10 : Option Value} {v11 : Option Value} {v12 : Option Value} {v13 : Option Value} {v14 : Option Value} (h1 : zob w a0 5 = true) {f1 : Int32} {w1 : zAW} (h2 : zC scr 64 [.ref a0, .int x6, .int (nI 2)] w = some (some (.int f1), w1)) : zd scr 91 33 [some (.ref a0), some (.int x1), some (.int x2), some (.int x3), some (.int x4), some (.int x5), some (.int x6), some (.int x7), v8, v9, v10, v11, v12, v13, v14] [] w = if x7 < f1 then zd scr 91 45 [some (.ref a0), some (.int x1), some (.int x2), some (.int x3), some (.int x4), some (.int x5), some (.int x6), some (.int x7), v8, v9, v10, v11, v12, v13, v14] [] w1 else zd scr 91 344 [some (.ref a0), some (.int x1), some (.int x2), some (.int x3), some (.int x4), some (.int x5), some (.int x6), some (.int x7), v8, v9, v10, v11, v12, v13, v14] [] w1 := by
  refine Eq.trans (zd_iload zh91 rfl rfl) ?_
  refine Eq.trans (zd_aload_n zh91 rfl rfl) ?_
  refine Eq.trans (zd_iload zh91 rfl rfl) ?_
  refine Eq.trans (zd_iconst zh91 (v := (nI 2)) rfl rfl) ?_
  refine Eq.trans (zd_invVi zh91 zh64 rfl rfl ⟨Nat.le_of_ble_eq_true rfl, Nat.le_of_ble_eq_true rfl, Nat.le_of_ble_eq_true rfl, Nat.le_of_ble_eq_true rfl⟩ rfl h1 h2 rfl) ?_
  exact zd_icmpge zh91 (t := 344) (by decide) rfl
set_option maxRecDepth 20000 in
theorem b91_58 {scr : List Int32} {w : zAW} {a0 : Nat} {x1 : Int32} {x2 : Int32} {x3 : Int32} {x4 : Int32} {x5 : Int32} {x6 : Int32} {x7 : Int32} {x8 : Int32} {v9 : Option Value} {v10 : Option Value} {v11 : Option Value} {v12 : Option Value} {v13 : Option Value} {v14 : Option Value}  : zd scr 91 58 [some (.ref a0), some (.int x1), some (.int x2), some (.int x3), some (.int x4), some (.int x5), some (.int x6), some (.int x7), some (.int x8), v9, v10, v11, v12, v13, v14] [] w = if x8 < x1 then zd scr 91 64 [some (.ref a0), some (.int x1), some (.int x2), some (.int x3), some (.int x4), some (.int x5), some (.int x6), some (.int x7), some (.int x8), v9, v10, v11, v12, v13, v14] [] w else zd scr 91 338 [some (.ref a0), some (.int x1), some (.int x2), some (.int x3), some (.int x4), some (.int x5), some (.int x6), some (.int x7), some (.int x8), v9, v10, v11, v12, v13, v14] [] w := by
  refine Eq.trans (zd_iload zh91 rfl rfl) ?_
  refine Eq.trans (zd_iload_n zh91 rfl rfl) ?_
  exact zd_icmpge zh91 (t := 338) (by decide) rfl
set_option maxRecDepth 20000 in
theorem b91_67 {scr : List Int32} {w : zAW} {a0 : Nat} {x1 : Int32} {x2 : Int32} {x3 : Int32} {x4 : Int32} {x5 : Int32} {x6 : Int32} {x7 : Int32} {x8 : Int32} {x9 : Int32} {v10 : Option Value} {v11 : Option Value} {v12 : Option Value} {v13 : Option Value} {v14 : Option Value} (h1 : zob w a0 5 = true) {f1 : Int32} {w1 : zAW} (h2 : zC scr 64 [.ref a0, .int x8, .int (nI 2)] w = some (some (.int f1), w1)) : zd scr 91 67 [some (.ref a0), some (.int x1), some (.int x2), some (.int x3), some (.int x4), some (.int x5), some (.int x6), some (.int x7), some (.int x8), some (.int x9), v10, v11, v12, v13, v14] [] w = if x9 < f1 then zd scr 91 79 [some (.ref a0), some (.int x1), some (.int x2), some (.int x3), some (.int x4), some (.int x5), some (.int x6), some (.int x7), some (.int x8), some (.int x9), v10, v11, v12, v13, v14] [] w1 else zd scr 91 332 [some (.ref a0), some (.int x1), some (.int x2), some (.int x3), some (.int x4), some (.int x5), some (.int x6), some (.int x7), some (.int x8), some (.int x9), v10, v11, v12, v13, v14] [] w1 := by
  refine Eq.trans (zd_iload zh91 rfl rfl) ?_
  refine Eq.trans (zd_aload_n zh91 rfl rfl) ?_
  refine Eq.trans (zd_iload zh91 rfl rfl) ?_
  refine Eq.trans (zd_iconst zh91 (v := (nI 2)) rfl rfl) ?_
  refine Eq.trans (zd_invVi zh91 zh64 rfl rfl ⟨Nat.le_of_ble_eq_true rfl, Nat.le_of_ble_eq_true rfl, Nat.le_of_ble_eq_true rfl, Nat.le_of_ble_eq_true rfl⟩ rfl h1 h2 rfl) ?_
  exact zd_icmpge zh91 (t := 332) (by decide) rfl
set_option maxRecDepth 20000 in
theorem b91_356 {scr : List Int32} {w : zAW} {a0 : Nat} {x1 : Int32} {x2 : Int32} {x3 : Int32} {x4 : Int32} {x5 : Int32} {x6 : Int32} {x7 : Int32} {v8 : Option Value} {v9 : Option Value} {v10 : Option Value} {v11 : Option Value} {v12 : Option Value} {v13 : Option Value} {v14 : Option Value}  : zd scr 91 356 [some (.ref a0), some (.int x1), some (.int x2), some (.int x3), some (.int x4), some (.int x5), some (.int x6), some (.int x7), v8, v9, v10, v11, v12, v13, v14] [] w = if x7 < x1 then zd scr 91 362 [some (.ref a0), some (.int x1), some (.int x2), some (.int x3), some (.int x4), some (.int x5), some (.int x6), some (.int x7), v8, v9, v10, v11, v12, v13, v14] [] w else zd scr 91 392 [some (.ref a0), some (.int x1), some (.int x2), some (.int x3), some (.int x4), some (.int x5), some (.int x6), some (.int x7), v8, v9, v10, v11, v12, v13, v14] [] w := by
  refine Eq.trans (zd_iload zh91 rfl rfl) ?_
  refine Eq.trans (zd_iload_n zh91 rfl rfl) ?_
  exact zd_icmpge zh91 (t := 392) (by decide) rfl
set_option maxRecDepth 20000 in
theorem b91_30 {scr : List Int32} {w : zAW} {a0 : Nat} {x1 : Int32} {x2 : Int32} {x3 : Int32} {x4 : Int32} {x5 : Int32} {x6 : Int32} {v7 : Option Value} {v8 : Option Value} {v9 : Option Value} {v10 : Option Value} {v11 : Option Value} {v12 : Option Value} {v13 : Option Value} {v14 : Option Value}  : zd scr 91 30 [some (.ref a0), some (.int x1), some (.int x2), some (.int x3), some (.int x4), some (.int x5), some (.int x6), v7, v8, v9, v10, v11, v12, v13, v14] [] w = zd scr 91 33 [some (.ref a0), some (.int x1), some (.int x2), some (.int x3), some (.int x4), some (.int x5), some (.int x6), some (.int (nI 0)), v8, v9, v10, v11, v12, v13, v14] [] w := by
  refine Eq.trans (zd_iconst zh91 (v := (nI 0)) rfl rfl) ?_
  refine Eq.trans (zd_istore zh91 (ls' := [some (.ref a0), some (.int x1), some (.int x2), some (.int x3), some (.int x4), some (.int x5), some (.int x6), some (.int (nI 0)), v8, v9, v10, v11, v12, v13, v14]) (Nat.le_of_ble_eq_true rfl) rfl rfl) ?_
  exact rfl
set_option maxRecDepth 20000 in
theorem b91_350 {scr : List Int32} {w : zAW} {a0 : Nat} {x1 : Int32} {x2 : Int32} {x3 : Int32} {x4 : Int32} {x5 : Int32} {x6 : Int32} {v7 : Option Value} {v8 : Option Value} {v9 : Option Value} {v10 : Option Value} {v11 : Option Value} {v12 : Option Value} {v13 : Option Value} {v14 : Option Value}  : zd scr 91 350 [some (.ref a0), some (.int x1), some (.int x2), some (.int x3), some (.int x4), some (.int x5), some (.int x6), v7, v8, v9, v10, v11, v12, v13, v14] [] w = zd scr 91 356 [some (.ref a0), some (.int x1), some (.int x2), some (.int x3), some (.int x4), some (.int x5), some (.int (nI 1)), some (.int (nI 0)), v8, v9, v10, v11, v12, v13, v14] [] w := by
  refine Eq.trans (zd_iconst zh91 (v := (nI 1)) rfl rfl) ?_
  refine Eq.trans (zd_istore zh91 (ls' := [some (.ref a0), some (.int x1), some (.int x2), some (.int x3), some (.int x4), some (.int x5), some (.int (nI 1)), v7, v8, v9, v10, v11, v12, v13, v14]) (Nat.le_of_ble_eq_true rfl) rfl rfl) ?_
  refine Eq.trans (zd_iconst zh91 (v := (nI 0)) rfl rfl) ?_
  refine Eq.trans (zd_istore zh91 (ls' := [some (.ref a0), some (.int x1), some (.int x2), some (.int x3), some (.int x4), some (.int x5), some (.int (nI 1)), some (.int (nI 0)), v8, v9, v10, v11, v12, v13, v14]) (Nat.le_of_ble_eq_true rfl) rfl rfl) ?_
  exact rfl
set_option maxRecDepth 20000 in
theorem b91_45 {scr : List Int32} {w : zAW} {a0 : Nat} {x1 : Int32} {x2 : Int32} {x3 : Int32} {x4 : Int32} {x5 : Int32} {x6 : Int32} {x7 : Int32} {v8 : Option Value} {v9 : Option Value} {v10 : Option Value} {v11 : Option Value} {v12 : Option Value} {v13 : Option Value} {v14 : Option Value}  : zd scr 91 45 [some (.ref a0), some (.int x1), some (.int x2), some (.int x3), some (.int x4), some (.int x5), some (.int x6), some (.int x7), v8, v9, v10, v11, v12, v13, v14] [] w = if x7 < (nI 9) then zd scr 91 52 [some (.ref a0), some (.int x1), some (.int x2), some (.int x3), some (.int x4), some (.int x5), some (.int x6), some (.int x7), v8, v9, v10, v11, v12, v13, v14] [] w else zd scr 91 344 [some (.ref a0), some (.int x1), some (.int x2), some (.int x3), some (.int x4), some (.int x5), some (.int x6), some (.int x7), v8, v9, v10, v11, v12, v13, v14] [] w := by
  refine Eq.trans (zd_iload zh91 rfl rfl) ?_
  refine Eq.trans (zd_bipush zh91 (v := (nI 9)) rfl rfl) ?_
  exact zd_icmpge zh91 (t := 344) (by decide) rfl
set_option maxRecDepth 20000 in
theorem b91_344 {scr : List Int32} {w : zAW} {a0 : Nat} {x1 : Int32} {x2 : Int32} {x3 : Int32} {x4 : Int32} {x5 : Int32} {x6 : Int32} {x7 : Int32} {v8 : Option Value} {v9 : Option Value} {v10 : Option Value} {v11 : Option Value} {v12 : Option Value} {v13 : Option Value} {v14 : Option Value}  : zd scr 91 344 [some (.ref a0), some (.int x1), some (.int x2), some (.int x3), some (.int x4), some (.int x5), some (.int x6), some (.int x7), v8, v9, v10, v11, v12, v13, v14] [] w = zd scr 91 24 [some (.ref a0), some (.int x1), some (.int x2), some (.int x3), some (.int x4), some (.int x5), some (.int (x6 + (nI 1))), some (.int x7), v8, v9, v10, v11, v12, v13, v14] [] w := by
  refine Eq.trans (zd_iinc zh91 (ls' := [some (.ref a0), some (.int x1), some (.int x2), some (.int x3), some (.int x4), some (.int x5), some (.int (x6 + (nI 1))), some (.int x7), v8, v9, v10, v11, v12, v13, v14]) (v := (x6 + (nI 1))) rfl rfl rfl rfl) ?_
  refine Eq.trans (zd_goto zh91 (t := 24) (by decide) rfl) ?_
  exact rfl
set_option maxRecDepth 20000 in
theorem b91_64 {scr : List Int32} {w : zAW} {a0 : Nat} {x1 : Int32} {x2 : Int32} {x3 : Int32} {x4 : Int32} {x5 : Int32} {x6 : Int32} {x7 : Int32} {x8 : Int32} {v9 : Option Value} {v10 : Option Value} {v11 : Option Value} {v12 : Option Value} {v13 : Option Value} {v14 : Option Value}  : zd scr 91 64 [some (.ref a0), some (.int x1), some (.int x2), some (.int x3), some (.int x4), some (.int x5), some (.int x6), some (.int x7), some (.int x8), v9, v10, v11, v12, v13, v14] [] w = zd scr 91 67 [some (.ref a0), some (.int x1), some (.int x2), some (.int x3), some (.int x4), some (.int x5), some (.int x6), some (.int x7), some (.int x8), some (.int (nI 0)), v10, v11, v12, v13, v14] [] w := by
  refine Eq.trans (zd_iconst zh91 (v := (nI 0)) rfl rfl) ?_
  refine Eq.trans (zd_istore zh91 (ls' := [some (.ref a0), some (.int x1), some (.int x2), some (.int x3), some (.int x4), some (.int x5), some (.int x6), some (.int x7), some (.int x8), some (.int (nI 0)), v10, v11, v12, v13, v14]) (Nat.le_of_ble_eq_true rfl) rfl rfl) ?_
  exact rfl
set_option maxRecDepth 20000 in
theorem b91_338 {scr : List Int32} {w : zAW} {a0 : Nat} {x1 : Int32} {x2 : Int32} {x3 : Int32} {x4 : Int32} {x5 : Int32} {x6 : Int32} {x7 : Int32} {x8 : Int32} {v9 : Option Value} {v10 : Option Value} {v11 : Option Value} {v12 : Option Value} {v13 : Option Value} {v14 : Option Value}  : zd scr 91 338 [some (.ref a0), some (.int x1), some (.int x2), some (.int x3), some (.int x4), some (.int x5), some (.int x6), some (.int x7), some (.int x8), v9, v10, v11, v12, v13, v14] [] w = zd scr 91 33 [some (.ref a0), some (.int x1), some (.int x2), some (.int x3), some (.int x4), some (.int x5), some (.int x6), some (.int (x7 + (nI 1))), some (.int x8), v9, v10, v11, v12, v13, v14] [] w := by
  refine Eq.trans (zd_iinc zh91 (ls' := [some (.ref a0), some (.int x1), some (.int x2), some (.int x3), some (.int x4), some (.int x5), some (.int x6), some (.int (x7 + (nI 1))), some (.int x8), v9, v10, v11, v12, v13, v14]) (v := (x7 + (nI 1))) rfl rfl rfl rfl) ?_
  refine Eq.trans (zd_goto zh91 (t := 33) (by decide) rfl) ?_
  exact rfl
set_option maxRecDepth 20000 in
theorem b91_79 {scr : List Int32} {w : zAW} {a0 : Nat} {x1 : Int32} {x2 : Int32} {x3 : Int32} {x4 : Int32} {x5 : Int32} {x6 : Int32} {x7 : Int32} {x8 : Int32} {x9 : Int32} {v10 : Option Value} {v11 : Option Value} {v12 : Option Value} {v13 : Option Value} {v14 : Option Value}  : zd scr 91 79 [some (.ref a0), some (.int x1), some (.int x2), some (.int x3), some (.int x4), some (.int x5), some (.int x6), some (.int x7), some (.int x8), some (.int x9), v10, v11, v12, v13, v14] [] w = if x9 < (nI 9) then zd scr 91 86 [some (.ref a0), some (.int x1), some (.int x2), some (.int x3), some (.int x4), some (.int x5), some (.int x6), some (.int x7), some (.int x8), some (.int x9), v10, v11, v12, v13, v14] [] w else zd scr 91 332 [some (.ref a0), some (.int x1), some (.int x2), some (.int x3), some (.int x4), some (.int x5), some (.int x6), some (.int x7), some (.int x8), some (.int x9), v10, v11, v12, v13, v14] [] w := by
  refine Eq.trans (zd_iload zh91 rfl rfl) ?_
  refine Eq.trans (zd_bipush zh91 (v := (nI 9)) rfl rfl) ?_
  exact zd_icmpge zh91 (t := 332) (by decide) rfl
set_option maxRecDepth 20000 in
theorem b91_332 {scr : List Int32} {w : zAW} {a0 : Nat} {x1 : Int32} {x2 : Int32} {x3 : Int32} {x4 : Int32} {x5 : Int32} {x6 : Int32} {x7 : Int32} {x8 : Int32} {x9 : Int32} {v10 : Option Value} {v11 : Option Value} {v12 : Option Value} {v13 : Option Value} {v14 : Option Value}  : zd scr 91 332 [some (.ref a0), some (.int x1), some (.int x2), some (.int x3), some (.int x4), some (.int x5), some (.int x6), some (.int x7), some (.int x8), some (.int x9), v10, v11, v12, v13, v14] [] w = zd scr 91 58 [some (.ref a0), some (.int x1), some (.int x2), some (.int x3), some (.int x4), some (.int x5), some (.int x6), some (.int x7), some (.int (x8 + (nI 1))), some (.int x9), v10, v11, v12, v13, v14] [] w := by
  refine Eq.trans (zd_iinc zh91 (ls' := [some (.ref a0), some (.int x1), some (.int x2), some (.int x3), some (.int x4), some (.int x5), some (.int x6), some (.int x7), some (.int (x8 + (nI 1))), some (.int x9), v10, v11, v12, v13, v14]) (v := (x8 + (nI 1))) rfl rfl rfl rfl) ?_
  refine Eq.trans (zd_goto zh91 (t := 58) (by decide) rfl) ?_
  exact rfl
set_option maxRecDepth 20000 in
theorem b91_362 {scr : List Int32} {w : zAW} {a0 : Nat} {x1 : Int32} {x2 : Int32} {x3 : Int32} {x4 : Int32} {x5 : Int32} {x6 : Int32} {x7 : Int32} {v8 : Option Value} {v9 : Option Value} {v10 : Option Value} {v11 : Option Value} {v12 : Option Value} {v13 : Option Value} {v14 : Option Value}  : zd scr 91 362 [some (.ref a0), some (.int x1), some (.int x2), some (.int x3), some (.int x4), some (.int x5), some (.int x6), some (.int x7), v8, v9, v10, v11, v12, v13, v14] [] w = if x6 = 0 then zd scr 91 383 [some (.ref a0), some (.int x1), some (.int x2), some (.int x3), some (.int x4), some (.int x5), some (.int x6), some (.int x7), v8, v9, v10, v11, v12, v13, v14] [] w else zd scr 91 367 [some (.ref a0), some (.int x1), some (.int x2), some (.int x3), some (.int x4), some (.int x5), some (.int x6), some (.int x7), v8, v9, v10, v11, v12, v13, v14] [] w := by
  refine Eq.trans (zd_iload zh91 rfl rfl) ?_
  exact zd_ifeq zh91 (t := 383) (by decide) rfl
set_option maxRecDepth 20000 in
theorem b91_392 {scr : List Int32} {w : zAW} {a0 : Nat} {x1 : Int32} {x2 : Int32} {x3 : Int32} {x4 : Int32} {x5 : Int32} {x6 : Int32} {x7 : Int32} {v8 : Option Value} {v9 : Option Value} {v10 : Option Value} {v11 : Option Value} {v12 : Option Value} {v13 : Option Value} {v14 : Option Value}  : zd scr 91 392 [some (.ref a0), some (.int x1), some (.int x2), some (.int x3), some (.int x4), some (.int x5), some (.int x6), some (.int x7), v8, v9, v10, v11, v12, v13, v14] [] w = if x6 = 0 then zd scr 91 397 [some (.ref a0), some (.int x1), some (.int x2), some (.int x3), some (.int x4), some (.int x5), some (.int x6), some (.int x7), v8, v9, v10, v11, v12, v13, v14] [] w else zd scr 91 414 [some (.ref a0), some (.int x1), some (.int x2), some (.int x3), some (.int x4), some (.int x5), some (.int x6), some (.int x7), v8, v9, v10, v11, v12, v13, v14] [] w := by
  refine Eq.trans (zd_iload zh91 rfl rfl) ?_
  exact zd_ifne zh91 (t := 414) (by decide) rfl
set_option maxRecDepth 20000 in
theorem b91_52 {scr : List Int32} {w : zAW} {a0 : Nat} {x1 : Int32} {x2 : Int32} {x3 : Int32} {x4 : Int32} {x5 : Int32} {x6 : Int32} {x7 : Int32} {v8 : Option Value} {v9 : Option Value} {v10 : Option Value} {v11 : Option Value} {v12 : Option Value} {v13 : Option Value} {v14 : Option Value}  : zd scr 91 52 [some (.ref a0), some (.int x1), some (.int x2), some (.int x3), some (.int x4), some (.int x5), some (.int x6), some (.int x7), v8, v9, v10, v11, v12, v13, v14] [] w = zd scr 91 58 [some (.ref a0), some (.int x1), some (.int x2), some (.int x3), some (.int x4), some (.int x5), some (.int x6), some (.int x7), some (.int (x6 + (nI 1))), v9, v10, v11, v12, v13, v14] [] w := by
  refine Eq.trans (zd_iload zh91 rfl rfl) ?_
  refine Eq.trans (zd_iconst zh91 (v := (nI 1)) rfl rfl) ?_
  refine Eq.trans (zd_iadd zh91 rfl) ?_
  refine Eq.trans (zd_istore zh91 (ls' := [some (.ref a0), some (.int x1), some (.int x2), some (.int x3), some (.int x4), some (.int x5), some (.int x6), some (.int x7), some (.int (x6 + (nI 1))), v9, v10, v11, v12, v13, v14]) (Nat.le_of_ble_eq_true rfl) rfl rfl) ?_
  exact rfl
set_option maxRecDepth 20000 in
theorem b91_86 {scr : List Int32} {w : zAW} {a0 : Nat} {x1 : Int32} {x2 : Int32} {x3 : Int32} {x4 : Int32} {x5 : Int32} {x6 : Int32} {x7 : Int32} {x8 : Int32} {x9 : Int32} {v10 : Option Value} {v11 : Option Value} {v12 : Option Value} {v13 : Option Value} {v14 : Option Value} (h1 : zob w a0 5 = true) {f1 : Int32} {w1 : zAW} (h2 : zC scr 65 [.ref a0, .int x6, .int x7, .int (nI 0)] w = some (some (.int f1), w1)) (h3 : zob w1 a0 5 = true) {f2 : Int32} {w2 : zAW} (h4 : zC scr 65 [.ref a0, .int x8, .int x9, .int (nI 0)] w1 = some (some (.int f2), w2)) (h5 : zob w2 a0 5 = true) {f3 : Int32} {w3 : zAW} (h6 : zC scr 64 [.ref a0, .int x6, .int (nI 1)] w2 = some (some (.int f3), w3)) : zd scr 91 86 [some (.ref a0), some (.int x1), some (.int x2), some (.int x3), some (.int x4), some (.int x5), some (.int x6), some (.int x7), some (.int x8), some (.int x9), v10, v11, v12, v13, v14] [] w = if f3 = f2 then zd scr 91 120 [some (.ref a0), some (.int x1), some (.int x2), some (.int x3), some (.int x4), some (.int x5), some (.int x6), some (.int x7), some (.int x8), some (.int x9), some (.int f1), some (.int f2), v12, v13, v14] [] w3 else zd scr 91 124 [some (.ref a0), some (.int x1), some (.int x2), some (.int x3), some (.int x4), some (.int x5), some (.int x6), some (.int x7), some (.int x8), some (.int x9), some (.int f1), some (.int f2), v12, v13, v14] [] w3 := by
  refine Eq.trans (zd_aload_n zh91 rfl rfl) ?_
  refine Eq.trans (zd_iload zh91 rfl rfl) ?_
  refine Eq.trans (zd_iload zh91 rfl rfl) ?_
  refine Eq.trans (zd_iconst zh91 (v := (nI 0)) rfl rfl) ?_
  refine Eq.trans (zd_invVi zh91 zh65 rfl rfl ⟨Nat.le_of_ble_eq_true rfl, Nat.le_of_ble_eq_true rfl, Nat.le_of_ble_eq_true rfl, Nat.le_of_ble_eq_true rfl⟩ rfl h1 h2 rfl) ?_
  refine Eq.trans (zd_istore zh91 (ls' := [some (.ref a0), some (.int x1), some (.int x2), some (.int x3), some (.int x4), some (.int x5), some (.int x6), some (.int x7), some (.int x8), some (.int x9), some (.int f1), v11, v12, v13, v14]) (Nat.le_of_ble_eq_true rfl) rfl rfl) ?_
  refine Eq.trans (zd_aload_n zh91 rfl rfl) ?_
  refine Eq.trans (zd_iload zh91 rfl rfl) ?_
  refine Eq.trans (zd_iload zh91 rfl rfl) ?_
  refine Eq.trans (zd_iconst zh91 (v := (nI 0)) rfl rfl) ?_
  refine Eq.trans (zd_invVi zh91 zh65 rfl rfl ⟨Nat.le_of_ble_eq_true rfl, Nat.le_of_ble_eq_true rfl, Nat.le_of_ble_eq_true rfl, Nat.le_of_ble_eq_true rfl⟩ rfl h3 h4 rfl) ?_
  refine Eq.trans (zd_istore zh91 (ls' := [some (.ref a0), some (.int x1), some (.int x2), some (.int x3), some (.int x4), some (.int x5), some (.int x6), some (.int x7), some (.int x8), some (.int x9), some (.int f1), some (.int f2), v12, v13, v14]) (Nat.le_of_ble_eq_true rfl) rfl rfl) ?_
  refine Eq.trans (zd_aload_n zh91 rfl rfl) ?_
  refine Eq.trans (zd_iload zh91 rfl rfl) ?_
  refine Eq.trans (zd_iconst zh91 (v := (nI 1)) rfl rfl) ?_
  refine Eq.trans (zd_invVi zh91 zh64 rfl rfl ⟨Nat.le_of_ble_eq_true rfl, Nat.le_of_ble_eq_true rfl, Nat.le_of_ble_eq_true rfl, Nat.le_of_ble_eq_true rfl⟩ rfl h5 h6 rfl) ?_
  refine Eq.trans (zd_iload zh91 rfl rfl) ?_
  exact zd_icmpne zh91 (t := 124) (by decide) rfl
set_option maxRecDepth 20000 in
theorem b91_383 {scr : List Int32} {w : zAW} {a0 : Nat} {x1 : Int32} {x2 : Int32} {x3 : Int32} {x4 : Int32} {x5 : Int32} {x6 : Int32} {x7 : Int32} {v8 : Option Value} {v9 : Option Value} {v10 : Option Value} {v11 : Option Value} {v12 : Option Value} {v13 : Option Value} {v14 : Option Value}  : zd scr 91 383 [some (.ref a0), some (.int x1), some (.int x2), some (.int x3), some (.int x4), some (.int x5), some (.int x6), some (.int x7), v8, v9, v10, v11, v12, v13, v14] [] w = zd scr 91 356 [some (.ref a0), some (.int x1), some (.int x2), some (.int x3), some (.int x4), some (.int x5), some (.int (nI 0)), some (.int (x7 + (nI 1))), v8, v9, v10, v11, v12, v13, v14] [] w := by
  refine Eq.trans (zd_iconst zh91 (v := (nI 0)) rfl rfl) ?_
  refine Eq.trans (zd_istore zh91 (ls' := [some (.ref a0), some (.int x1), some (.int x2), some (.int x3), some (.int x4), some (.int x5), some (.int (nI 0)), some (.int x7), v8, v9, v10, v11, v12, v13, v14]) (Nat.le_of_ble_eq_true rfl) rfl rfl) ?_
  refine Eq.trans (zd_iinc zh91 (ls' := [some (.ref a0), some (.int x1), some (.int x2), some (.int x3), some (.int x4), some (.int x5), some (.int (nI 0)), some (.int (x7 + (nI 1))), v8, v9, v10, v11, v12, v13, v14]) (v := (x7 + (nI 1))) rfl rfl rfl rfl) ?_
  refine Eq.trans (zd_goto zh91 (t := 356) (by decide) rfl) ?_
  exact rfl
set_option maxRecDepth 20000 in
theorem b91_367 {scr : List Int32} {w : zAW} {a0 : Nat} {x1 : Int32} {x2 : Int32} {x3 : Int32} {x4 : Int32} {x5 : Int32} {x6 : Int32} {x7 : Int32} {v8 : Option Value} {v9 : Option Value} {v10 : Option Value} {v11 : Option Value} {v12 : Option Value} {v13 : Option Value} {v14 : Option Value} (h1 : zob w a0 5 = true) {f1 : Int32} {w1 : zAW} (h2 : zC scr 64 [.ref a0, .int x7, .int (nI 2)] w = some (some (.int f1), w1)) : zd scr 91 367 [some (.ref a0), some (.int x1), some (.int x2), some (.int x3), some (.int x4), some (.int x5), some (.int x6), some (.int x7), v8, v9, v10, v11, v12, v13, v14] [] w = if f1 < (nI 10) then zd scr 91 379 [some (.ref a0), some (.int x1), some (.int x2), some (.int x3), some (.int x4), some (.int x5), some (.int x6), some (.int x7), v8, v9, v10, v11, v12, v13, v14] [] w1 else zd scr 91 383 [some (.ref a0), some (.int x1), some (.int x2), some (.int x3), some (.int x4), some (.int x5), some (.int x6), some (.int x7), v8, v9, v10, v11, v12, v13, v14] [] w1 := by
  refine Eq.trans (zd_aload_n zh91 rfl rfl) ?_
  refine Eq.trans (zd_iload zh91 rfl rfl) ?_
  refine Eq.trans (zd_iconst zh91 (v := (nI 2)) rfl rfl) ?_
  refine Eq.trans (zd_invVi zh91 zh64 rfl rfl ⟨Nat.le_of_ble_eq_true rfl, Nat.le_of_ble_eq_true rfl, Nat.le_of_ble_eq_true rfl, Nat.le_of_ble_eq_true rfl⟩ rfl h1 h2 rfl) ?_
  refine Eq.trans (zd_bipush zh91 (v := (nI 10)) rfl rfl) ?_
  exact zd_icmpge zh91 (t := 383) (by decide) rfl
set_option maxRecDepth 20000 in
theorem b91_397 {scr : List Int32} {w : zAW} {a0 : Nat} {x1 : Int32} {x2 : Int32} {x3 : Int32} {x4 : Int32} {x5 : Int32} {x6 : Int32} {x7 : Int32} {v8 : Option Value} {v9 : Option Value} {v10 : Option Value} {v11 : Option Value} {v12 : Option Value} {v13 : Option Value} {v14 : Option Value}  : zd scr 91 397 [some (.ref a0), some (.int x1), some (.int x2), some (.int x3), some (.int x4), some (.int x5), some (.int x6), some (.int x7), v8, v9, v10, v11, v12, v13, v14] [] w = if x4 = 0 then zd scr 91 408 [some (.ref a0), some (.int x1), some (.int x2), some (.int x3), some (.int x4), some (.int x5), some (.int x6), some (.int x7), v8, v9, v10, v11, v12, v13, v14] [] w else zd scr 91 402 [some (.ref a0), some (.int x1), some (.int x2), some (.int x3), some (.int x4), some (.int x5), some (.int x6), some (.int x7), v8, v9, v10, v11, v12, v13, v14] [] w := by
  refine Eq.trans (zd_iload zh91 rfl rfl) ?_
  exact zd_ifeq zh91 (t := 408) (by decide) rfl
set_option maxRecDepth 20000 in
theorem b91_414 {scr : List Int32} {w : zAW} {a0 : Nat} {x1 : Int32} {x2 : Int32} {x3 : Int32} {x4 : Int32} {x5 : Int32} {x6 : Int32} {x7 : Int32} {v8 : Option Value} {v9 : Option Value} {v10 : Option Value} {v11 : Option Value} {v12 : Option Value} {v13 : Option Value} {v14 : Option Value}  : zd scr 91 414 [some (.ref a0), some (.int x1), some (.int x2), some (.int x3), some (.int x4), some (.int x5), some (.int x6), some (.int x7), v8, v9, v10, v11, v12, v13, v14] [] w = if x3 = (-6) then zd scr 91 420 [some (.ref a0), some (.int x1), some (.int x2), some (.int x3), some (.int x4), some (.int x5), some (.int x6), some (.int x7), v8, v9, v10, v11, v12, v13, v14] [] w else zd scr 91 444 [some (.ref a0), some (.int x1), some (.int x2), some (.int x3), some (.int x4), some (.int x5), some (.int x6), some (.int x7), v8, v9, v10, v11, v12, v13, v14] [] w := by
  refine Eq.trans (zd_iload_n zh91 rfl rfl) ?_
  refine Eq.trans (zd_bipush zh91 (v := (-6)) rfl rfl) ?_
  exact zd_icmpne zh91 (t := 444) (by decide) rfl
set_option maxRecDepth 20000 in
theorem b91_120 {scr : List Int32} {w : zAW} {a0 : Nat} {x1 : Int32} {x2 : Int32} {x3 : Int32} {x4 : Int32} {x5 : Int32} {x6 : Int32} {x7 : Int32} {x8 : Int32} {x9 : Int32} {x10 : Int32} {x11 : Int32} {v12 : Option Value} {v13 : Option Value} {v14 : Option Value} (h1 : zob w a0 5 = true) {f1 : Int32} {w1 : zAW} (h2 : zC scr 64 [.ref a0, .int x8, .int (nI 1)] w = some (some (.int f1), w1)) : zd scr 91 120 [some (.ref a0), some (.int x1), some (.int x2), some (.int x3), some (.int x4), some (.int x5), some (.int x6), some (.int x7), some (.int x8), some (.int x9), some (.int x10), some (.int x11), v12, v13, v14] [] w = if f1 = x10 then zd scr 91 137 [some (.ref a0), some (.int x1), some (.int x2), some (.int x3), some (.int x4), some (.int x5), some (.int x6), some (.int x7), some (.int x8), some (.int x9), some (.int x10), some (.int x11), v12, v13, v14] [.int (nI 1)] w1 else zd scr 91 141 [some (.ref a0), some (.int x1), some (.int x2), some (.int x3), some (.int x4), some (.int x5), some (.int x6), some (.int x7), some (.int x8), some (.int x9), some (.int x10), some (.int x11), v12, v13, v14] [.int (nI 1)] w1 := by
  refine Eq.trans (zd_iconst zh91 (v := (nI 1)) rfl rfl) ?_
  refine Eq.trans (zd_goto zh91 (t := 125) (by decide) rfl) ?_
  refine Eq.trans (zd_aload_n zh91 rfl rfl) ?_
  refine Eq.trans (zd_iload zh91 rfl rfl) ?_
  refine Eq.trans (zd_iconst zh91 (v := (nI 1)) rfl rfl) ?_
  refine Eq.trans (zd_invVi zh91 zh64 rfl rfl ⟨Nat.le_of_ble_eq_true rfl, Nat.le_of_ble_eq_true rfl, Nat.le_of_ble_eq_true rfl, Nat.le_of_ble_eq_true rfl⟩ rfl h1 h2 rfl) ?_
  refine Eq.trans (zd_iload zh91 rfl rfl) ?_
  exact zd_icmpne zh91 (t := 141) (by decide) rfl
set_option maxRecDepth 20000 in
theorem b91_124 {scr : List Int32} {w : zAW} {a0 : Nat} {x1 : Int32} {x2 : Int32} {x3 : Int32} {x4 : Int32} {x5 : Int32} {x6 : Int32} {x7 : Int32} {x8 : Int32} {x9 : Int32} {x10 : Int32} {x11 : Int32} {v12 : Option Value} {v13 : Option Value} {v14 : Option Value} (h1 : zob w a0 5 = true) {f1 : Int32} {w1 : zAW} (h2 : zC scr 64 [.ref a0, .int x8, .int (nI 1)] w = some (some (.int f1), w1)) : zd scr 91 124 [some (.ref a0), some (.int x1), some (.int x2), some (.int x3), some (.int x4), some (.int x5), some (.int x6), some (.int x7), some (.int x8), some (.int x9), some (.int x10), some (.int x11), v12, v13, v14] [] w = if f1 = x10 then zd scr 91 137 [some (.ref a0), some (.int x1), some (.int x2), some (.int x3), some (.int x4), some (.int x5), some (.int x6), some (.int x7), some (.int x8), some (.int x9), some (.int x10), some (.int x11), v12, v13, v14] [.int (nI 0)] w1 else zd scr 91 141 [some (.ref a0), some (.int x1), some (.int x2), some (.int x3), some (.int x4), some (.int x5), some (.int x6), some (.int x7), some (.int x8), some (.int x9), some (.int x10), some (.int x11), v12, v13, v14] [.int (nI 0)] w1 := by
  refine Eq.trans (zd_iconst zh91 (v := (nI 0)) rfl rfl) ?_
  refine Eq.trans (zd_aload_n zh91 rfl rfl) ?_
  refine Eq.trans (zd_iload zh91 rfl rfl) ?_
  refine Eq.trans (zd_iconst zh91 (v := (nI 1)) rfl rfl) ?_
  refine Eq.trans (zd_invVi zh91 zh64 rfl rfl ⟨Nat.le_of_ble_eq_true rfl, Nat.le_of_ble_eq_true rfl, Nat.le_of_ble_eq_true rfl, Nat.le_of_ble_eq_true rfl⟩ rfl h1 h2 rfl) ?_
  refine Eq.trans (zd_iload zh91 rfl rfl) ?_
  exact zd_icmpne zh91 (t := 141) (by decide) rfl
set_option maxRecDepth 20000 in
theorem b91_379 {scr : List Int32} {w : zAW} {a0 : Nat} {x1 : Int32} {x2 : Int32} {x3 : Int32} {x4 : Int32} {x5 : Int32} {x6 : Int32} {x7 : Int32} {v8 : Option Value} {v9 : Option Value} {v10 : Option Value} {v11 : Option Value} {v12 : Option Value} {v13 : Option Value} {v14 : Option Value}  : zd scr 91 379 [some (.ref a0), some (.int x1), some (.int x2), some (.int x3), some (.int x4), some (.int x5), some (.int x6), some (.int x7), v8, v9, v10, v11, v12, v13, v14] [] w = zd scr 91 356 [some (.ref a0), some (.int x1), some (.int x2), some (.int x3), some (.int x4), some (.int x5), some (.int (nI 1)), some (.int (x7 + (nI 1))), v8, v9, v10, v11, v12, v13, v14] [] w := by
  refine Eq.trans (zd_iconst zh91 (v := (nI 1)) rfl rfl) ?_
  refine Eq.trans (zd_goto zh91 (t := 384) (by decide) rfl) ?_
  refine Eq.trans (zd_istore zh91 (ls' := [some (.ref a0), some (.int x1), some (.int x2), some (.int x3), some (.int x4), some (.int x5), some (.int (nI 1)), some (.int x7), v8, v9, v10, v11, v12, v13, v14]) (Nat.le_of_ble_eq_true rfl) rfl rfl) ?_
  refine Eq.trans (zd_iinc zh91 (ls' := [some (.ref a0), some (.int x1), some (.int x2), some (.int x3), some (.int x4), some (.int x5), some (.int (nI 1)), some (.int (x7 + (nI 1))), v8, v9, v10, v11, v12, v13, v14]) (v := (x7 + (nI 1))) rfl rfl rfl rfl) ?_
  refine Eq.trans (zd_goto zh91 (t := 356) (by decide) rfl) ?_
  exact rfl
set_option maxRecDepth 20000 in
theorem b91_408 {scr : List Int32} {w : zAW} {a0 : Nat} {x1 : Int32} {x2 : Int32} {x3 : Int32} {x4 : Int32} {x5 : Int32} {x6 : Int32} {x7 : Int32} {v8 : Option Value} {v9 : Option Value} {v10 : Option Value} {v11 : Option Value} {v12 : Option Value} {v13 : Option Value} {v14 : Option Value}  : zd scr 91 408 [some (.ref a0), some (.int x1), some (.int x2), some (.int x3), some (.int x4), some (.int x5), some (.int x6), some (.int x7), v8, v9, v10, v11, v12, v13, v14] [] w = some (some (.int (nI 1)), w) := by
  refine Eq.trans (zd_iconst zh91 (v := (nI 1)) rfl rfl) ?_
  refine Eq.trans (zd_goto zh91 (t := 413) (by decide) rfl) ?_
  exact zd_iret zh91 rfl rfl
set_option maxRecDepth 20000 in
theorem b91_402 {scr : List Int32} {w : zAW} {a0 : Nat} {x1 : Int32} {x2 : Int32} {x3 : Int32} {x4 : Int32} {x5 : Int32} {x6 : Int32} {x7 : Int32} {v8 : Option Value} {v9 : Option Value} {v10 : Option Value} {v11 : Option Value} {v12 : Option Value} {v13 : Option Value} {v14 : Option Value}  : zd scr 91 402 [some (.ref a0), some (.int x1), some (.int x2), some (.int x3), some (.int x4), some (.int x5), some (.int x6), some (.int x7), v8, v9, v10, v11, v12, v13, v14] [] w = if x2 < x4 then zd scr 91 412 [some (.ref a0), some (.int x1), some (.int x2), some (.int x3), some (.int x4), some (.int x5), some (.int x6), some (.int x7), v8, v9, v10, v11, v12, v13, v14] [] w else zd scr 91 408 [some (.ref a0), some (.int x1), some (.int x2), some (.int x3), some (.int x4), some (.int x5), some (.int x6), some (.int x7), v8, v9, v10, v11, v12, v13, v14] [] w := by
  refine Eq.trans (zd_iload_n zh91 rfl rfl) ?_
  refine Eq.trans (zd_iload zh91 rfl rfl) ?_
  exact zd_icmplt zh91 (t := 412) (by decide) rfl
set_option maxRecDepth 20000 in
theorem b91_420 {scr : List Int32} {w : zAW} {a0 : Nat} {x1 : Int32} {x2 : Int32} {x3 : Int32} {x4 : Int32} {x5 : Int32} {x6 : Int32} {x7 : Int32} {v8 : Option Value} {v9 : Option Value} {v10 : Option Value} {v11 : Option Value} {v12 : Option Value} {v13 : Option Value} {v14 : Option Value}  : zd scr 91 420 [some (.ref a0), some (.int x1), some (.int x2), some (.int x3), some (.int x4), some (.int x5), some (.int x6), some (.int x7), v8, v9, v10, v11, v12, v13, v14] [] w = if x2 = (-6) then zd scr 91 426 [some (.ref a0), some (.int x1), some (.int x2), some (.int x3), some (.int x4), some (.int x5), some (.int x6), some (.int x7), v8, v9, v10, v11, v12, v13, v14] [] w else zd scr 91 440 [some (.ref a0), some (.int x1), some (.int x2), some (.int x3), some (.int x4), some (.int x5), some (.int x6), some (.int x7), v8, v9, v10, v11, v12, v13, v14] [] w := by
  refine Eq.trans (zd_iload_n zh91 rfl rfl) ?_
  refine Eq.trans (zd_bipush zh91 (v := (-6)) rfl rfl) ?_
  exact zd_icmpne zh91 (t := 440) (by decide) rfl
set_option maxRecDepth 20000 in
theorem b91_444 {scr : List Int32} {w : zAW} {a0 : Nat} {x1 : Int32} {x2 : Int32} {x3 : Int32} {x4 : Int32} {x5 : Int32} {x6 : Int32} {x7 : Int32} {v8 : Option Value} {v9 : Option Value} {v10 : Option Value} {v11 : Option Value} {v12 : Option Value} {v13 : Option Value} {v14 : Option Value}  : zd scr 91 444 [some (.ref a0), some (.int x1), some (.int x2), some (.int x3), some (.int x4), some (.int x5), some (.int x6), some (.int x7), v8, v9, v10, v11, v12, v13, v14] [] w = if x2 = x4 then zd scr 91 450 [some (.ref a0), some (.int x1), some (.int x2), some (.int x3), some (.int x4), some (.int x5), some (.int x6), some (.int x7), v8, v9, v10, v11, v12, v13, v14] [] w else zd scr 91 491 [some (.ref a0), some (.int x1), some (.int x2), some (.int x3), some (.int x4), some (.int x5), some (.int x6), some (.int x7), v8, v9, v10, v11, v12, v13, v14] [] w := by
  refine Eq.trans (zd_iload_n zh91 rfl rfl) ?_
  refine Eq.trans (zd_iload zh91 rfl rfl) ?_
  exact zd_icmpne zh91 (t := 491) (by decide) rfl
set_option maxRecDepth 20000 in
theorem b91_137 {scr : List Int32} {w : zAW} {a0 : Nat} {x1 : Int32} {x2 : Int32} {x3 : Int32} {x4 : Int32} {x5 : Int32} {x6 : Int32} {x7 : Int32} {x8 : Int32} {x9 : Int32} {x10 : Int32} {x11 : Int32} {v12 : Option Value} {v13 : Option Value} {v14 : Option Value} {y0 : Int32} (h1 : zob w a0 5 = true) {f1 : Int32} {w1 : zAW} (h2 : zC scr 64 [.ref a0, .int x6, .int (nI 1)] w = some (some (.int f1), w1)) : zd scr 91 137 [some (.ref a0), some (.int x1), some (.int x2), some (.int x3), some (.int x4), some (.int x5), some (.int x6), some (.int x7), some (.int x8), some (.int x9), some (.int x10), some (.int x11), v12, v13, v14] [.int y0] w = if f1 = x10 then zd scr 91 155 [some (.ref a0), some (.int x1), some (.int x2), some (.int x3), some (.int x4), some (.int x5), some (.int x6), some (.int x7), some (.int x8), some (.int x9), some (.int x10), some (.int x11), v12, v13, v14] [.int (y0 + (nI 1))] w1 else zd scr 91 159 [some (.ref a0), some (.int x1), some (.int x2), some (.int x3), some (.int x4), some (.int x5), some (.int x6), some (.int x7), some (.int x8), some (.int x9), some (.int x10), some (.int x11), v12, v13, v14] [.int (y0 + (nI 1))] w1 := by
  refine Eq.trans (zd_iconst zh91 (v := (nI 1)) rfl rfl) ?_
  refine Eq.trans (zd_goto zh91 (t := 142) (by decide) rfl) ?_
  refine Eq.trans (zd_iadd zh91 rfl) ?_
  refine Eq.trans (zd_aload_n zh91 rfl rfl) ?_
  refine Eq.trans (zd_iload zh91 rfl rfl) ?_
  refine Eq.trans (zd_iconst zh91 (v := (nI 1)) rfl rfl) ?_
  refine Eq.trans (zd_invVi zh91 zh64 rfl rfl ⟨Nat.le_of_ble_eq_true rfl, Nat.le_of_ble_eq_true rfl, Nat.le_of_ble_eq_true rfl, Nat.le_of_ble_eq_true rfl⟩ rfl h1 h2 rfl) ?_
  refine Eq.trans (zd_iload zh91 rfl rfl) ?_
  exact zd_icmpne zh91 (t := 159) (by decide) rfl
set_option maxRecDepth 20000 in
theorem b91_141 {scr : List Int32} {w : zAW} {a0 : Nat} {x1 : Int32} {x2 : Int32} {x3 : Int32} {x4 : Int32} {x5 : Int32} {x6 : Int32} {x7 : Int32} {x8 : Int32} {x9 : Int32} {x10 : Int32} {x11 : Int32} {v12 : Option Value} {v13 : Option Value} {v14 : Option Value} {y0 : Int32} (h1 : zob w a0 5 = true) {f1 : Int32} {w1 : zAW} (h2 : zC scr 64 [.ref a0, .int x6, .int (nI 1)] w = some (some (.int f1), w1)) : zd scr 91 141 [some (.ref a0), some (.int x1), some (.int x2), some (.int x3), some (.int x4), some (.int x5), some (.int x6), some (.int x7), some (.int x8), some (.int x9), some (.int x10), some (.int x11), v12, v13, v14] [.int y0] w = if f1 = x10 then zd scr 91 155 [some (.ref a0), some (.int x1), some (.int x2), some (.int x3), some (.int x4), some (.int x5), some (.int x6), some (.int x7), some (.int x8), some (.int x9), some (.int x10), some (.int x11), v12, v13, v14] [.int (y0 + (nI 0))] w1 else zd scr 91 159 [some (.ref a0), some (.int x1), some (.int x2), some (.int x3), some (.int x4), some (.int x5), some (.int x6), some (.int x7), some (.int x8), some (.int x9), some (.int x10), some (.int x11), v12, v13, v14] [.int (y0 + (nI 0))] w1 := by
  refine Eq.trans (zd_iconst zh91 (v := (nI 0)) rfl rfl) ?_
  refine Eq.trans (zd_iadd zh91 rfl) ?_
  refine Eq.trans (zd_aload_n zh91 rfl rfl) ?_
  refine Eq.trans (zd_iload zh91 rfl rfl) ?_
  refine Eq.trans (zd_iconst zh91 (v := (nI 1)) rfl rfl) ?_
  refine Eq.trans (zd_invVi zh91 zh64 rfl rfl ⟨Nat.le_of_ble_eq_true rfl, Nat.le_of_ble_eq_true rfl, Nat.le_of_ble_eq_true rfl, Nat.le_of_ble_eq_true rfl⟩ rfl h1 h2 rfl) ?_
  refine Eq.trans (zd_iload zh91 rfl rfl) ?_
  exact zd_icmpne zh91 (t := 159) (by decide) rfl
set_option maxRecDepth 20000 in
theorem b91_412 {scr : List Int32} {w : zAW} {a0 : Nat} {x1 : Int32} {x2 : Int32} {x3 : Int32} {x4 : Int32} {x5 : Int32} {x6 : Int32} {x7 : Int32} {v8 : Option Value} {v9 : Option Value} {v10 : Option Value} {v11 : Option Value} {v12 : Option Value} {v13 : Option Value} {v14 : Option Value}  : zd scr 91 412 [some (.ref a0), some (.int x1), some (.int x2), some (.int x3), some (.int x4), some (.int x5), some (.int x6), some (.int x7), v8, v9, v10, v11, v12, v13, v14] [] w = some (some (.int (nI 0)), w) := by
  refine Eq.trans (zd_iconst zh91 (v := (nI 0)) rfl rfl) ?_
  exact zd_iret zh91 rfl rfl
set_option maxRecDepth 20000 in
theorem b91_426 {scr : List Int32} {w : zAW} {a0 : Nat} {x1 : Int32} {x2 : Int32} {x3 : Int32} {x4 : Int32} {x5 : Int32} {x6 : Int32} {x7 : Int32} {v8 : Option Value} {v9 : Option Value} {v10 : Option Value} {v11 : Option Value} {v12 : Option Value} {v13 : Option Value} {v14 : Option Value} (h1 : zob w a0 5 = true) {f1 : Int32} {w1 : zAW} (h2 : zC scr 73 [.ref a0, .int (nI 0)] w = some (some (.int f1), w1)) : zd scr 91 426 [some (.ref a0), some (.int x1), some (.int x2), some (.int x3), some (.int x4), some (.int x5), some (.int x6), some (.int x7), v8, v9, v10, v11, v12, v13, v14] [] w = if f1 = (-6) then zd scr 91 436 [some (.ref a0), some (.int x1), some (.int x2), some (.int x3), some (.int x4), some (.int x5), some (.int x6), some (.int x7), v8, v9, v10, v11, v12, v13, v14] [] w1 else zd scr 91 440 [some (.ref a0), some (.int x1), some (.int x2), some (.int x3), some (.int x4), some (.int x5), some (.int x6), some (.int x7), v8, v9, v10, v11, v12, v13, v14] [] w1 := by
  refine Eq.trans (zd_aload_n zh91 rfl rfl) ?_
  refine Eq.trans (zd_iconst zh91 (v := (nI 0)) rfl rfl) ?_
  refine Eq.trans (zd_invVi zh91 zh73 rfl rfl ⟨Nat.le_of_ble_eq_true rfl, Nat.le_of_ble_eq_true rfl, Nat.le_of_ble_eq_true rfl, Nat.le_of_ble_eq_true rfl⟩ rfl h1 h2 rfl) ?_
  refine Eq.trans (zd_bipush zh91 (v := (-6)) rfl rfl) ?_
  exact zd_icmpne zh91 (t := 440) (by decide) rfl
set_option maxRecDepth 20000 in
theorem b91_440 {scr : List Int32} {w : zAW} {a0 : Nat} {x1 : Int32} {x2 : Int32} {x3 : Int32} {x4 : Int32} {x5 : Int32} {x6 : Int32} {x7 : Int32} {v8 : Option Value} {v9 : Option Value} {v10 : Option Value} {v11 : Option Value} {v12 : Option Value} {v13 : Option Value} {v14 : Option Value}  : zd scr 91 440 [some (.ref a0), some (.int x1), some (.int x2), some (.int x3), some (.int x4), some (.int x5), some (.int x6), some (.int x7), v8, v9, v10, v11, v12, v13, v14] [] w = some (some (.int (nI 0)), w) := by
  refine Eq.trans (zd_iconst zh91 (v := (nI 0)) rfl rfl) ?_
  refine Eq.trans (zd_goto zh91 (t := 492) (by decide) rfl) ?_
  exact zd_iret zh91 rfl rfl
set_option maxRecDepth 20000 in
theorem b91_450 {scr : List Int32} {w : zAW} {a0 : Nat} {x1 : Int32} {x2 : Int32} {x3 : Int32} {x4 : Int32} {x5 : Int32} {x6 : Int32} {x7 : Int32} {v8 : Option Value} {v9 : Option Value} {v10 : Option Value} {v11 : Option Value} {v12 : Option Value} {v13 : Option Value} {v14 : Option Value} (h1 : zob w a0 5 = true) {f1 : Int32} {w1 : zAW} (h2 : zC scr 73 [.ref a0, .int (nI 0)] w = some (some (.int f1), w1)) (h3 : zob w1 a0 5 = true) {f2 : Int32} {w2 : zAW} (h4 : zC scr 73 [.ref a0, .int (nI 1)] w1 = some (some (.int f2), w2)) (h5 : zob w2 a0 5 = true) {f3 : Int32} {w3 : zAW} (h6 : zC scr 73 [.ref a0, .int (nI 2)] w2 = some (some (.int f3), w3)) (h7 : zob w3 a0 5 = true) {f4 : Int32} {w4 : zAW} (h8 : zC scr 73 [.ref a0, .int (nI 3)] w3 = some (some (.int f4), w4)) : zd scr 91 450 [some (.ref a0), some (.int x1), some (.int x2), some (.int x3), some (.int x4), some (.int x5), some (.int x6), some (.int x7), v8, v9, v10, v11, v12, v13, v14] [] w = if (((((nI 729) * f1) + ((nI 81) * f2)) + ((nI 9) * f3)) + f4) = x3 then zd scr 91 487 [some (.ref a0), some (.int x1), some (.int x2), some (.int x3), some (.int x4), some (.int x5), some (.int x6), some (.int x7), v8, v9, v10, v11, v12, v13, v14] [] w4 else zd scr 91 491 [some (.ref a0), some (.int x1), some (.int x2), some (.int x3), some (.int x4), some (.int x5), some (.int x6), some (.int x7), v8, v9, v10, v11, v12, v13, v14] [] w4 := by
  refine Eq.trans (zd_sipush zh91 (v := (nI 729)) rfl rfl) ?_
  refine Eq.trans (zd_aload_n zh91 rfl rfl) ?_
  refine Eq.trans (zd_iconst zh91 (v := (nI 0)) rfl rfl) ?_
  refine Eq.trans (zd_invVi zh91 zh73 rfl rfl ⟨Nat.le_of_ble_eq_true rfl, Nat.le_of_ble_eq_true rfl, Nat.le_of_ble_eq_true rfl, Nat.le_of_ble_eq_true rfl⟩ rfl h1 h2 rfl) ?_
  refine Eq.trans (zd_imul zh91 rfl) ?_
  refine Eq.trans (zd_bipush zh91 (v := (nI 81)) rfl rfl) ?_
  refine Eq.trans (zd_aload_n zh91 rfl rfl) ?_
  refine Eq.trans (zd_iconst zh91 (v := (nI 1)) rfl rfl) ?_
  refine Eq.trans (zd_invVi zh91 zh73 rfl rfl ⟨Nat.le_of_ble_eq_true rfl, Nat.le_of_ble_eq_true rfl, Nat.le_of_ble_eq_true rfl, Nat.le_of_ble_eq_true rfl⟩ rfl h3 h4 rfl) ?_
  refine Eq.trans (zd_imul zh91 rfl) ?_
  refine Eq.trans (zd_iadd zh91 rfl) ?_
  refine Eq.trans (zd_bipush zh91 (v := (nI 9)) rfl rfl) ?_
  refine Eq.trans (zd_aload_n zh91 rfl rfl) ?_
  refine Eq.trans (zd_iconst zh91 (v := (nI 2)) rfl rfl) ?_
  refine Eq.trans (zd_invVi zh91 zh73 rfl rfl ⟨Nat.le_of_ble_eq_true rfl, Nat.le_of_ble_eq_true rfl, Nat.le_of_ble_eq_true rfl, Nat.le_of_ble_eq_true rfl⟩ rfl h5 h6 rfl) ?_
  refine Eq.trans (zd_imul zh91 rfl) ?_
  refine Eq.trans (zd_iadd zh91 rfl) ?_
  refine Eq.trans (zd_aload_n zh91 rfl rfl) ?_
  refine Eq.trans (zd_iconst zh91 (v := (nI 3)) rfl rfl) ?_
  refine Eq.trans (zd_invVi zh91 zh73 rfl rfl ⟨Nat.le_of_ble_eq_true rfl, Nat.le_of_ble_eq_true rfl, Nat.le_of_ble_eq_true rfl, Nat.le_of_ble_eq_true rfl⟩ rfl h7 h8 rfl) ?_
  refine Eq.trans (zd_iadd zh91 rfl) ?_
  refine Eq.trans (zd_iload_n zh91 rfl rfl) ?_
  exact zd_icmpne zh91 (t := 491) (by decide) rfl
set_option maxRecDepth 20000 in
theorem b91_491 {scr : List Int32} {w : zAW} {a0 : Nat} {x1 : Int32} {x2 : Int32} {x3 : Int32} {x4 : Int32} {x5 : Int32} {x6 : Int32} {x7 : Int32} {v8 : Option Value} {v9 : Option Value} {v10 : Option Value} {v11 : Option Value} {v12 : Option Value} {v13 : Option Value} {v14 : Option Value}  : zd scr 91 491 [some (.ref a0), some (.int x1), some (.int x2), some (.int x3), some (.int x4), some (.int x5), some (.int x6), some (.int x7), v8, v9, v10, v11, v12, v13, v14] [] w = some (some (.int (nI 0)), w) := by
  refine Eq.trans (zd_iconst zh91 (v := (nI 0)) rfl rfl) ?_
  exact zd_iret zh91 rfl rfl
set_option maxRecDepth 20000 in
theorem b91_155 {scr : List Int32} {w : zAW} {a0 : Nat} {x1 : Int32} {x2 : Int32} {x3 : Int32} {x4 : Int32} {x5 : Int32} {x6 : Int32} {x7 : Int32} {x8 : Int32} {x9 : Int32} {x10 : Int32} {x11 : Int32} {v12 : Option Value} {v13 : Option Value} {v14 : Option Value} {y0 : Int32} (h1 : zob w a0 5 = true) {f1 : Int32} {w1 : zAW} (h2 : zC scr 64 [.ref a0, .int x8, .int (nI 1)] w = some (some (.int f1), w1)) : zd scr 91 155 [some (.ref a0), some (.int x1), some (.int x2), some (.int x3), some (.int x4), some (.int x5), some (.int x6), some (.int x7), some (.int x8), some (.int x9), some (.int x10), some (.int x11), v12, v13, v14] [.int y0] w = if f1 = x11 then zd scr 91 173 [some (.ref a0), some (.int x1), some (.int x2), some (.int x3), some (.int x4), some (.int x5), some (.int x6), some (.int x7), some (.int x8), some (.int x9), some (.int x10), some (.int x11), v12, v13, v14] [.int (y0 - (nI 1))] w1 else zd scr 91 177 [some (.ref a0), some (.int x1), some (.int x2), some (.int x3), some (.int x4), some (.int x5), some (.int x6), some (.int x7), some (.int x8), some (.int x9), some (.int x10), some (.int x11), v12, v13, v14] [.int (y0 - (nI 1))] w1 := by
  refine Eq.trans (zd_iconst zh91 (v := (nI 1)) rfl rfl) ?_
  refine Eq.trans (zd_goto zh91 (t := 160) (by decide) rfl) ?_
  refine Eq.trans (zd_isub zh91 rfl) ?_
  refine Eq.trans (zd_aload_n zh91 rfl rfl) ?_
  refine Eq.trans (zd_iload zh91 rfl rfl) ?_
  refine Eq.trans (zd_iconst zh91 (v := (nI 1)) rfl rfl) ?_
  refine Eq.trans (zd_invVi zh91 zh64 rfl rfl ⟨Nat.le_of_ble_eq_true rfl, Nat.le_of_ble_eq_true rfl, Nat.le_of_ble_eq_true rfl, Nat.le_of_ble_eq_true rfl⟩ rfl h1 h2 rfl) ?_
  refine Eq.trans (zd_iload zh91 rfl rfl) ?_
  exact zd_icmpne zh91 (t := 177) (by decide) rfl
set_option maxRecDepth 20000 in
theorem b91_159 {scr : List Int32} {w : zAW} {a0 : Nat} {x1 : Int32} {x2 : Int32} {x3 : Int32} {x4 : Int32} {x5 : Int32} {x6 : Int32} {x7 : Int32} {x8 : Int32} {x9 : Int32} {x10 : Int32} {x11 : Int32} {v12 : Option Value} {v13 : Option Value} {v14 : Option Value} {y0 : Int32} (h1 : zob w a0 5 = true) {f1 : Int32} {w1 : zAW} (h2 : zC scr 64 [.ref a0, .int x8, .int (nI 1)] w = some (some (.int f1), w1)) : zd scr 91 159 [some (.ref a0), some (.int x1), some (.int x2), some (.int x3), some (.int x4), some (.int x5), some (.int x6), some (.int x7), some (.int x8), some (.int x9), some (.int x10), some (.int x11), v12, v13, v14] [.int y0] w = if f1 = x11 then zd scr 91 173 [some (.ref a0), some (.int x1), some (.int x2), some (.int x3), some (.int x4), some (.int x5), some (.int x6), some (.int x7), some (.int x8), some (.int x9), some (.int x10), some (.int x11), v12, v13, v14] [.int (y0 - (nI 0))] w1 else zd scr 91 177 [some (.ref a0), some (.int x1), some (.int x2), some (.int x3), some (.int x4), some (.int x5), some (.int x6), some (.int x7), some (.int x8), some (.int x9), some (.int x10), some (.int x11), v12, v13, v14] [.int (y0 - (nI 0))] w1 := by
  refine Eq.trans (zd_iconst zh91 (v := (nI 0)) rfl rfl) ?_
  refine Eq.trans (zd_isub zh91 rfl) ?_
  refine Eq.trans (zd_aload_n zh91 rfl rfl) ?_
  refine Eq.trans (zd_iload zh91 rfl rfl) ?_
  refine Eq.trans (zd_iconst zh91 (v := (nI 1)) rfl rfl) ?_
  refine Eq.trans (zd_invVi zh91 zh64 rfl rfl ⟨Nat.le_of_ble_eq_true rfl, Nat.le_of_ble_eq_true rfl, Nat.le_of_ble_eq_true rfl, Nat.le_of_ble_eq_true rfl⟩ rfl h1 h2 rfl) ?_
  refine Eq.trans (zd_iload zh91 rfl rfl) ?_
  exact zd_icmpne zh91 (t := 177) (by decide) rfl
set_option maxRecDepth 20000 in
theorem b91_436 {scr : List Int32} {w : zAW} {a0 : Nat} {x1 : Int32} {x2 : Int32} {x3 : Int32} {x4 : Int32} {x5 : Int32} {x6 : Int32} {x7 : Int32} {v8 : Option Value} {v9 : Option Value} {v10 : Option Value} {v11 : Option Value} {v12 : Option Value} {v13 : Option Value} {v14 : Option Value}  : zd scr 91 436 [some (.ref a0), some (.int x1), some (.int x2), some (.int x3), some (.int x4), some (.int x5), some (.int x6), some (.int x7), v8, v9, v10, v11, v12, v13, v14] [] w = some (some (.int (nI 1)), w) := by
  refine Eq.trans (zd_iconst zh91 (v := (nI 1)) rfl rfl) ?_
  refine Eq.trans (zd_goto zh91 (t := 492) (by decide) rfl) ?_
  exact zd_iret zh91 rfl rfl
set_option maxRecDepth 20000 in
theorem b91_487 {scr : List Int32} {w : zAW} {a0 : Nat} {x1 : Int32} {x2 : Int32} {x3 : Int32} {x4 : Int32} {x5 : Int32} {x6 : Int32} {x7 : Int32} {v8 : Option Value} {v9 : Option Value} {v10 : Option Value} {v11 : Option Value} {v12 : Option Value} {v13 : Option Value} {v14 : Option Value}  : zd scr 91 487 [some (.ref a0), some (.int x1), some (.int x2), some (.int x3), some (.int x4), some (.int x5), some (.int x6), some (.int x7), v8, v9, v10, v11, v12, v13, v14] [] w = some (some (.int (nI 1)), w) := by
  refine Eq.trans (zd_iconst zh91 (v := (nI 1)) rfl rfl) ?_
  refine Eq.trans (zd_goto zh91 (t := 492) (by decide) rfl) ?_
  exact zd_iret zh91 rfl rfl
set_option maxRecDepth 20000 in
theorem b91_173 {scr : List Int32} {w : zAW} {a0 : Nat} {x1 : Int32} {x2 : Int32} {x3 : Int32} {x4 : Int32} {x5 : Int32} {x6 : Int32} {x7 : Int32} {x8 : Int32} {x9 : Int32} {x10 : Int32} {x11 : Int32} {v12 : Option Value} {v13 : Option Value} {v14 : Option Value} {y0 : Int32} (h1 : zob w a0 5 = true) {f1 : Int32} {w1 : zAW} (h2 : zC scr 65 [.ref a0, .int x6, .int x7, .int (nI 1)] w = some (some (.int f1), w1)) (h3 : zob w1 a0 5 = true) {f2 : Int32} {w2 : zAW} (h4 : zC scr 65 [.ref a0, .int x8, .int x9, .int (nI 1)] w1 = some (some (.int f2), w2)) : zd scr 91 173 [some (.ref a0), some (.int x1), some (.int x2), some (.int x3), some (.int x4), some (.int x5), some (.int x6), some (.int x7), some (.int x8), some (.int x9), some (.int x10), some (.int x11), v12, v13, v14] [.int y0] w = if (f1 - f2) < 0 then zd scr 91 207 [some (.ref a0), some (.int x1), some (.int x2), some (.int x3), some (.int x4), some (.int x5), some (.int x6), some (.int x7), some (.int x8), some (.int x9), some (.int x10), some (.int x11), some (.int (y0 - (nI 1))), some (.int (f1 - f2)), v14] [] w2 else zd scr 91 213 [some (.ref a0), some (.int x1), some (.int x2), some (.int x3), some (.int x4), some (.int x5), some (.int x6), some (.int x7), some (.int x8), some (.int x9), some (.int x10), some (.int x11), some (.int (y0 - (nI 1))), some (.int (f1 - f2)), v14] [] w2 := by
  refine Eq.trans (zd_iconst zh91 (v := (nI 1)) rfl rfl) ?_
  refine Eq.trans (zd_goto zh91 (t := 178) (by decide) rfl) ?_
  refine Eq.trans (zd_isub zh91 rfl) ?_
  refine Eq.trans (zd_istore zh91 (ls' := [some (.ref a0), some (.int x1), some (.int x2), some (.int x3), some (.int x4), some (.int x5), some (.int x6), some (.int x7), some (.int x8), some (.int x9), some (.int x10), some (.int x11), some (.int (y0 - (nI 1))), v13, v14]) (Nat.le_of_ble_eq_true rfl) rfl rfl) ?_
  refine Eq.trans (zd_aload_n zh91 rfl rfl) ?_
  refine Eq.trans (zd_iload zh91 rfl rfl) ?_
  refine Eq.trans (zd_iload zh91 rfl rfl) ?_
  refine Eq.trans (zd_iconst zh91 (v := (nI 1)) rfl rfl) ?_
  refine Eq.trans (zd_invVi zh91 zh65 rfl rfl ⟨Nat.le_of_ble_eq_true rfl, Nat.le_of_ble_eq_true rfl, Nat.le_of_ble_eq_true rfl, Nat.le_of_ble_eq_true rfl⟩ rfl h1 h2 rfl) ?_
  refine Eq.trans (zd_aload_n zh91 rfl rfl) ?_
  refine Eq.trans (zd_iload zh91 rfl rfl) ?_
  refine Eq.trans (zd_iload zh91 rfl rfl) ?_
  refine Eq.trans (zd_iconst zh91 (v := (nI 1)) rfl rfl) ?_
  refine Eq.trans (zd_invVi zh91 zh65 rfl rfl ⟨Nat.le_of_ble_eq_true rfl, Nat.le_of_ble_eq_true rfl, Nat.le_of_ble_eq_true rfl, Nat.le_of_ble_eq_true rfl⟩ rfl h3 h4 rfl) ?_
  refine Eq.trans (zd_isub zh91 rfl) ?_
  refine Eq.trans (zd_istore zh91 (ls' := [some (.ref a0), some (.int x1), some (.int x2), some (.int x3), some (.int x4), some (.int x5), some (.int x6), some (.int x7), some (.int x8), some (.int x9), some (.int x10), some (.int x11), some (.int (y0 - (nI 1))), some (.int (f1 - f2)), v14]) (Nat.le_of_ble_eq_true rfl) rfl rfl) ?_
  refine Eq.trans (zd_iload zh91 rfl rfl) ?_
  exact zd_ifge zh91 (t := 213) (by decide) rfl
set_option maxRecDepth 20000 in
theorem b91_177 {scr : List Int32} {w : zAW} {a0 : Nat} {x1 : Int32} {x2 : Int32} {x3 : Int32} {x4 : Int32} {x5 : Int32} {x6 : Int32} {x7 : Int32} {x8 : Int32} {x9 : Int32} {x10 : Int32} {x11 : Int32} {v12 : Option Value} {v13 : Option Value} {v14 : Option Value} {y0 : Int32} (h1 : zob w a0 5 = true) {f1 : Int32} {w1 : zAW} (h2 : zC scr 65 [.ref a0, .int x6, .int x7, .int (nI 1)] w = some (some (.int f1), w1)) (h3 : zob w1 a0 5 = true) {f2 : Int32} {w2 : zAW} (h4 : zC scr 65 [.ref a0, .int x8, .int x9, .int (nI 1)] w1 = some (some (.int f2), w2)) : zd scr 91 177 [some (.ref a0), some (.int x1), some (.int x2), some (.int x3), some (.int x4), some (.int x5), some (.int x6), some (.int x7), some (.int x8), some (.int x9), some (.int x10), some (.int x11), v12, v13, v14] [.int y0] w = if (f1 - f2) < 0 then zd scr 91 207 [some (.ref a0), some (.int x1), some (.int x2), some (.int x3), some (.int x4), some (.int x5), some (.int x6), some (.int x7), some (.int x8), some (.int x9), some (.int x10), some (.int x11), some (.int (y0 - (nI 0))), some (.int (f1 - f2)), v14] [] w2 else zd scr 91 213 [some (.ref a0), some (.int x1), some (.int x2), some (.int x3), some (.int x4), some (.int x5), some (.int x6), some (.int x7), some (.int x8), some (.int x9), some (.int x10), some (.int x11), some (.int (y0 - (nI 0))), some (.int (f1 - f2)), v14] [] w2 := by
  refine Eq.trans (zd_iconst zh91 (v := (nI 0)) rfl rfl) ?_
  refine Eq.trans (zd_isub zh91 rfl) ?_
  refine Eq.trans (zd_istore zh91 (ls' := [some (.ref a0), some (.int x1), some (.int x2), some (.int x3), some (.int x4), some (.int x5), some (.int x6), some (.int x7), some (.int x8), some (.int x9), some (.int x10), some (.int x11), some (.int (y0 - (nI 0))), v13, v14]) (Nat.le_of_ble_eq_true rfl) rfl rfl) ?_
  refine Eq.trans (zd_aload_n zh91 rfl rfl) ?_
  refine Eq.trans (zd_iload zh91 rfl rfl) ?_
  refine Eq.trans (zd_iload zh91 rfl rfl) ?_
  refine Eq.trans (zd_iconst zh91 (v := (nI 1)) rfl rfl) ?_
  refine Eq.trans (zd_invVi zh91 zh65 rfl rfl ⟨Nat.le_of_ble_eq_true rfl, Nat.le_of_ble_eq_true rfl, Nat.le_of_ble_eq_true rfl, Nat.le_of_ble_eq_true rfl⟩ rfl h1 h2 rfl) ?_
  refine Eq.trans (zd_aload_n zh91 rfl rfl) ?_
  refine Eq.trans (zd_iload zh91 rfl rfl) ?_
  refine Eq.trans (zd_iload zh91 rfl rfl) ?_
  refine Eq.trans (zd_iconst zh91 (v := (nI 1)) rfl rfl) ?_
  refine Eq.trans (zd_invVi zh91 zh65 rfl rfl ⟨Nat.le_of_ble_eq_true rfl, Nat.le_of_ble_eq_true rfl, Nat.le_of_ble_eq_true rfl, Nat.le_of_ble_eq_true rfl⟩ rfl h3 h4 rfl) ?_
  refine Eq.trans (zd_isub zh91 rfl) ?_
  refine Eq.trans (zd_istore zh91 (ls' := [some (.ref a0), some (.int x1), some (.int x2), some (.int x3), some (.int x4), some (.int x5), some (.int x6), some (.int x7), some (.int x8), some (.int x9), some (.int x10), some (.int x11), some (.int (y0 - (nI 0))), some (.int (f1 - f2)), v14]) (Nat.le_of_ble_eq_true rfl) rfl rfl) ?_
  refine Eq.trans (zd_iload zh91 rfl rfl) ?_
  exact zd_ifge zh91 (t := 213) (by decide) rfl
set_option maxRecDepth 20000 in
theorem b91_207 {scr : List Int32} {w : zAW} {a0 : Nat} {x1 : Int32} {x2 : Int32} {x3 : Int32} {x4 : Int32} {x5 : Int32} {x6 : Int32} {x7 : Int32} {x8 : Int32} {x9 : Int32} {x10 : Int32} {x11 : Int32} {x12 : Int32} {x13 : Int32} {v14 : Option Value}  : zd scr 91 207 [some (.ref a0), some (.int x1), some (.int x2), some (.int x3), some (.int x4), some (.int x5), some (.int x6), some (.int x7), some (.int x8), some (.int x9), some (.int x10), some (.int x11), some (.int x12), some (.int x13), v14] [] w = if 0 < x12 then zd scr 91 222 [some (.ref a0), some (.int x1), some (.int x2), some (.int x3), some (.int x4), some (.int x5), some (.int x6), some (.int x7), some (.int x8), some (.int x9), some (.int x10), some (.int x11), some (.int x12), some (.int (-x13)), v14] [] w else zd scr 91 264 [some (.ref a0), some (.int x1), some (.int x2), some (.int x3), some (.int x4), some (.int x5), some (.int x6), some (.int x7), some (.int x8), some (.int x9), some (.int x10), some (.int x11), some (.int x12), some (.int (-x13)), v14] [] w := by
  refine Eq.trans (zd_iload zh91 rfl rfl) ?_
  refine Eq.trans (zd_ineg zh91 rfl) ?_
  refine Eq.trans (zd_goto zh91 (t := 215) (by decide) rfl) ?_
  refine Eq.trans (zd_istore zh91 (ls' := [some (.ref a0), some (.int x1), some (.int x2), some (.int x3), some (.int x4), some (.int x5), some (.int x6), some (.int x7), some (.int x8), some (.int x9), some (.int x10), some (.int x11), some (.int x12), some (.int (-x13)), v14]) (Nat.le_of_ble_eq_true rfl) rfl rfl) ?_
  refine Eq.trans (zd_iload zh91 rfl rfl) ?_
  exact zd_ifle zh91 (t := 264) (by decide) rfl
set_option maxRecDepth 20000 in
theorem b91_213 {scr : List Int32} {w : zAW} {a0 : Nat} {x1 : Int32} {x2 : Int32} {x3 : Int32} {x4 : Int32} {x5 : Int32} {x6 : Int32} {x7 : Int32} {x8 : Int32} {x9 : Int32} {x10 : Int32} {x11 : Int32} {x12 : Int32} {x13 : Int32} {v14 : Option Value}  : zd scr 91 213 [some (.ref a0), some (.int x1), some (.int x2), some (.int x3), some (.int x4), some (.int x5), some (.int x6), some (.int x7), some (.int x8), some (.int x9), some (.int x10), some (.int x11), some (.int x12), some (.int x13), v14] [] w = if 0 < x12 then zd scr 91 222 [some (.ref a0), some (.int x1), some (.int x2), some (.int x3), some (.int x4), some (.int x5), some (.int x6), some (.int x7), some (.int x8), some (.int x9), some (.int x10), some (.int x11), some (.int x12), some (.int x13), v14] [] w else zd scr 91 264 [some (.ref a0), some (.int x1), some (.int x2), some (.int x3), some (.int x4), some (.int x5), some (.int x6), some (.int x7), some (.int x8), some (.int x9), some (.int x10), some (.int x11), some (.int x12), some (.int x13), v14] [] w := by
  refine Eq.trans (zd_iload zh91 rfl rfl) ?_
  refine Eq.trans (zd_istore zh91 (ls' := [some (.ref a0), some (.int x1), some (.int x2), some (.int x3), some (.int x4), some (.int x5), some (.int x6), some (.int x7), some (.int x8), some (.int x9), some (.int x10), some (.int x11), some (.int x12), some (.int x13), v14]) (Nat.le_of_ble_eq_true rfl) rfl rfl) ?_
  refine Eq.trans (zd_iload zh91 rfl rfl) ?_
  exact zd_ifle zh91 (t := 264) (by decide) rfl
set_option maxRecDepth 20000 in
theorem b91_222 {scr : List Int32} {w : zAW} {a0 : Nat} {x1 : Int32} {x2 : Int32} {x3 : Int32} {x4 : Int32} {x5 : Int32} {x6 : Int32} {x7 : Int32} {x8 : Int32} {x9 : Int32} {x10 : Int32} {x11 : Int32} {x12 : Int32} {x13 : Int32} {v14 : Option Value}  : zd scr 91 222 [some (.ref a0), some (.int x1), some (.int x2), some (.int x3), some (.int x4), some (.int x5), some (.int x6), some (.int x7), some (.int x8), some (.int x9), some (.int x10), some (.int x11), some (.int x12), some (.int x13), v14] [] w = if x12 ≤ x4 then zd scr 91 229 [some (.ref a0), some (.int x1), some (.int x2), some (.int x3), some (.int x4), some (.int x5), some (.int x6), some (.int x7), some (.int x8), some (.int x9), some (.int x10), some (.int x11), some (.int x12), some (.int x13), v14] [] w else zd scr 91 243 [some (.ref a0), some (.int x1), some (.int x2), some (.int x3), some (.int x4), some (.int x5), some (.int x6), some (.int x7), some (.int x8), some (.int x9), some (.int x10), some (.int x11), some (.int x12), some (.int x13), v14] [] w := by
  refine Eq.trans (zd_iload zh91 rfl rfl) ?_
  refine Eq.trans (zd_iload zh91 rfl rfl) ?_
  exact zd_icmpgt zh91 (t := 243) (by decide) rfl
set_option maxRecDepth 20000 in
theorem b91_264 {scr : List Int32} {w : zAW} {a0 : Nat} {x1 : Int32} {x2 : Int32} {x3 : Int32} {x4 : Int32} {x5 : Int32} {x6 : Int32} {x7 : Int32} {x8 : Int32} {x9 : Int32} {x10 : Int32} {x11 : Int32} {x12 : Int32} {x13 : Int32} {v14 : Option Value}  : zd scr 91 264 [some (.ref a0), some (.int x1), some (.int x2), some (.int x3), some (.int x4), some (.int x5), some (.int x6), some (.int x7), some (.int x8), some (.int x9), some (.int x10), some (.int x11), some (.int x12), some (.int x13), v14] [] w = if (nI 0) = 0 then zd scr 91 296 [some (.ref a0), some (.int x1), some (.int x2), some (.int x3), some (.int x4), some (.int x5), some (.int x6), some (.int x7), some (.int x8), some (.int x9), some (.int x10), some (.int x11), some (.int x12), some (.int x13), some (.int (nI 0))] [] w else zd scr 91 272 [some (.ref a0), some (.int x1), some (.int x2), some (.int x3), some (.int x4), some (.int x5), some (.int x6), some (.int x7), some (.int x8), some (.int x9), some (.int x10), some (.int x11), some (.int x12), some (.int x13), some (.int (nI 0))] [] w := by
  refine Eq.trans (zd_iconst zh91 (v := (nI 0)) rfl rfl) ?_
  refine Eq.trans (zd_istore zh91 (ls' := [some (.ref a0), some (.int x1), some (.int x2), some (.int x3), some (.int x4), some (.int x5), some (.int x6), some (.int x7), some (.int x8), some (.int x9), some (.int x10), some (.int x11), some (.int x12), some (.int x13), some (.int (nI 0))]) (Nat.le_of_ble_eq_true rfl) rfl rfl) ?_
  refine Eq.trans (zd_iload zh91 rfl rfl) ?_
  exact zd_ifeq zh91 (t := 296) (by decide) rfl
set_option maxRecDepth 20000 in
theorem b91_229 {scr : List Int32} {w : zAW} {a0 : Nat} {x1 : Int32} {x2 : Int32} {x3 : Int32} {x4 : Int32} {x5 : Int32} {x6 : Int32} {x7 : Int32} {x8 : Int32} {x9 : Int32} {x10 : Int32} {x11 : Int32} {x12 : Int32} {x13 : Int32} {v14 : Option Value}  : zd scr 91 229 [some (.ref a0), some (.int x1), some (.int x2), some (.int x3), some (.int x4), some (.int x5), some (.int x6), some (.int x7), some (.int x8), some (.int x9), some (.int x10), some (.int x11), some (.int x12), some (.int x13), v14] [] w = if x12 = x4 then zd scr 91 236 [some (.ref a0), some (.int x1), some (.int x2), some (.int x3), some (.int x4), some (.int x5), some (.int x6), some (.int x7), some (.int x8), some (.int x9), some (.int x10), some (.int x11), some (.int x12), some (.int x13), v14] [] w else zd scr 91 264 [some (.ref a0), some (.int x1), some (.int x2), some (.int x3), some (.int x4), some (.int x5), some (.int x6), some (.int x7), some (.int x8), some (.int x9), some (.int x10), some (.int x11), some (.int x12), some (.int x13), v14] [] w := by
  refine Eq.trans (zd_iload zh91 rfl rfl) ?_
  refine Eq.trans (zd_iload zh91 rfl rfl) ?_
  exact zd_icmpne zh91 (t := 264) (by decide) rfl
set_option maxRecDepth 20000 in
theorem b91_243 {scr : List Int32} {w : zAW} {a0 : Nat} {x1 : Int32} {x2 : Int32} {x3 : Int32} {x4 : Int32} {x5 : Int32} {x6 : Int32} {x7 : Int32} {x8 : Int32} {x9 : Int32} {x10 : Int32} {x11 : Int32} {x12 : Int32} {x13 : Int32} {v14 : Option Value} (h1 : zob w a0 5 = true) {f1 : Int32} {w1 : zAW} (h2 : zC scr 72 [.ref a0, .int x6, .int x7, .int x8, .int x9] w = some (some (.int f1), w1)) : zd scr 91 243 [some (.ref a0), some (.int x1), some (.int x2), some (.int x3), some (.int x4), some (.int x5), some (.int x6), some (.int x7), some (.int x8), some (.int x9), some (.int x10), some (.int x11), some (.int x12), some (.int x13), v14] [] w = if f1 = (-6) then zd scr 91 260 [some (.ref a0), some (.int x1), some (.int x2), some (.int x3), some (.int x4), some (.int x5), some (.int x6), some (.int x7), some (.int x8), some (.int x9), some (.int x10), some (.int x11), some (.int x12), some (.int x13), v14] [] w1 else zd scr 91 264 [some (.ref a0), some (.int x1), some (.int x2), some (.int x3), some (.int x4), some (.int x5), some (.int x6), some (.int x7), some (.int x8), some (.int x9), some (.int x10), some (.int x11), some (.int x12), some (.int x13), v14] [] w1 := by
  refine Eq.trans (zd_aload_n zh91 rfl rfl) ?_
  refine Eq.trans (zd_iload zh91 rfl rfl) ?_
  refine Eq.trans (zd_iload zh91 rfl rfl) ?_
  refine Eq.trans (zd_iload zh91 rfl rfl) ?_
  refine Eq.trans (zd_iload zh91 rfl rfl) ?_
  refine Eq.trans (zd_invVi zh91 zh72 rfl rfl ⟨Nat.le_of_ble_eq_true rfl, Nat.le_of_ble_eq_true rfl, Nat.le_of_ble_eq_true rfl, Nat.le_of_ble_eq_true rfl⟩ rfl h1 h2 rfl) ?_
  refine Eq.trans (zd_bipush zh91 (v := (-6)) rfl rfl) ?_
  exact zd_icmpne zh91 (t := 264) (by decide) rfl
set_option maxRecDepth 20000 in
theorem b91_296 {scr : List Int32} {w : zAW} {a0 : Nat} {x1 : Int32} {x2 : Int32} {x3 : Int32} {x4 : Int32} {x5 : Int32} {x6 : Int32} {x7 : Int32} {x8 : Int32} {x9 : Int32} {x10 : Int32} {x11 : Int32} {x12 : Int32} {x13 : Int32} {x14 : Int32}  : zd scr 91 296 [some (.ref a0), some (.int x1), some (.int x2), some (.int x3), some (.int x4), some (.int x5), some (.int x6), some (.int x7), some (.int x8), some (.int x9), some (.int x10), some (.int x11), some (.int x12), some (.int x13), some (.int x14)] [] w = if x14 = 0 then zd scr 91 308 [some (.ref a0), some (.int x1), some (.int x2), some (.int x3), some (.int x4), some (.int x5), some (.int x6), some (.int x7), some (.int x8), some (.int x9), some (.int x10), some (.int x11), some (.int x12), some (.int x13), some (.int x14)] [] w else zd scr 91 303 [some (.ref a0), some (.int x1), some (.int x2), some (.int x3), some (.int x4), some (.int x5), some (.int x6), some (.int x7), some (.int x8), some (.int x9), some (.int x10), some (.int x11), some (.int x12), some (.int x13), some (.int x14)] [] w := by
  refine Eq.trans (zd_iload_n zh91 rfl rfl) ?_
  refine Eq.trans (zd_istore_n zh91 (ls' := [some (.ref a0), some (.int x1), some (.int x2), some (.int x3), some (.int x4), some (.int x5), some (.int x6), some (.int x7), some (.int x8), some (.int x9), some (.int x10), some (.int x11), some (.int x12), some (.int x13), some (.int x14)]) (Nat.le_of_ble_eq_true rfl) rfl rfl) ?_
  refine Eq.trans (zd_iload zh91 rfl rfl) ?_
  exact zd_ifeq zh91 (t := 308) (by decide) rfl
set_option maxRecDepth 20000 in
theorem b91_272 {scr : List Int32} {w : zAW} {a0 : Nat} {x1 : Int32} {x2 : Int32} {x3 : Int32} {x4 : Int32} {x5 : Int32} {x6 : Int32} {x7 : Int32} {x8 : Int32} {x9 : Int32} {x10 : Int32} {x11 : Int32} {x12 : Int32} {x13 : Int32} {x14 : Int32}  : zd scr 91 272 [some (.ref a0), some (.int x1), some (.int x2), some (.int x3), some (.int x4), some (.int x5), some (.int x6), some (.int x7), some (.int x8), some (.int x9), some (.int x10), some (.int x11), some (.int x12), some (.int x13), some (.int x14)] [] w = if x14 = 0 then zd scr 91 308 [some (.ref a0), some (.int x1), some (.int x2), some (.int (((((nI 729) * x6) + ((nI 81) * x7)) + ((nI 9) * x8)) + x9)), some (.int x4), some (.int x5), some (.int x6), some (.int x7), some (.int x8), some (.int x9), some (.int x10), some (.int x11), some (.int x12), some (.int x13), some (.int x14)] [] w else zd scr 91 303 [some (.ref a0), some (.int x1), some (.int x2), some (.int (((((nI 729) * x6) + ((nI 81) * x7)) + ((nI 9) * x8)) + x9)), some (.int x4), some (.int x5), some (.int x6), some (.int x7), some (.int x8), some (.int x9), some (.int x10), some (.int x11), some (.int x12), some (.int x13), some (.int x14)] [] w := by
  refine Eq.trans (zd_sipush zh91 (v := (nI 729)) rfl rfl) ?_
  refine Eq.trans (zd_iload zh91 rfl rfl) ?_
  refine Eq.trans (zd_imul zh91 rfl) ?_
  refine Eq.trans (zd_bipush zh91 (v := (nI 81)) rfl rfl) ?_
  refine Eq.trans (zd_iload zh91 rfl rfl) ?_
  refine Eq.trans (zd_imul zh91 rfl) ?_
  refine Eq.trans (zd_iadd zh91 rfl) ?_
  refine Eq.trans (zd_bipush zh91 (v := (nI 9)) rfl rfl) ?_
  refine Eq.trans (zd_iload zh91 rfl rfl) ?_
  refine Eq.trans (zd_imul zh91 rfl) ?_
  refine Eq.trans (zd_iadd zh91 rfl) ?_
  refine Eq.trans (zd_iload zh91 rfl rfl) ?_
  refine Eq.trans (zd_iadd zh91 rfl) ?_
  refine Eq.trans (zd_goto zh91 (t := 297) (by decide) rfl) ?_
  refine Eq.trans (zd_istore_n zh91 (ls' := [some (.ref a0), some (.int x1), some (.int x2), some (.int (((((nI 729) * x6) + ((nI 81) * x7)) + ((nI 9) * x8)) + x9)), some (.int x4), some (.int x5), some (.int x6), some (.int x7), some (.int x8), some (.int x9), some (.int x10), some (.int x11), some (.int x12), some (.int x13), some (.int x14)]) (Nat.le_of_ble_eq_true rfl) rfl rfl) ?_
  refine Eq.trans (zd_iload zh91 rfl rfl) ?_
  exact zd_ifeq zh91 (t := 308) (by decide) rfl
set_option maxRecDepth 20000 in
theorem b91_236 {scr : List Int32} {w : zAW} {a0 : Nat} {x1 : Int32} {x2 : Int32} {x3 : Int32} {x4 : Int32} {x5 : Int32} {x6 : Int32} {x7 : Int32} {x8 : Int32} {x9 : Int32} {x10 : Int32} {x11 : Int32} {x12 : Int32} {x13 : Int32} {v14 : Option Value}  : zd scr 91 236 [some (.ref a0), some (.int x1), some (.int x2), some (.int x3), some (.int x4), some (.int x5), some (.int x6), some (.int x7), some (.int x8), some (.int x9), some (.int x10), some (.int x11), some (.int x12), some (.int x13), v14] [] w = if x13 < x5 then zd scr 91 243 [some (.ref a0), some (.int x1), some (.int x2), some (.int x3), some (.int x4), some (.int x5), some (.int x6), some (.int x7), some (.int x8), some (.int x9), some (.int x10), some (.int x11), some (.int x12), some (.int x13), v14] [] w else zd scr 91 264 [some (.ref a0), some (.int x1), some (.int x2), some (.int x3), some (.int x4), some (.int x5), some (.int x6), some (.int x7), some (.int x8), some (.int x9), some (.int x10), some (.int x11), some (.int x12), some (.int x13), v14] [] w := by
  refine Eq.trans (zd_iload zh91 rfl rfl) ?_
  refine Eq.trans (zd_iload zh91 rfl rfl) ?_
  exact zd_icmpge zh91 (t := 264) (by decide) rfl
set_option maxRecDepth 20000 in
theorem b91_260 {scr : List Int32} {w : zAW} {a0 : Nat} {x1 : Int32} {x2 : Int32} {x3 : Int32} {x4 : Int32} {x5 : Int32} {x6 : Int32} {x7 : Int32} {x8 : Int32} {x9 : Int32} {x10 : Int32} {x11 : Int32} {x12 : Int32} {x13 : Int32} {v14 : Option Value}  : zd scr 91 260 [some (.ref a0), some (.int x1), some (.int x2), some (.int x3), some (.int x4), some (.int x5), some (.int x6), some (.int x7), some (.int x8), some (.int x9), some (.int x10), some (.int x11), some (.int x12), some (.int x13), v14] [] w = if (nI 1) = 0 then zd scr 91 296 [some (.ref a0), some (.int x1), some (.int x2), some (.int x3), some (.int x4), some (.int x5), some (.int x6), some (.int x7), some (.int x8), some (.int x9), some (.int x10), some (.int x11), some (.int x12), some (.int x13), some (.int (nI 1))] [] w else zd scr 91 272 [some (.ref a0), some (.int x1), some (.int x2), some (.int x3), some (.int x4), some (.int x5), some (.int x6), some (.int x7), some (.int x8), some (.int x9), some (.int x10), some (.int x11), some (.int x12), some (.int x13), some (.int (nI 1))] [] w := by
  refine Eq.trans (zd_iconst zh91 (v := (nI 1)) rfl rfl) ?_
  refine Eq.trans (zd_goto zh91 (t := 265) (by decide) rfl) ?_
  refine Eq.trans (zd_istore zh91 (ls' := [some (.ref a0), some (.int x1), some (.int x2), some (.int x3), some (.int x4), some (.int x5), some (.int x6), some (.int x7), some (.int x8), some (.int x9), some (.int x10), some (.int x11), some (.int x12), some (.int x13), some (.int (nI 1))]) (Nat.le_of_ble_eq_true rfl) rfl rfl) ?_
  refine Eq.trans (zd_iload zh91 rfl rfl) ?_
  exact zd_ifeq zh91 (t := 296) (by decide) rfl
set_option maxRecDepth 20000 in
theorem b91_308 {scr : List Int32} {w : zAW} {a0 : Nat} {x1 : Int32} {x2 : Int32} {x3 : Int32} {x4 : Int32} {x5 : Int32} {x6 : Int32} {x7 : Int32} {x8 : Int32} {x9 : Int32} {x10 : Int32} {x11 : Int32} {x12 : Int32} {x13 : Int32} {x14 : Int32}  : zd scr 91 308 [some (.ref a0), some (.int x1), some (.int x2), some (.int x3), some (.int x4), some (.int x5), some (.int x6), some (.int x7), some (.int x8), some (.int x9), some (.int x10), some (.int x11), some (.int x12), some (.int x13), some (.int x14)] [] w = if x14 = 0 then zd scr 91 322 [some (.ref a0), some (.int x1), some (.int x2), some (.int x3), some (.int x4), some (.int x5), some (.int x6), some (.int x7), some (.int x8), some (.int x9), some (.int x10), some (.int x11), some (.int x12), some (.int x13), some (.int x14)] [] w else zd scr 91 317 [some (.ref a0), some (.int x1), some (.int x2), some (.int x3), some (.int x4), some (.int x5), some (.int x6), some (.int x7), some (.int x8), some (.int x9), some (.int x10), some (.int x11), some (.int x12), some (.int x13), some (.int x14)] [] w := by
  refine Eq.trans (zd_iload zh91 rfl rfl) ?_
  refine Eq.trans (zd_istore zh91 (ls' := [some (.ref a0), some (.int x1), some (.int x2), some (.int x3), some (.int x4), some (.int x5), some (.int x6), some (.int x7), some (.int x8), some (.int x9), some (.int x10), some (.int x11), some (.int x12), some (.int x13), some (.int x14)]) (Nat.le_of_ble_eq_true rfl) rfl rfl) ?_
  refine Eq.trans (zd_iload zh91 rfl rfl) ?_
  exact zd_ifeq zh91 (t := 322) (by decide) rfl
set_option maxRecDepth 20000 in
theorem b91_303 {scr : List Int32} {w : zAW} {a0 : Nat} {x1 : Int32} {x2 : Int32} {x3 : Int32} {x4 : Int32} {x5 : Int32} {x6 : Int32} {x7 : Int32} {x8 : Int32} {x9 : Int32} {x10 : Int32} {x11 : Int32} {x12 : Int32} {x13 : Int32} {x14 : Int32}  : zd scr 91 303 [some (.ref a0), some (.int x1), some (.int x2), some (.int x3), some (.int x4), some (.int x5), some (.int x6), some (.int x7), some (.int x8), some (.int x9), some (.int x10), some (.int x11), some (.int x12), some (.int x13), some (.int x14)] [] w = if x14 = 0 then zd scr 91 322 [some (.ref a0), some (.int x1), some (.int x2), some (.int x3), some (.int x4), some (.int x13), some (.int x6), some (.int x7), some (.int x8), some (.int x9), some (.int x10), some (.int x11), some (.int x12), some (.int x13), some (.int x14)] [] w else zd scr 91 317 [some (.ref a0), some (.int x1), some (.int x2), some (.int x3), some (.int x4), some (.int x13), some (.int x6), some (.int x7), some (.int x8), some (.int x9), some (.int x10), some (.int x11), some (.int x12), some (.int x13), some (.int x14)] [] w := by
  refine Eq.trans (zd_iload zh91 rfl rfl) ?_
  refine Eq.trans (zd_goto zh91 (t := 310) (by decide) rfl) ?_
  refine Eq.trans (zd_istore zh91 (ls' := [some (.ref a0), some (.int x1), some (.int x2), some (.int x3), some (.int x4), some (.int x13), some (.int x6), some (.int x7), some (.int x8), some (.int x9), some (.int x10), some (.int x11), some (.int x12), some (.int x13), some (.int x14)]) (Nat.le_of_ble_eq_true rfl) rfl rfl) ?_
  refine Eq.trans (zd_iload zh91 rfl rfl) ?_
  exact zd_ifeq zh91 (t := 322) (by decide) rfl
set_option maxRecDepth 20000 in
theorem b91_322 {scr : List Int32} {w : zAW} {a0 : Nat} {x1 : Int32} {x2 : Int32} {x3 : Int32} {x4 : Int32} {x5 : Int32} {x6 : Int32} {x7 : Int32} {x8 : Int32} {x9 : Int32} {x10 : Int32} {x11 : Int32} {x12 : Int32} {x13 : Int32} {x14 : Int32}  : zd scr 91 322 [some (.ref a0), some (.int x1), some (.int x2), some (.int x3), some (.int x4), some (.int x5), some (.int x6), some (.int x7), some (.int x8), some (.int x9), some (.int x10), some (.int x11), some (.int x12), some (.int x13), some (.int x14)] [] w = zd scr 91 67 [some (.ref a0), some (.int x1), some (.int x2), some (.int x3), some (.int x4), some (.int x5), some (.int x6), some (.int x7), some (.int x8), some (.int (x9 + (nI 1))), some (.int x10), some (.int x11), some (.int x12), some (.int x13), some (.int x14)] [] w := by
  refine Eq.trans (zd_iload zh91 rfl rfl) ?_
  refine Eq.trans (zd_istore zh91 (ls' := [some (.ref a0), some (.int x1), some (.int x2), some (.int x3), some (.int x4), some (.int x5), some (.int x6), some (.int x7), some (.int x8), some (.int x9), some (.int x10), some (.int x11), some (.int x12), some (.int x13), some (.int x14)]) (Nat.le_of_ble_eq_true rfl) rfl rfl) ?_
  refine Eq.trans (zd_iinc zh91 (ls' := [some (.ref a0), some (.int x1), some (.int x2), some (.int x3), some (.int x4), some (.int x5), some (.int x6), some (.int x7), some (.int x8), some (.int (x9 + (nI 1))), some (.int x10), some (.int x11), some (.int x12), some (.int x13), some (.int x14)]) (v := (x9 + (nI 1))) rfl rfl rfl rfl) ?_
  refine Eq.trans (zd_goto zh91 (t := 67) (by decide) rfl) ?_
  exact rfl
set_option maxRecDepth 20000 in
theorem b91_317 {scr : List Int32} {w : zAW} {a0 : Nat} {x1 : Int32} {x2 : Int32} {x3 : Int32} {x4 : Int32} {x5 : Int32} {x6 : Int32} {x7 : Int32} {x8 : Int32} {x9 : Int32} {x10 : Int32} {x11 : Int32} {x12 : Int32} {x13 : Int32} {x14 : Int32}  : zd scr 91 317 [some (.ref a0), some (.int x1), some (.int x2), some (.int x3), some (.int x4), some (.int x5), some (.int x6), some (.int x7), some (.int x8), some (.int x9), some (.int x10), some (.int x11), some (.int x12), some (.int x13), some (.int x14)] [] w = zd scr 91 67 [some (.ref a0), some (.int x1), some (.int x2), some (.int x3), some (.int x12), some (.int x5), some (.int x6), some (.int x7), some (.int x8), some (.int (x9 + (nI 1))), some (.int x10), some (.int x11), some (.int x12), some (.int x13), some (.int x14)] [] w := by
  refine Eq.trans (zd_iload zh91 rfl rfl) ?_
  refine Eq.trans (zd_goto zh91 (t := 324) (by decide) rfl) ?_
  refine Eq.trans (zd_istore zh91 (ls' := [some (.ref a0), some (.int x1), some (.int x2), some (.int x3), some (.int x12), some (.int x5), some (.int x6), some (.int x7), some (.int x8), some (.int x9), some (.int x10), some (.int x11), some (.int x12), some (.int x13), some (.int x14)]) (Nat.le_of_ble_eq_true rfl) rfl rfl) ?_
  refine Eq.trans (zd_iinc zh91 (ls' := [some (.ref a0), some (.int x1), some (.int x2), some (.int x3), some (.int x12), some (.int x5), some (.int x6), some (.int x7), some (.int x8), some (.int (x9 + (nI 1))), some (.int x10), some (.int x11), some (.int x12), some (.int x13), some (.int x14)]) (v := (x9 + (nI 1))) rfl rfl rfl rfl) ?_
  refine Eq.trans (zd_goto zh91 (t := 67) (by decide) rfl) ?_
  exact rfl
/-! yL_isFair: 92, MarbleHeirsLaw.isFair(LMarbleHeirs;)Z -/
set_option maxRecDepth 20000 in
theorem b92_0 {scr : List Int32} {w : zAW} {a0 : Nat} (h1 : zob w a0 5 = true) {f1 : Int32} {w1 : zAW} (h2 : zC scr 71 [.ref a0] w = some (some (.int f1), w1)) : zd scr 92 0 [some (.ref a0), none, none, none, none, none] [] w = zd scr 92 16 [some (.ref a0), some (.int f1), some (.int (-6)), some (.int (nI 0)), some (.int (nI 1)), some (.int (nI 0))] [] w1 := by
  refine Eq.trans (zd_aload_n zh92 rfl rfl) ?_
  refine Eq.trans (zd_invVi zh92 zh71 rfl rfl ⟨Nat.le_of_ble_eq_true rfl, Nat.le_of_ble_eq_true rfl, Nat.le_of_ble_eq_true rfl, Nat.le_of_ble_eq_true rfl⟩ rfl h1 h2 rfl) ?_
  refine Eq.trans (zd_istore_n zh92 (ls' := [some (.ref a0), some (.int f1), none, none, none, none]) (Nat.le_of_ble_eq_true rfl) rfl rfl) ?_
  refine Eq.trans (zd_bipush zh92 (v := (-6)) rfl rfl) ?_
  refine Eq.trans (zd_istore_n zh92 (ls' := [some (.ref a0), some (.int f1), some (.int (-6)), none, none, none]) (Nat.le_of_ble_eq_true rfl) rfl rfl) ?_
  refine Eq.trans (zd_iconst zh92 (v := (nI 0)) rfl rfl) ?_
  refine Eq.trans (zd_istore_n zh92 (ls' := [some (.ref a0), some (.int f1), some (.int (-6)), some (.int (nI 0)), none, none]) (Nat.le_of_ble_eq_true rfl) rfl rfl) ?_
  refine Eq.trans (zd_iconst zh92 (v := (nI 1)) rfl rfl) ?_
  refine Eq.trans (zd_istore zh92 (ls' := [some (.ref a0), some (.int f1), some (.int (-6)), some (.int (nI 0)), some (.int (nI 1)), none]) (Nat.le_of_ble_eq_true rfl) rfl rfl) ?_
  refine Eq.trans (zd_iconst zh92 (v := (nI 0)) rfl rfl) ?_
  refine Eq.trans (zd_istore zh92 (ls' := [some (.ref a0), some (.int f1), some (.int (-6)), some (.int (nI 0)), some (.int (nI 1)), some (.int (nI 0))]) (Nat.le_of_ble_eq_true rfl) rfl rfl) ?_
  exact rfl
set_option maxRecDepth 20000 in
theorem b92_16 {scr : List Int32} {w : zAW} {a0 : Nat} {x1 : Int32} {x2 : Int32} {x3 : Int32} {x4 : Int32} {x5 : Int32}  : zd scr 92 16 [some (.ref a0), some (.int x1), some (.int x2), some (.int x3), some (.int x4), some (.int x5)] [] w = if x5 < (nI 3) then zd scr 92 22 [some (.ref a0), some (.int x1), some (.int x2), some (.int x3), some (.int x4), some (.int x5)] [] w else zd scr 92 138 [some (.ref a0), some (.int x1), some (.int x2), some (.int x3), some (.int x4), some (.int x5)] [] w := by
  refine Eq.trans (zd_iload zh92 rfl rfl) ?_
  refine Eq.trans (zd_iconst zh92 (v := (nI 3)) rfl rfl) ?_
  exact zd_icmpge zh92 (t := 138) (by decide) rfl
set_option maxRecDepth 20000 in
theorem b92_22 {scr : List Int32} {w : zAW} {a0 : Nat} {x1 : Int32} {x2 : Int32} {x3 : Int32} {x4 : Int32} {x5 : Int32}  : zd scr 92 22 [some (.ref a0), some (.int x1), some (.int x2), some (.int x3), some (.int x4), some (.int x5)] [] w = if x4 = 0 then zd scr 92 138 [some (.ref a0), some (.int x1), some (.int x2), some (.int x3), some (.int x4), some (.int x5)] [] w else zd scr 92 27 [some (.ref a0), some (.int x1), some (.int x2), some (.int x3), some (.int x4), some (.int x5)] [] w := by
  refine Eq.trans (zd_iload zh92 rfl rfl) ?_
  exact zd_ifeq zh92 (t := 138) (by decide) rfl
set_option maxRecDepth 20000 in
theorem b92_138 {scr : List Int32} {w : zAW} {a0 : Nat} {x1 : Int32} {x2 : Int32} {x3 : Int32} {x4 : Int32} {x5 : Int32}  : zd scr 92 138 [some (.ref a0), some (.int x1), some (.int x2), some (.int x3), some (.int x4), some (.int x5)] [] w = if x4 = 0 then zd scr 92 152 [some (.ref a0), some (.int x1), some (.int x2), some (.int x3), some (.int x4), some (.int x5)] [] w else zd scr 92 143 [some (.ref a0), some (.int x1), some (.int x2), some (.int x3), some (.int x4), some (.int x5)] [] w := by
  refine Eq.trans (zd_iload zh92 rfl rfl) ?_
  exact zd_ifeq zh92 (t := 152) (by decide) rfl
set_option maxRecDepth 20000 in
theorem b92_27 {scr : List Int32} {w : zAW} {a0 : Nat} {x1 : Int32} {x2 : Int32} {x3 : Int32} {x4 : Int32} {x5 : Int32} (h1 : zob w a0 5 = true) {f1 : Int32} {w1 : zAW} (h2 : zC scr 69 [.ref a0, .int (nI 0)] w = some (some (.int f1), w1)) : zd scr 92 27 [some (.ref a0), some (.int x1), some (.int x2), some (.int x3), some (.int x4), some (.int x5)] [] w = if 0 < f1 then zd scr 92 35 [some (.ref a0), some (.int x1), some (.int x2), some (.int x3), some (.int x4), some (.int x5)] [] w1 else zd scr 92 138 [some (.ref a0), some (.int x1), some (.int x2), some (.int x3), some (.int x4), some (.int x5)] [] w1 := by
  refine Eq.trans (zd_aload_n zh92 rfl rfl) ?_
  refine Eq.trans (zd_iconst zh92 (v := (nI 0)) rfl rfl) ?_
  refine Eq.trans (zd_invVi zh92 zh69 rfl rfl ⟨Nat.le_of_ble_eq_true rfl, Nat.le_of_ble_eq_true rfl, Nat.le_of_ble_eq_true rfl, Nat.le_of_ble_eq_true rfl⟩ rfl h1 h2 rfl) ?_
  exact zd_ifle zh92 (t := 138) (by decide) rfl
set_option maxRecDepth 20000 in
theorem b92_152 {scr : List Int32} {w : zAW} {a0 : Nat} {x1 : Int32} {x2 : Int32} {x3 : Int32} {x4 : Int32} {x5 : Int32}  : zd scr 92 152 [some (.ref a0), some (.int x1), some (.int x2), some (.int x3), some (.int x4), some (.int x5)] [] w = some (some (.int (nI 0)), w) := by
  refine Eq.trans (zd_iconst zh92 (v := (nI 0)) rfl rfl) ?_
  exact zd_iret zh92 rfl rfl
set_option maxRecDepth 20000 in
theorem b92_143 {scr : List Int32} {w : zAW} {a0 : Nat} {x1 : Int32} {x2 : Int32} {x3 : Int32} {x4 : Int32} {x5 : Int32}  : zd scr 92 143 [some (.ref a0), some (.int x1), some (.int x2), some (.int x3), some (.int x4), some (.int x5)] [] w = if x1 = x2 then zd scr 92 148 [some (.ref a0), some (.int x1), some (.int x2), some (.int x3), some (.int x4), some (.int x5)] [] w else zd scr 92 152 [some (.ref a0), some (.int x1), some (.int x2), some (.int x3), some (.int x4), some (.int x5)] [] w := by
  refine Eq.trans (zd_iload_n zh92 rfl rfl) ?_
  refine Eq.trans (zd_iload_n zh92 rfl rfl) ?_
  exact zd_icmpne zh92 (t := 152) (by decide) rfl
set_option maxRecDepth 20000 in
theorem b92_35 {scr : List Int32} {w : zAW} {a0 : Nat} {x1 : Int32} {x2 : Int32} {x3 : Int32} {x4 : Int32} {x5 : Int32} (h1 : zob w a0 5 = true) {f1 : Int32} {w1 : zAW} (h2 : zC scr 56 [.ref a0, .int x5] w = some (some (.int f1), w1)) : zd scr 92 35 [some (.ref a0), some (.int x1), some (.int x2), some (.int x3), some (.int x4), some (.int x5)] [] w = if f1 < 0 then zd scr 92 55 [some (.ref a0), some (.int x1), some (.int x2), some (.int x3), some (.int x4), some (.int x5)] [] w1 else zd scr 92 44 [some (.ref a0), some (.int x1), some (.int x2), some (.int x3), some (.int x4), some (.int x5)] [] w1 := by
  refine Eq.trans (zd_aload_n zh92 rfl rfl) ?_
  refine Eq.trans (zd_iload zh92 rfl rfl) ?_
  refine Eq.trans (zd_invVi zh92 zh56 rfl rfl ⟨Nat.le_of_ble_eq_true rfl, Nat.le_of_ble_eq_true rfl, Nat.le_of_ble_eq_true rfl, Nat.le_of_ble_eq_true rfl⟩ rfl h1 h2 rfl) ?_
  exact zd_iflt zh92 (t := 55) (by decide) rfl
set_option maxRecDepth 20000 in
theorem b92_148 {scr : List Int32} {w : zAW} {a0 : Nat} {x1 : Int32} {x2 : Int32} {x3 : Int32} {x4 : Int32} {x5 : Int32}  : zd scr 92 148 [some (.ref a0), some (.int x1), some (.int x2), some (.int x3), some (.int x4), some (.int x5)] [] w = some (some (.int (nI 1)), w) := by
  refine Eq.trans (zd_iconst zh92 (v := (nI 1)) rfl rfl) ?_
  refine Eq.trans (zd_goto zh92 (t := 153) (by decide) rfl) ?_
  exact zd_iret zh92 rfl rfl
set_option maxRecDepth 20000 in
theorem b92_55 {scr : List Int32} {w : zAW} {a0 : Nat} {x1 : Int32} {x2 : Int32} {x3 : Int32} {x4 : Int32} {x5 : Int32}  : zd scr 92 55 [some (.ref a0), some (.int x1), some (.int x2), some (.int x3), some (.int x4), some (.int x5)] [] w = if x5 = 0 then zd scr 92 73 [some (.ref a0), some (.int x1), some (.int x2), some (.int x3), some (.int (nI 0)), some (.int x5)] [] w else zd scr 92 63 [some (.ref a0), some (.int x1), some (.int x2), some (.int x3), some (.int (nI 0)), some (.int x5)] [] w := by
  refine Eq.trans (zd_iconst zh92 (v := (nI 0)) rfl rfl) ?_
  refine Eq.trans (zd_istore zh92 (ls' := [some (.ref a0), some (.int x1), some (.int x2), some (.int x3), some (.int (nI 0)), some (.int x5)]) (Nat.le_of_ble_eq_true rfl) rfl rfl) ?_
  refine Eq.trans (zd_iload zh92 rfl rfl) ?_
  exact zd_ifeq zh92 (t := 73) (by decide) rfl
set_option maxRecDepth 20000 in
theorem b92_44 {scr : List Int32} {w : zAW} {a0 : Nat} {x1 : Int32} {x2 : Int32} {x3 : Int32} {x4 : Int32} {x5 : Int32} (h1 : zob w a0 5 = true) {f1 : Int32} {w1 : zAW} (h2 : zC scr 61 [.ref a0] w = some (some (.int f1), w1)) : zd scr 92 44 [some (.ref a0), some (.int x1), some (.int x2), some (.int x3), some (.int x4), some (.int x5)] [] w = if f1 < 0 then zd scr 92 55 [some (.ref a0), some (.int x1), some (.int x2), some (.int x3), some (.int x4), some (.int x5)] [] w1 else zd scr 92 51 [some (.ref a0), some (.int x1), some (.int x2), some (.int x3), some (.int x4), some (.int x5)] [] w1 := by
  refine Eq.trans (zd_aload_n zh92 rfl rfl) ?_
  refine Eq.trans (zd_invVi zh92 zh61 rfl rfl ⟨Nat.le_of_ble_eq_true rfl, Nat.le_of_ble_eq_true rfl, Nat.le_of_ble_eq_true rfl, Nat.le_of_ble_eq_true rfl⟩ rfl h1 h2 rfl) ?_
  exact zd_iflt zh92 (t := 55) (by decide) rfl
set_option maxRecDepth 20000 in
theorem b92_73 {scr : List Int32} {w : zAW} {a0 : Nat} {x1 : Int32} {x2 : Int32} {x3 : Int32} {x4 : Int32} {x5 : Int32}  : zd scr 92 73 [some (.ref a0), some (.int x1), some (.int x2), some (.int x3), some (.int x4), some (.int x5)] [] w = if x5 = 0 then zd scr 92 95 [some (.ref a0), some (.int x1), some (.int x5), some (.int x3), some (.int x4), some (.int x5)] [] w else zd scr 92 85 [some (.ref a0), some (.int x1), some (.int x5), some (.int x3), some (.int x4), some (.int x5)] [] w := by
  refine Eq.trans (zd_iload zh92 rfl rfl) ?_
  refine Eq.trans (zd_goto zh92 (t := 79) (by decide) rfl) ?_
  refine Eq.trans (zd_istore_n zh92 (ls' := [some (.ref a0), some (.int x1), some (.int x5), some (.int x3), some (.int x4), some (.int x5)]) (Nat.le_of_ble_eq_true rfl) rfl rfl) ?_
  refine Eq.trans (zd_iload zh92 rfl rfl) ?_
  exact zd_ifeq zh92 (t := 95) (by decide) rfl
set_option maxRecDepth 20000 in
theorem b92_63 {scr : List Int32} {w : zAW} {a0 : Nat} {x1 : Int32} {x2 : Int32} {x3 : Int32} {x4 : Int32} {x5 : Int32} (h1 : zob w a0 5 = true) {f1 : Int32} {w1 : zAW} (h2 : zC scr 69 [.ref a0, .int (nI 10)] w = some (some (.int f1), w1)) : zd scr 92 63 [some (.ref a0), some (.int x1), some (.int x2), some (.int x3), some (.int x4), some (.int x5)] [] w = if f1 < x3 then zd scr 92 73 [some (.ref a0), some (.int x1), some (.int x2), some (.int x3), some (.int x4), some (.int x5)] [] w1 else zd scr 92 78 [some (.ref a0), some (.int x1), some (.int x2), some (.int x3), some (.int x4), some (.int x5)] [] w1 := by
  refine Eq.trans (zd_aload_n zh92 rfl rfl) ?_
  refine Eq.trans (zd_bipush zh92 (v := (nI 10)) rfl rfl) ?_
  refine Eq.trans (zd_invVi zh92 zh69 rfl rfl ⟨Nat.le_of_ble_eq_true rfl, Nat.le_of_ble_eq_true rfl, Nat.le_of_ble_eq_true rfl, Nat.le_of_ble_eq_true rfl⟩ rfl h1 h2 rfl) ?_
  refine Eq.trans (zd_iload_n zh92 rfl rfl) ?_
  exact zd_icmpge zh92 (t := 78) (by decide) rfl
set_option maxRecDepth 20000 in
theorem b92_51 {scr : List Int32} {w : zAW} {a0 : Nat} {x1 : Int32} {x2 : Int32} {x3 : Int32} {x4 : Int32} {x5 : Int32}  : zd scr 92 51 [some (.ref a0), some (.int x1), some (.int x2), some (.int x3), some (.int x4), some (.int x5)] [] w = if x5 = 0 then zd scr 92 73 [some (.ref a0), some (.int x1), some (.int x2), some (.int x3), some (.int (nI 1)), some (.int x5)] [] w else zd scr 92 63 [some (.ref a0), some (.int x1), some (.int x2), some (.int x3), some (.int (nI 1)), some (.int x5)] [] w := by
  refine Eq.trans (zd_iconst zh92 (v := (nI 1)) rfl rfl) ?_
  refine Eq.trans (zd_goto zh92 (t := 56) (by decide) rfl) ?_
  refine Eq.trans (zd_istore zh92 (ls' := [some (.ref a0), some (.int x1), some (.int x2), some (.int x3), some (.int (nI 1)), some (.int x5)]) (Nat.le_of_ble_eq_true rfl) rfl rfl) ?_
  refine Eq.trans (zd_iload zh92 rfl rfl) ?_
  exact zd_ifeq zh92 (t := 73) (by decide) rfl
set_option maxRecDepth 20000 in
theorem b92_95 {scr : List Int32} {w : zAW} {a0 : Nat} {x1 : Int32} {x2 : Int32} {x3 : Int32} {x4 : Int32} {x5 : Int32} (h1 : zob w a0 5 = true) {f1 : Int32} {w1 : zAW} (h2 : zC scr 69 [.ref a0, .int (nI 10)] w = some (some (.int f1), w1)) : zd scr 92 95 [some (.ref a0), some (.int x1), some (.int x2), some (.int x3), some (.int x4), some (.int x5)] [] w = if x4 = 0 then zd scr 92 129 [some (.ref a0), some (.int x1), some (.int x2), some (.int f1), some (.int x4), some (.int x5)] [] w1 else zd scr 92 111 [some (.ref a0), some (.int x1), some (.int x2), some (.int f1), some (.int x4), some (.int x5)] [] w1 := by
  refine Eq.trans (zd_aload_n zh92 rfl rfl) ?_
  refine Eq.trans (zd_bipush zh92 (v := (nI 10)) rfl rfl) ?_
  refine Eq.trans (zd_invVi zh92 zh69 rfl rfl ⟨Nat.le_of_ble_eq_true rfl, Nat.le_of_ble_eq_true rfl, Nat.le_of_ble_eq_true rfl, Nat.le_of_ble_eq_true rfl⟩ rfl h1 h2 rfl) ?_
  refine Eq.trans (zd_goto zh92 (t := 105) (by decide) rfl) ?_
  refine Eq.trans (zd_istore_n zh92 (ls' := [some (.ref a0), some (.int x1), some (.int x2), some (.int f1), some (.int x4), some (.int x5)]) (Nat.le_of_ble_eq_true rfl) rfl rfl) ?_
  refine Eq.trans (zd_iload zh92 rfl rfl) ?_
  exact zd_ifeq zh92 (t := 129) (by decide) rfl
set_option maxRecDepth 20000 in
theorem b92_85 {scr : List Int32} {w : zAW} {a0 : Nat} {x1 : Int32} {x2 : Int32} {x3 : Int32} {x4 : Int32} {x5 : Int32} (h1 : zob w a0 5 = true) {f1 : Int32} {w1 : zAW} (h2 : zC scr 69 [.ref a0, .int (nI 10)] w = some (some (.int f1), w1)) : zd scr 92 85 [some (.ref a0), some (.int x1), some (.int x2), some (.int x3), some (.int x4), some (.int x5)] [] w = if f1 < x3 then zd scr 92 95 [some (.ref a0), some (.int x1), some (.int x2), some (.int x3), some (.int x4), some (.int x5)] [] w1 else zd scr 92 104 [some (.ref a0), some (.int x1), some (.int x2), some (.int x3), some (.int x4), some (.int x5)] [] w1 := by
  refine Eq.trans (zd_aload_n zh92 rfl rfl) ?_
  refine Eq.trans (zd_bipush zh92 (v := (nI 10)) rfl rfl) ?_
  refine Eq.trans (zd_invVi zh92 zh69 rfl rfl ⟨Nat.le_of_ble_eq_true rfl, Nat.le_of_ble_eq_true rfl, Nat.le_of_ble_eq_true rfl, Nat.le_of_ble_eq_true rfl⟩ rfl h1 h2 rfl) ?_
  refine Eq.trans (zd_iload_n zh92 rfl rfl) ?_
  exact zd_icmpge zh92 (t := 104) (by decide) rfl
set_option maxRecDepth 20000 in
theorem b92_78 {scr : List Int32} {w : zAW} {a0 : Nat} {x1 : Int32} {x2 : Int32} {x3 : Int32} {x4 : Int32} {x5 : Int32}  : zd scr 92 78 [some (.ref a0), some (.int x1), some (.int x2), some (.int x3), some (.int x4), some (.int x5)] [] w = if x5 = 0 then zd scr 92 95 [some (.ref a0), some (.int x1), some (.int x2), some (.int x3), some (.int x4), some (.int x5)] [] w else zd scr 92 85 [some (.ref a0), some (.int x1), some (.int x2), some (.int x3), some (.int x4), some (.int x5)] [] w := by
  refine Eq.trans (zd_iload_n zh92 rfl rfl) ?_
  refine Eq.trans (zd_istore_n zh92 (ls' := [some (.ref a0), some (.int x1), some (.int x2), some (.int x3), some (.int x4), some (.int x5)]) (Nat.le_of_ble_eq_true rfl) rfl rfl) ?_
  refine Eq.trans (zd_iload zh92 rfl rfl) ?_
  exact zd_ifeq zh92 (t := 95) (by decide) rfl
set_option maxRecDepth 20000 in
theorem b92_129 {scr : List Int32} {w : zAW} {a0 : Nat} {x1 : Int32} {x2 : Int32} {x3 : Int32} {x4 : Int32} {x5 : Int32}  : zd scr 92 129 [some (.ref a0), some (.int x1), some (.int x2), some (.int x3), some (.int x4), some (.int x5)] [] w = zd scr 92 16 [some (.ref a0), some (.int x1), some (.int x2), some (.int x3), some (.int (nI 0)), some (.int (x5 + (nI 1)))] [] w := by
  refine Eq.trans (zd_iconst zh92 (v := (nI 0)) rfl rfl) ?_
  refine Eq.trans (zd_istore zh92 (ls' := [some (.ref a0), some (.int x1), some (.int x2), some (.int x3), some (.int (nI 0)), some (.int x5)]) (Nat.le_of_ble_eq_true rfl) rfl rfl) ?_
  refine Eq.trans (zd_iinc zh92 (ls' := [some (.ref a0), some (.int x1), some (.int x2), some (.int x3), some (.int (nI 0)), some (.int (x5 + (nI 1)))]) (v := (x5 + (nI 1))) rfl rfl rfl rfl) ?_
  refine Eq.trans (zd_goto zh92 (t := 16) (by decide) rfl) ?_
  exact rfl
set_option maxRecDepth 20000 in
theorem b92_111 {scr : List Int32} {w : zAW} {a0 : Nat} {x1 : Int32} {x2 : Int32} {x3 : Int32} {x4 : Int32} {x5 : Int32} (h1 : zob w a0 5 = true) {f1 : Int32} {w1 : zAW} (h2 : zC scr 78 [.ref a0] w = some (some (.int f1), w1)) : zd scr 92 111 [some (.ref a0), some (.int x1), some (.int x2), some (.int x3), some (.int x4), some (.int x5)] [] w = if f1 < 0 then zd scr 92 129 [some (.ref a0), some (.int x1), some (.int x2), some (.int x3), some (.int x4), some (.int x5)] [] w1 else zd scr 92 118 [some (.ref a0), some (.int x1), some (.int x2), some (.int x3), some (.int x4), some (.int x5)] [] w1 := by
  refine Eq.trans (zd_aload_n zh92 rfl rfl) ?_
  refine Eq.trans (zd_invVi zh92 zh78 rfl rfl ⟨Nat.le_of_ble_eq_true rfl, Nat.le_of_ble_eq_true rfl, Nat.le_of_ble_eq_true rfl, Nat.le_of_ble_eq_true rfl⟩ rfl h1 h2 rfl) ?_
  exact zd_iflt zh92 (t := 129) (by decide) rfl
set_option maxRecDepth 20000 in
theorem b92_104 {scr : List Int32} {w : zAW} {a0 : Nat} {x1 : Int32} {x2 : Int32} {x3 : Int32} {x4 : Int32} {x5 : Int32}  : zd scr 92 104 [some (.ref a0), some (.int x1), some (.int x2), some (.int x3), some (.int x4), some (.int x5)] [] w = if x4 = 0 then zd scr 92 129 [some (.ref a0), some (.int x1), some (.int x2), some (.int x3), some (.int x4), some (.int x5)] [] w else zd scr 92 111 [some (.ref a0), some (.int x1), some (.int x2), some (.int x3), some (.int x4), some (.int x5)] [] w := by
  refine Eq.trans (zd_iload_n zh92 rfl rfl) ?_
  refine Eq.trans (zd_istore_n zh92 (ls' := [some (.ref a0), some (.int x1), some (.int x2), some (.int x3), some (.int x4), some (.int x5)]) (Nat.le_of_ble_eq_true rfl) rfl rfl) ?_
  refine Eq.trans (zd_iload zh92 rfl rfl) ?_
  exact zd_ifeq zh92 (t := 129) (by decide) rfl
set_option maxRecDepth 20000 in
theorem b92_118 {scr : List Int32} {w : zAW} {a0 : Nat} {x1 : Int32} {x2 : Int32} {x3 : Int32} {x4 : Int32} {x5 : Int32} (h1 : zob w a0 5 = true) {f1 : Int32} {w1 : zAW} (h2 : zC scr 78 [.ref a0] w = some (some (.int f1), w1)) : zd scr 92 118 [some (.ref a0), some (.int x1), some (.int x2), some (.int x3), some (.int x4), some (.int x5)] [] w = if f1 < 0 then zd scr 92 129 [some (.ref a0), some (.int x1), some (.int x2), some (.int x3), some (.int x4), some (.int x5)] [] w1 else zd scr 92 125 [some (.ref a0), some (.int x1), some (.int x2), some (.int x3), some (.int x4), some (.int x5)] [] w1 := by
  refine Eq.trans (zd_aload_n zh92 rfl rfl) ?_
  refine Eq.trans (zd_invVi zh92 zh78 rfl rfl ⟨Nat.le_of_ble_eq_true rfl, Nat.le_of_ble_eq_true rfl, Nat.le_of_ble_eq_true rfl, Nat.le_of_ble_eq_true rfl⟩ rfl h1 h2 rfl) ?_
  exact zd_iflt zh92 (t := 129) (by decide) rfl
set_option maxRecDepth 20000 in
theorem b92_125 {scr : List Int32} {w : zAW} {a0 : Nat} {x1 : Int32} {x2 : Int32} {x3 : Int32} {x4 : Int32} {x5 : Int32}  : zd scr 92 125 [some (.ref a0), some (.int x1), some (.int x2), some (.int x3), some (.int x4), some (.int x5)] [] w = zd scr 92 16 [some (.ref a0), some (.int x1), some (.int x2), some (.int x3), some (.int (nI 1)), some (.int (x5 + (nI 1)))] [] w := by
  refine Eq.trans (zd_iconst zh92 (v := (nI 1)) rfl rfl) ?_
  refine Eq.trans (zd_goto zh92 (t := 130) (by decide) rfl) ?_
  refine Eq.trans (zd_istore zh92 (ls' := [some (.ref a0), some (.int x1), some (.int x2), some (.int x3), some (.int (nI 1)), some (.int x5)]) (Nat.le_of_ble_eq_true rfl) rfl rfl) ?_
  refine Eq.trans (zd_iinc zh92 (ls' := [some (.ref a0), some (.int x1), some (.int x2), some (.int x3), some (.int (nI 1)), some (.int (x5 + (nI 1)))]) (v := (x5 + (nI 1))) rfl rfl rfl rfl) ?_
  refine Eq.trans (zd_goto zh92 (t := 16) (by decide) rfl) ?_
  exact rfl
/-! yL_holds: 93, MarbleHeirsLaw.holds(LMarbleHeirs;)Z -/
set_option maxRecDepth 20000 in
theorem b93_0 {scr : List Int32} {w : zAW} {a0 : Nat} (h1 : zob w a0 5 = true) {f1 : Int32} {w1 : zAW} (h2 : zC scr 69 [.ref a0, .int (nI 0)] w = some (some (.int f1), w1)) {g2 : Nat} (h3 : (w1).length = g2) {g3 : Nat} (h4 : ((zpu w1 2)).length = g3) (h5 : zob (zpu (zpu w1 2) 2) a0 5 = true) {f4 : Int32} {w2 : zAW} (h6 : zC scr 64 [.ref a0, .int f1, .int (nI 0)] (zpu (zpu w1 2) 2) = some (some (.int f4), w2)) : zd scr 93 0 [some (.ref a0), none, none, none, none, none, none, none, none, none, none, none, none, none, none, none] [] w = if f4 = (-1) then zd scr 93 39 [some (.ref a0), some (.int f1), some (.int (nI 0)), some (.int (nI 0)), some (.int (nI 0)), some (.int (nI 0)), some (.int (nI 0)), some (.ref g2), some (.ref g3), none, none, none, none, none, none, none] [] w2 else zd scr 93 52 [some (.ref a0), some (.int f1), some (.int (nI 0)), some (.int (nI 0)), some (.int (nI 0)), some (.int (nI 0)), some (.int (nI 0)), some (.ref g2), some (.ref g3), none, none, none, none, none, none, none] [] w2 := by
  refine Eq.trans (zd_aload_n zh93 rfl rfl) ?_
  refine Eq.trans (zd_iconst zh93 (v := (nI 0)) rfl rfl) ?_
  refine Eq.trans (zd_invVi zh93 zh69 rfl rfl ⟨Nat.le_of_ble_eq_true rfl, Nat.le_of_ble_eq_true rfl, Nat.le_of_ble_eq_true rfl, Nat.le_of_ble_eq_true rfl⟩ rfl h1 h2 rfl) ?_
  refine Eq.trans (zd_istore_n zh93 (ls' := [some (.ref a0), some (.int f1), none, none, none, none, none, none, none, none, none, none, none, none, none, none]) (Nat.le_of_ble_eq_true rfl) rfl rfl) ?_
  refine Eq.trans (zd_iconst zh93 (v := (nI 0)) rfl rfl) ?_
  refine Eq.trans (zd_istore_n zh93 (ls' := [some (.ref a0), some (.int f1), some (.int (nI 0)), none, none, none, none, none, none, none, none, none, none, none, none, none]) (Nat.le_of_ble_eq_true rfl) rfl rfl) ?_
  refine Eq.trans (zd_iconst zh93 (v := (nI 0)) rfl rfl) ?_
  refine Eq.trans (zd_istore_n zh93 (ls' := [some (.ref a0), some (.int f1), some (.int (nI 0)), some (.int (nI 0)), none, none, none, none, none, none, none, none, none, none, none, none]) (Nat.le_of_ble_eq_true rfl) rfl rfl) ?_
  refine Eq.trans (zd_iconst zh93 (v := (nI 0)) rfl rfl) ?_
  refine Eq.trans (zd_istore zh93 (ls' := [some (.ref a0), some (.int f1), some (.int (nI 0)), some (.int (nI 0)), some (.int (nI 0)), none, none, none, none, none, none, none, none, none, none, none]) (Nat.le_of_ble_eq_true rfl) rfl rfl) ?_
  refine Eq.trans (zd_iconst zh93 (v := (nI 0)) rfl rfl) ?_
  refine Eq.trans (zd_istore zh93 (ls' := [some (.ref a0), some (.int f1), some (.int (nI 0)), some (.int (nI 0)), some (.int (nI 0)), some (.int (nI 0)), none, none, none, none, none, none, none, none, none, none]) (Nat.le_of_ble_eq_true rfl) rfl rfl) ?_
  refine Eq.trans (zd_iconst zh93 (v := (nI 0)) rfl rfl) ?_
  refine Eq.trans (zd_istore zh93 (ls' := [some (.ref a0), some (.int f1), some (.int (nI 0)), some (.int (nI 0)), some (.int (nI 0)), some (.int (nI 0)), some (.int (nI 0)), none, none, none, none, none, none, none, none, none]) (Nat.le_of_ble_eq_true rfl) rfl rfl) ?_
  refine Eq.trans (zd_iconst zh93 (v := (nI 2)) rfl rfl) ?_
  refine Eq.trans (zd_newarr zh93 (n := 2) (Nat.le_of_ble_eq_true rfl) h3 rfl) ?_
  refine Eq.trans (zd_astore zh93 (ls' := [some (.ref a0), some (.int f1), some (.int (nI 0)), some (.int (nI 0)), some (.int (nI 0)), some (.int (nI 0)), some (.int (nI 0)), some (.ref g2), none, none, none, none, none, none, none, none]) (Nat.le_of_ble_eq_true rfl) rfl rfl) ?_
  refine Eq.trans (zd_iconst zh93 (v := (nI 2)) rfl rfl) ?_
  refine Eq.trans (zd_newarr zh93 (n := 2) (Nat.le_of_ble_eq_true rfl) h4 rfl) ?_
  refine Eq.trans (zd_astore zh93 (ls' := [some (.ref a0), some (.int f1), some (.int (nI 0)), some (.int (nI 0)), some (.int (nI 0)), some (.int (nI 0)), some (.int (nI 0)), some (.ref g2), some (.ref g3), none, none, none, none, none, none, none]) (Nat.le_of_ble_eq_true rfl) rfl rfl) ?_
  refine Eq.trans (zd_aload_n zh93 rfl rfl) ?_
  refine Eq.trans (zd_iload_n zh93 rfl rfl) ?_
  refine Eq.trans (zd_iconst zh93 (v := (nI 0)) rfl rfl) ?_
  refine Eq.trans (zd_invVi zh93 zh64 rfl rfl ⟨Nat.le_of_ble_eq_true rfl, Nat.le_of_ble_eq_true rfl, Nat.le_of_ble_eq_true rfl, Nat.le_of_ble_eq_true rfl⟩ rfl h5 h6 rfl) ?_
  refine Eq.trans (zd_iconst zh93 (v := (-1)) rfl rfl) ?_
  exact zd_icmpne zh93 (t := 52) (by decide) rfl
set_option maxRecDepth 20000 in
theorem b93_58 {scr : List Int32} {w : zAW} {a0 : Nat} {x1 : Int32} {x2 : Int32} {x3 : Int32} {x4 : Int32} {x5 : Int32} {x6 : Int32} {a7 : Nat} {a8 : Nat} {x9 : Int32} {x10 : Int32} {v11 : Option Value} {v12 : Option Value} {v13 : Option Value} {v14 : Option Value} {v15 : Option Value}  : zd scr 93 58 [some (.ref a0), some (.int x1), some (.int x2), some (.int x3), some (.int x4), some (.int x5), some (.int x6), some (.ref a7), some (.ref a8), some (.int x9), some (.int x10), v11, v12, v13, v14, v15] [] w = if x10 < x1 then zd scr 93 64 [some (.ref a0), some (.int x1), some (.int x2), some (.int x3), some (.int x4), some (.int x5), some (.int x6), some (.ref a7), some (.ref a8), some (.int x9), some (.int x10), v11, v12, v13, v14, v15] [] w else zd scr 93 328 [some (.ref a0), some (.int x1), some (.int x2), some (.int x3), some (.int x4), some (.int x5), some (.int x6), some (.ref a7), some (.ref a8), some (.int x9), some (.int x10), v11, v12, v13, v14, v15] [] w := by
  refine Eq.trans (zd_iload zh93 rfl rfl) ?_
  refine Eq.trans (zd_iload_n zh93 rfl rfl) ?_
  exact zd_icmpge zh93 (t := 328) (by decide) rfl
set_option maxRecDepth 20000 in
theorem b93_87 {scr : List Int32} {w : zAW} {a0 : Nat} {x1 : Int32} {x2 : Int32} {x3 : Int32} {x4 : Int32} {x5 : Int32} {x6 : Int32} {a7 : Nat} {a8 : Nat} {x9 : Int32} {x10 : Int32} {x11 : Int32} {x12 : Int32} {x13 : Int32} {x14 : Int32} {v15 : Option Value}  : zd scr 93 87 [some (.ref a0), some (.int x1), some (.int x2), some (.int x3), some (.int x4), some (.int x5), some (.int x6), some (.ref a7), some (.ref a8), some (.int x9), some (.int x10), some (.int x11), some (.int x12), some (.int x13), some (.int x14), v15] [] w = if x14 < x13 then zd scr 93 94 [some (.ref a0), some (.int x1), some (.int x2), some (.int x3), some (.int x4), some (.int x5), some (.int x6), some (.ref a7), some (.ref a8), some (.int x9), some (.int x10), some (.int x11), some (.int x12), some (.int x13), some (.int x14), v15] [] w else zd scr 93 143 [some (.ref a0), some (.int x1), some (.int x2), some (.int x3), some (.int x4), some (.int x5), some (.int x6), some (.ref a7), some (.ref a8), some (.int x9), some (.int x10), some (.int x11), some (.int x12), some (.int x13), some (.int x14), v15] [] w := by
  refine Eq.trans (zd_iload zh93 rfl rfl) ?_
  refine Eq.trans (zd_iload zh93 rfl rfl) ?_
  exact zd_icmpge zh93 (t := 143) (by decide) rfl
set_option maxRecDepth 20000 in
theorem b93_146 {scr : List Int32} {w : zAW} {a0 : Nat} {x1 : Int32} {x2 : Int32} {x3 : Int32} {x4 : Int32} {x5 : Int32} {x6 : Int32} {a7 : Nat} {a8 : Nat} {x9 : Int32} {x10 : Int32} {x11 : Int32} {x12 : Int32} {x13 : Int32} {x14 : Int32} {v15 : Option Value}  : zd scr 93 146 [some (.ref a0), some (.int x1), some (.int x2), some (.int x3), some (.int x4), some (.int x5), some (.int x6), some (.ref a7), some (.ref a8), some (.int x9), some (.int x10), some (.int x11), some (.int x12), some (.int x13), some (.int x14), v15] [] w = if x14 < (nI 2) then zd scr 93 152 [some (.ref a0), some (.int x1), some (.int x2), some (.int x3), some (.int x4), some (.int x5), some (.int x6), some (.ref a7), some (.ref a8), some (.int x9), some (.int x10), some (.int x11), some (.int x12), some (.int x13), some (.int x14), v15] [] w else zd scr 93 232 [some (.ref a0), some (.int x1), some (.int x2), some (.int x3), some (.int x4), some (.int x5), some (.int x6), some (.ref a7), some (.ref a8), some (.int x9), some (.int x10), some (.int x11), some (.int x12), some (.int x13), some (.int x14), v15] [] w := by
  refine Eq.trans (zd_iload zh93 rfl rfl) ?_
  refine Eq.trans (zd_iconst zh93 (v := (nI 2)) rfl rfl) ?_
  exact zd_icmpge zh93 (t := 232) (by decide) rfl
set_option maxRecDepth 20000 in
theorem b93_331 {scr : List Int32} {w : zAW} {a0 : Nat} {x1 : Int32} {x2 : Int32} {x3 : Int32} {x4 : Int32} {x5 : Int32} {x6 : Int32} {a7 : Nat} {a8 : Nat} {x9 : Int32} {x10 : Int32} {v11 : Option Value} {v12 : Option Value} {v13 : Option Value} {v14 : Option Value} {v15 : Option Value} (h1 : zob w a0 5 = true) {f1 : Int32} {w1 : zAW} (h2 : zC scr 69 [.ref a0, .int (nI 1)] w = some (some (.int f1), w1)) : zd scr 93 331 [some (.ref a0), some (.int x1), some (.int x2), some (.int x3), some (.int x4), some (.int x5), some (.int x6), some (.ref a7), some (.ref a8), some (.int x9), some (.int x10), v11, v12, v13, v14, v15] [] w = if x10 < f1 then zd scr 93 341 [some (.ref a0), some (.int x1), some (.int x2), some (.int x3), some (.int x4), some (.int x5), some (.int x6), some (.ref a7), some (.ref a8), some (.int x9), some (.int x10), v11, v12, v13, v14, v15] [] w1 else zd scr 93 359 [some (.ref a0), some (.int x1), some (.int x2), some (.int x3), some (.int x4), some (.int x5), some (.int x6), some (.ref a7), some (.ref a8), some (.int x9), some (.int x10), v11, v12, v13, v14, v15] [] w1 := by
  refine Eq.trans (zd_iload zh93 rfl rfl) ?_
  refine Eq.trans (zd_aload_n zh93 rfl rfl) ?_
  refine Eq.trans (zd_iconst zh93 (v := (nI 1)) rfl rfl) ?_
  refine Eq.trans (zd_invVi zh93 zh69 rfl rfl ⟨Nat.le_of_ble_eq_true rfl, Nat.le_of_ble_eq_true rfl, Nat.le_of_ble_eq_true rfl, Nat.le_of_ble_eq_true rfl⟩ rfl h1 h2 rfl) ?_
  exact zd_icmpge zh93 (t := 359) (by decide) rfl
set_option maxRecDepth 20000 in
theorem b93_39 {scr : List Int32} {w : zAW} {a0 : Nat} {x1 : Int32} {x2 : Int32} {x3 : Int32} {x4 : Int32} {x5 : Int32} {x6 : Int32} {a7 : Nat} {a8 : Nat} (h1 : zob w a0 5 = true) {f1 : Int32} {w1 : zAW} (h2 : zC scr 68 [.ref a0, .int x1] w = some (some (.int f1), w1)) : zd scr 93 39 [some (.ref a0), some (.int x1), some (.int x2), some (.int x3), some (.int x4), some (.int x5), some (.int x6), some (.ref a7), some (.ref a8), none, none, none, none, none, none, none] [] w = if f1 = (-1) then zd scr 93 48 [some (.ref a0), some (.int x1), some (.int x2), some (.int x3), some (.int x4), some (.int x5), some (.int x6), some (.ref a7), some (.ref a8), none, none, none, none, none, none, none] [] w1 else zd scr 93 52 [some (.ref a0), some (.int x1), some (.int x2), some (.int x3), some (.int x4), some (.int x5), some (.int x6), some (.ref a7), some (.ref a8), none, none, none, none, none, none, none] [] w1 := by
  refine Eq.trans (zd_aload_n zh93 rfl rfl) ?_
  refine Eq.trans (zd_iload_n zh93 rfl rfl) ?_
  refine Eq.trans (zd_invVi zh93 zh68 rfl rfl ⟨Nat.le_of_ble_eq_true rfl, Nat.le_of_ble_eq_true rfl, Nat.le_of_ble_eq_true rfl, Nat.le_of_ble_eq_true rfl⟩ rfl h1 h2 rfl) ?_
  refine Eq.trans (zd_iconst zh93 (v := (-1)) rfl rfl) ?_
  exact zd_icmpne zh93 (t := 52) (by decide) rfl
set_option maxRecDepth 20000 in
theorem b93_52 {scr : List Int32} {w : zAW} {a0 : Nat} {x1 : Int32} {x2 : Int32} {x3 : Int32} {x4 : Int32} {x5 : Int32} {x6 : Int32} {a7 : Nat} {a8 : Nat}  : zd scr 93 52 [some (.ref a0), some (.int x1), some (.int x2), some (.int x3), some (.int x4), some (.int x5), some (.int x6), some (.ref a7), some (.ref a8), none, none, none, none, none, none, none] [] w = zd scr 93 58 [some (.ref a0), some (.int x1), some (.int x2), some (.int x3), some (.int x4), some (.int x5), some (.int x6), some (.ref a7), some (.ref a8), some (.int (nI 0)), some (.int (nI 0)), none, none, none, none, none] [] w := by
  refine Eq.trans (zd_iconst zh93 (v := (nI 0)) rfl rfl) ?_
  refine Eq.trans (zd_istore zh93 (ls' := [some (.ref a0), some (.int x1), some (.int x2), some (.int x3), some (.int x4), some (.int x5), some (.int x6), some (.ref a7), some (.ref a8), some (.int (nI 0)), none, none, none, none, none, none]) (Nat.le_of_ble_eq_true rfl) rfl rfl) ?_
  refine Eq.trans (zd_iconst zh93 (v := (nI 0)) rfl rfl) ?_
  refine Eq.trans (zd_istore zh93 (ls' := [some (.ref a0), some (.int x1), some (.int x2), some (.int x3), some (.int x4), some (.int x5), some (.int x6), some (.ref a7), some (.ref a8), some (.int (nI 0)), some (.int (nI 0)), none, none, none, none, none]) (Nat.le_of_ble_eq_true rfl) rfl rfl) ?_
  exact rfl
set_option maxRecDepth 20000 in
theorem b93_64 {scr : List Int32} {w : zAW} {a0 : Nat} {x1 : Int32} {x2 : Int32} {x3 : Int32} {x4 : Int32} {x5 : Int32} {x6 : Int32} {a7 : Nat} {a8 : Nat} {x9 : Int32} {x10 : Int32} {v11 : Option Value} {v12 : Option Value} {v13 : Option Value} {v14 : Option Value} {v15 : Option Value}  : zd scr 93 64 [some (.ref a0), some (.int x1), some (.int x2), some (.int x3), some (.int x4), some (.int x5), some (.int x6), some (.ref a7), some (.ref a8), some (.int x9), some (.int x10), v11, v12, v13, v14, v15] [] w = if x9 = 0 then zd scr 93 328 [some (.ref a0), some (.int x1), some (.int x2), some (.int x3), some (.int x4), some (.int x5), some (.int x6), some (.ref a7), some (.ref a8), some (.int x9), some (.int x10), v11, v12, v13, v14, v15] [] w else zd scr 93 69 [some (.ref a0), some (.int x1), some (.int x2), some (.int x3), some (.int x4), some (.int x5), some (.int x6), some (.ref a7), some (.ref a8), some (.int x9), some (.int x10), v11, v12, v13, v14, v15] [] w := by
  refine Eq.trans (zd_iload zh93 rfl rfl) ?_
  exact zd_ifeq zh93 (t := 328) (by decide) rfl
set_option maxRecDepth 20000 in
theorem b93_328 {scr : List Int32} {w : zAW} {a0 : Nat} {x1 : Int32} {x2 : Int32} {x3 : Int32} {x4 : Int32} {x5 : Int32} {x6 : Int32} {a7 : Nat} {a8 : Nat} {x9 : Int32} {x10 : Int32} {v11 : Option Value} {v12 : Option Value} {v13 : Option Value} {v14 : Option Value} {v15 : Option Value}  : zd scr 93 328 [some (.ref a0), some (.int x1), some (.int x2), some (.int x3), some (.int x4), some (.int x5), some (.int x6), some (.ref a7), some (.ref a8), some (.int x9), some (.int x10), v11, v12, v13, v14, v15] [] w = zd scr 93 331 [some (.ref a0), some (.int x1), some (.int x2), some (.int x3), some (.int x4), some (.int x5), some (.int x6), some (.ref a7), some (.ref a8), some (.int x9), some (.int (nI 0)), v11, v12, v13, v14, v15] [] w := by
  refine Eq.trans (zd_iconst zh93 (v := (nI 0)) rfl rfl) ?_
  refine Eq.trans (zd_istore zh93 (ls' := [some (.ref a0), some (.int x1), some (.int x2), some (.int x3), some (.int x4), some (.int x5), some (.int x6), some (.ref a7), some (.ref a8), some (.int x9), some (.int (nI 0)), v11, v12, v13, v14, v15]) (Nat.le_of_ble_eq_true rfl) rfl rfl) ?_
  exact rfl
set_option maxRecDepth 20000 in
theorem b93_94 {scr : List Int32} {w : zAW} {a0 : Nat} {x1 : Int32} {x2 : Int32} {x3 : Int32} {x4 : Int32} {x5 : Int32} {x6 : Int32} {a7 : Nat} {a8 : Nat} {x9 : Int32} {x10 : Int32} {x11 : Int32} {x12 : Int32} {x13 : Int32} {x14 : Int32} {v15 : Option Value} (h1 : zob w a0 5 = true) {f1 : Int32} {w1 : zAW} (h2 : zC scr 65 [.ref a0, .int x10, .int x14, .int (nI 1)] w = some (some (.int f1), w1)) (h3 : zob w1 a0 5 = true) {f2 : Int32} {w2 : zAW} (h4 : zC scr 65 [.ref a0, .int x10, .int x14, .int (nI 0)] w1 = some (some (.int f2), w2)) (h5 : zob w2 a0 5 = true) {f3 : Int32} {w3 : zAW} (h6 : zC scr 64 [.ref a0, .int x10, .int (nI 1)] w2 = some (some (.int f3), w3)) : zd scr 93 94 [some (.ref a0), some (.int x1), some (.int x2), some (.int x3), some (.int x4), some (.int x5), some (.int x6), some (.ref a7), some (.ref a8), some (.int x9), some (.int x10), some (.int x11), some (.int x12), some (.int x13), some (.int x14), v15] [] w = if f2 = f3 then zd scr 93 129 [some (.ref a0), some (.int x1), some (.int x2), some (.int x3), some (.int x4), some (.int x5), some (.int x6), some (.ref a7), some (.ref a8), some (.int x9), some (.int x10), some (.int (x11 + f1)), some (.int x12), some (.int x13), some (.int x14), v15] [.int x12] w3 else zd scr 93 133 [some (.ref a0), some (.int x1), some (.int x2), some (.int x3), some (.int x4), some (.int x5), some (.int x6), some (.ref a7), some (.ref a8), some (.int x9), some (.int x10), some (.int (x11 + f1)), some (.int x12), some (.int x13), some (.int x14), v15] [.int x12] w3 := by
  refine Eq.trans (zd_iload zh93 rfl rfl) ?_
  refine Eq.trans (zd_aload_n zh93 rfl rfl) ?_
  refine Eq.trans (zd_iload zh93 rfl rfl) ?_
  refine Eq.trans (zd_iload zh93 rfl rfl) ?_
  refine Eq.trans (zd_iconst zh93 (v := (nI 1)) rfl rfl) ?_
  refine Eq.trans (zd_invVi zh93 zh65 rfl rfl ⟨Nat.le_of_ble_eq_true rfl, Nat.le_of_ble_eq_true rfl, Nat.le_of_ble_eq_true rfl, Nat.le_of_ble_eq_true rfl⟩ rfl h1 h2 rfl) ?_
  refine Eq.trans (zd_iadd zh93 rfl) ?_
  refine Eq.trans (zd_istore zh93 (ls' := [some (.ref a0), some (.int x1), some (.int x2), some (.int x3), some (.int x4), some (.int x5), some (.int x6), some (.ref a7), some (.ref a8), some (.int x9), some (.int x10), some (.int (x11 + f1)), some (.int x12), some (.int x13), some (.int x14), v15]) (Nat.le_of_ble_eq_true rfl) rfl rfl) ?_
  refine Eq.trans (zd_iload zh93 rfl rfl) ?_
  refine Eq.trans (zd_aload_n zh93 rfl rfl) ?_
  refine Eq.trans (zd_iload zh93 rfl rfl) ?_
  refine Eq.trans (zd_iload zh93 rfl rfl) ?_
  refine Eq.trans (zd_iconst zh93 (v := (nI 0)) rfl rfl) ?_
  refine Eq.trans (zd_invVi zh93 zh65 rfl rfl ⟨Nat.le_of_ble_eq_true rfl, Nat.le_of_ble_eq_true rfl, Nat.le_of_ble_eq_true rfl, Nat.le_of_ble_eq_true rfl⟩ rfl h3 h4 rfl) ?_
  refine Eq.trans (zd_aload_n zh93 rfl rfl) ?_
  refine Eq.trans (zd_iload zh93 rfl rfl) ?_
  refine Eq.trans (zd_iconst zh93 (v := (nI 1)) rfl rfl) ?_
  refine Eq.trans (zd_invVi zh93 zh64 rfl rfl ⟨Nat.le_of_ble_eq_true rfl, Nat.le_of_ble_eq_true rfl, Nat.le_of_ble_eq_true rfl, Nat.le_of_ble_eq_true rfl⟩ rfl h5 h6 rfl) ?_
  exact zd_icmpne zh93 (t := 133) (by decide) rfl
set_option maxRecDepth 20000 in
theorem b93_143 {scr : List Int32} {w : zAW} {a0 : Nat} {x1 : Int32} {x2 : Int32} {x3 : Int32} {x4 : Int32} {x5 : Int32} {x6 : Int32} {a7 : Nat} {a8 : Nat} {x9 : Int32} {x10 : Int32} {x11 : Int32} {x12 : Int32} {x13 : Int32} {x14 : Int32} {v15 : Option Value}  : zd scr 93 143 [some (.ref a0), some (.int x1), some (.int x2), some (.int x3), some (.int x4), some (.int x5), some (.int x6), some (.ref a7), some (.ref a8), some (.int x9), some (.int x10), some (.int x11), some (.int x12), some (.int x13), some (.int x14), v15] [] w = zd scr 93 146 [some (.ref a0), some (.int x1), some (.int x2), some (.int x3), some (.int x4), some (.int x5), some (.int x6), some (.ref a7), some (.ref a8), some (.int x9), some (.int x10), some (.int x11), some (.int x12), some (.int x13), some (.int (nI 0)), v15] [] w := by
  refine Eq.trans (zd_iconst zh93 (v := (nI 0)) rfl rfl) ?_
  refine Eq.trans (zd_istore zh93 (ls' := [some (.ref a0), some (.int x1), some (.int x2), some (.int x3), some (.int x4), some (.int x5), some (.int x6), some (.ref a7), some (.ref a8), some (.int x9), some (.int x10), some (.int x11), some (.int x12), some (.int x13), some (.int (nI 0)), v15]) (Nat.le_of_ble_eq_true rfl) rfl rfl) ?_
  exact rfl
set_option maxRecDepth 20000 in
theorem b93_152 {scr : List Int32} {w : zAW} {a0 : Nat} {x1 : Int32} {x2 : Int32} {x3 : Int32} {x4 : Int32} {x5 : Int32} {x6 : Int32} {a7 : Nat} {a8 : Nat} {x9 : Int32} {x10 : Int32} {x11 : Int32} {x12 : Int32} {x13 : Int32} {x14 : Int32} {v15 : Option Value}  : zd scr 93 152 [some (.ref a0), some (.int x1), some (.int x2), some (.int x3), some (.int x4), some (.int x5), some (.int x6), some (.ref a7), some (.ref a8), some (.int x9), some (.int x10), some (.int x11), some (.int x12), some (.int x13), some (.int x14), v15] [] w = if x14 = 0 then zd scr 93 157 [some (.ref a0), some (.int x1), some (.int x2), some (.int x3), some (.int x4), some (.int x5), some (.int x6), some (.ref a7), some (.ref a8), some (.int x9), some (.int x10), some (.int x11), some (.int x12), some (.int x13), some (.int x14), v15] [] w else zd scr 93 162 [some (.ref a0), some (.int x1), some (.int x2), some (.int x3), some (.int x4), some (.int x5), some (.int x6), some (.ref a7), some (.ref a8), some (.int x9), some (.int x10), some (.int x11), some (.int x12), some (.int x13), some (.int x14), v15] [] w := by
  refine Eq.trans (zd_iload zh93 rfl rfl) ?_
  exact zd_ifne zh93 (t := 162) (by decide) rfl
set_option maxRecDepth 20000 in
theorem b93_232 {scr : List Int32} {w : zAW} {a0 : Nat} {x1 : Int32} {x2 : Int32} {x3 : Int32} {x4 : Int32} {x5 : Int32} {x6 : Int32} {a7 : Nat} {a8 : Nat} {x9 : Int32} {x10 : Int32} {x11 : Int32} {x12 : Int32} {x13 : Int32} {x14 : Int32} {v15 : Option Value} (h1 : zob w a0 5 = true) {f1 : Int32} {w1 : zAW} (h2 : zC scr 68 [.ref a0, .int x10] w = some (some (.int f1), w1)) (h3 : zob w1 a0 5 = true) {f2 : Int32} {w2 : zAW} (h4 : zC scr 64 [.ref a0, .int x10, .int (nI 5)] w1 = some (some (.int f2), w2)) (h5 : zob w2 a0 5 = true) {f3 : Int32} {w3 : zAW} (h6 : zC scr 68 [.ref a0, .int f2] w2 = some (some (.int f3), w3)) : zd scr 93 232 [some (.ref a0), some (.int x1), some (.int x2), some (.int x3), some (.int x4), some (.int x5), some (.int x6), some (.ref a7), some (.ref a8), some (.int x9), some (.int x10), some (.int x11), some (.int x12), some (.int x13), some (.int x14), v15] [] w = if f3 = x10 then zd scr 93 278 [some (.ref a0), some (.int x1), some (.int (x2 ||| ((nI 1) <<< (f1 &&& 31)))), some (.int (x3 + x13)), some (.int (x4 + x11)), some (.int (x5 + x12)), some (.int x6), some (.ref a7), some (.ref a8), some (.int x9), some (.int x10), some (.int x11), some (.int x12), some (.int x13), some (.int x14), v15] [] w3 else zd scr 93 319 [some (.ref a0), some (.int x1), some (.int (x2 ||| ((nI 1) <<< (f1 &&& 31)))), some (.int (x3 + x13)), some (.int (x4 + x11)), some (.int (x5 + x12)), some (.int x6), some (.ref a7), some (.ref a8), some (.int x9), some (.int x10), some (.int x11), some (.int x12), some (.int x13), some (.int x14), v15] [] w3 := by
  refine Eq.trans (zd_iload_n zh93 rfl rfl) ?_
  refine Eq.trans (zd_iconst zh93 (v := (nI 1)) rfl rfl) ?_
  refine Eq.trans (zd_aload_n zh93 rfl rfl) ?_
  refine Eq.trans (zd_iload zh93 rfl rfl) ?_
  refine Eq.trans (zd_invVi zh93 zh68 rfl rfl ⟨Nat.le_of_ble_eq_true rfl, Nat.le_of_ble_eq_true rfl, Nat.le_of_ble_eq_true rfl, Nat.le_of_ble_eq_true rfl⟩ rfl h1 h2 rfl) ?_
  refine Eq.trans (zd_ishl zh93 rfl) ?_
  refine Eq.trans (zd_ior zh93 rfl) ?_
  refine Eq.trans (zd_istore_n zh93 (ls' := [some (.ref a0), some (.int x1), some (.int (x2 ||| ((nI 1) <<< (f1 &&& 31)))), some (.int x3), some (.int x4), some (.int x5), some (.int x6), some (.ref a7), some (.ref a8), some (.int x9), some (.int x10), some (.int x11), some (.int x12), some (.int x13), some (.int x14), v15]) (Nat.le_of_ble_eq_true rfl) rfl rfl) ?_
  refine Eq.trans (zd_iload_n zh93 rfl rfl) ?_
  refine Eq.trans (zd_iload zh93 rfl rfl) ?_
  refine Eq.trans (zd_iadd zh93 rfl) ?_
  refine Eq.trans (zd_istore_n zh93 (ls' := [some (.ref a0), some (.int x1), some (.int (x2 ||| ((nI 1) <<< (f1 &&& 31)))), some (.int (x3 + x13)), some (.int x4), some (.int x5), some (.int x6), some (.ref a7), some (.ref a8), some (.int x9), some (.int x10), some (.int x11), some (.int x12), some (.int x13), some (.int x14), v15]) (Nat.le_of_ble_eq_true rfl) rfl rfl) ?_
  refine Eq.trans (zd_iload zh93 rfl rfl) ?_
  refine Eq.trans (zd_iload zh93 rfl rfl) ?_
  refine Eq.trans (zd_iadd zh93 rfl) ?_
  refine Eq.trans (zd_istore zh93 (ls' := [some (.ref a0), some (.int x1), some (.int (x2 ||| ((nI 1) <<< (f1 &&& 31)))), some (.int (x3 + x13)), some (.int (x4 + x11)), some (.int x5), some (.int x6), some (.ref a7), some (.ref a8), some (.int x9), some (.int x10), some (.int x11), some (.int x12), some (.int x13), some (.int x14), v15]) (Nat.le_of_ble_eq_true rfl) rfl rfl) ?_
  refine Eq.trans (zd_iload zh93 rfl rfl) ?_
  refine Eq.trans (zd_iload zh93 rfl rfl) ?_
  refine Eq.trans (zd_iadd zh93 rfl) ?_
  refine Eq.trans (zd_istore zh93 (ls' := [some (.ref a0), some (.int x1), some (.int (x2 ||| ((nI 1) <<< (f1 &&& 31)))), some (.int (x3 + x13)), some (.int (x4 + x11)), some (.int (x5 + x12)), some (.int x6), some (.ref a7), some (.ref a8), some (.int x9), some (.int x10), some (.int x11), some (.int x12), some (.int x13), some (.int x14), v15]) (Nat.le_of_ble_eq_true rfl) rfl rfl) ?_
  refine Eq.trans (zd_aload_n zh93 rfl rfl) ?_
  refine Eq.trans (zd_aload_n zh93 rfl rfl) ?_
  refine Eq.trans (zd_iload zh93 rfl rfl) ?_
  refine Eq.trans (zd_iconst zh93 (v := (nI 5)) rfl rfl) ?_
  refine Eq.trans (zd_invVi zh93 zh64 rfl rfl ⟨Nat.le_of_ble_eq_true rfl, Nat.le_of_ble_eq_true rfl, Nat.le_of_ble_eq_true rfl, Nat.le_of_ble_eq_true rfl⟩ rfl h3 h4 rfl) ?_
  refine Eq.trans (zd_invVi zh93 zh68 rfl rfl ⟨Nat.le_of_ble_eq_true rfl, Nat.le_of_ble_eq_true rfl, Nat.le_of_ble_eq_true rfl, Nat.le_of_ble_eq_true rfl⟩ rfl h5 h6 rfl) ?_
  refine Eq.trans (zd_iload zh93 rfl rfl) ?_
  exact zd_icmpne zh93 (t := 319) (by decide) rfl
set_option maxRecDepth 20000 in
theorem b93_341 {scr : List Int32} {w : zAW} {a0 : Nat} {x1 : Int32} {x2 : Int32} {x3 : Int32} {x4 : Int32} {x5 : Int32} {x6 : Int32} {a7 : Nat} {a8 : Nat} {x9 : Int32} {x10 : Int32} {v11 : Option Value} {v12 : Option Value} {v13 : Option Value} {v14 : Option Value} {v15 : Option Value} (h1 : zob w a0 5 = true) {f1 : Int32} {w1 : zAW} (h2 : zC scr 66 [.ref a0, .int x10, .int (nI 1)] w = some (some (.int f1), w1)) : zd scr 93 341 [some (.ref a0), some (.int x1), some (.int x2), some (.int x3), some (.int x4), some (.int x5), some (.int x6), some (.ref a7), some (.ref a8), some (.int x9), some (.int x10), v11, v12, v13, v14, v15] [] w = zd scr 93 331 [some (.ref a0), some (.int x1), some (.int x2), some (.int x3), some (.int x4), some (.int x5), some (.int (x6 + f1)), some (.ref a7), some (.ref a8), some (.int x9), some (.int (x10 + (nI 1))), v11, v12, v13, v14, v15] [] w1 := by
  refine Eq.trans (zd_iload zh93 rfl rfl) ?_
  refine Eq.trans (zd_aload_n zh93 rfl rfl) ?_
  refine Eq.trans (zd_iload zh93 rfl rfl) ?_
  refine Eq.trans (zd_iconst zh93 (v := (nI 1)) rfl rfl) ?_
  refine Eq.trans (zd_invVi zh93 zh66 rfl rfl ⟨Nat.le_of_ble_eq_true rfl, Nat.le_of_ble_eq_true rfl, Nat.le_of_ble_eq_true rfl, Nat.le_of_ble_eq_true rfl⟩ rfl h1 h2 rfl) ?_
  refine Eq.trans (zd_iadd zh93 rfl) ?_
  refine Eq.trans (zd_istore zh93 (ls' := [some (.ref a0), some (.int x1), some (.int x2), some (.int x3), some (.int x4), some (.int x5), some (.int (x6 + f1)), some (.ref a7), some (.ref a8), some (.int x9), some (.int x10), v11, v12, v13, v14, v15]) (Nat.le_of_ble_eq_true rfl) rfl rfl) ?_
  refine Eq.trans (zd_iinc zh93 (ls' := [some (.ref a0), some (.int x1), some (.int x2), some (.int x3), some (.int x4), some (.int x5), some (.int (x6 + f1)), some (.ref a7), some (.ref a8), some (.int x9), some (.int (x10 + (nI 1))), v11, v12, v13, v14, v15]) (v := (x10 + (nI 1))) rfl rfl rfl rfl) ?_
  refine Eq.trans (zd_goto zh93 (t := 331) (by decide) rfl) ?_
  exact rfl
set_option maxRecDepth 20000 in
theorem b93_359 {scr : List Int32} {w : zAW} {a0 : Nat} {x1 : Int32} {x2 : Int32} {x3 : Int32} {x4 : Int32} {x5 : Int32} {x6 : Int32} {a7 : Nat} {a8 : Nat} {x9 : Int32} {x10 : Int32} {v11 : Option Value} {v12 : Option Value} {v13 : Option Value} {v14 : Option Value} {v15 : Option Value}  : zd scr 93 359 [some (.ref a0), some (.int x1), some (.int x2), some (.int x3), some (.int x4), some (.int x5), some (.int x6), some (.ref a7), some (.ref a8), some (.int x9), some (.int x10), v11, v12, v13, v14, v15] [] w = if x9 = 0 then zd scr 93 431 [some (.ref a0), some (.int x1), some (.int x2), some (.int x3), some (.int x4), some (.int x5), some (.int x6), some (.ref a7), some (.ref a8), some (.int x9), some (.int x10), v11, v12, v13, v14, v15] [] w else zd scr 93 364 [some (.ref a0), some (.int x1), some (.int x2), some (.int x3), some (.int x4), some (.int x5), some (.int x6), some (.ref a7), some (.ref a8), some (.int x9), some (.int x10), v11, v12, v13, v14, v15] [] w := by
  refine Eq.trans (zd_iload zh93 rfl rfl) ?_
  exact zd_ifeq zh93 (t := 431) (by decide) rfl
set_option maxRecDepth 20000 in
theorem b93_48 {scr : List Int32} {w : zAW} {a0 : Nat} {x1 : Int32} {x2 : Int32} {x3 : Int32} {x4 : Int32} {x5 : Int32} {x6 : Int32} {a7 : Nat} {a8 : Nat}  : zd scr 93 48 [some (.ref a0), some (.int x1), some (.int x2), some (.int x3), some (.int x4), some (.int x5), some (.int x6), some (.ref a7), some (.ref a8), none, none, none, none, none, none, none] [] w = zd scr 93 58 [some (.ref a0), some (.int x1), some (.int x2), some (.int x3), some (.int x4), some (.int x5), some (.int x6), some (.ref a7), some (.ref a8), some (.int (nI 1)), some (.int (nI 0)), none, none, none, none, none] [] w := by
  refine Eq.trans (zd_iconst zh93 (v := (nI 1)) rfl rfl) ?_
  refine Eq.trans (zd_goto zh93 (t := 53) (by decide) rfl) ?_
  refine Eq.trans (zd_istore zh93 (ls' := [some (.ref a0), some (.int x1), some (.int x2), some (.int x3), some (.int x4), some (.int x5), some (.int x6), some (.ref a7), some (.ref a8), some (.int (nI 1)), none, none, none, none, none, none]) (Nat.le_of_ble_eq_true rfl) rfl rfl) ?_
  refine Eq.trans (zd_iconst zh93 (v := (nI 0)) rfl rfl) ?_
  refine Eq.trans (zd_istore zh93 (ls' := [some (.ref a0), some (.int x1), some (.int x2), some (.int x3), some (.int x4), some (.int x5), some (.int x6), some (.ref a7), some (.ref a8), some (.int (nI 1)), some (.int (nI 0)), none, none, none, none, none]) (Nat.le_of_ble_eq_true rfl) rfl rfl) ?_
  exact rfl
set_option maxRecDepth 20000 in
theorem b93_69 {scr : List Int32} {w : zAW} {a0 : Nat} {x1 : Int32} {x2 : Int32} {x3 : Int32} {x4 : Int32} {x5 : Int32} {x6 : Int32} {a7 : Nat} {a8 : Nat} {x9 : Int32} {x10 : Int32} {v11 : Option Value} {v12 : Option Value} {v13 : Option Value} {v14 : Option Value} {v15 : Option Value} (h1 : zob w a0 5 = true) {f1 : Int32} {w1 : zAW} (h2 : zC scr 64 [.ref a0, .int x10, .int (nI 2)] w = some (some (.int f1), w1)) : zd scr 93 69 [some (.ref a0), some (.int x1), some (.int x2), some (.int x3), some (.int x4), some (.int x5), some (.int x6), some (.ref a7), some (.ref a8), some (.int x9), some (.int x10), v11, v12, v13, v14, v15] [] w = zd scr 93 87 [some (.ref a0), some (.int x1), some (.int x2), some (.int x3), some (.int x4), some (.int x5), some (.int x6), some (.ref a7), some (.ref a8), some (.int x9), some (.int x10), some (.int (nI 0)), some (.int (nI 0)), some (.int f1), some (.int (nI 0)), v15] [] w1 := by
  refine Eq.trans (zd_iconst zh93 (v := (nI 0)) rfl rfl) ?_
  refine Eq.trans (zd_istore zh93 (ls' := [some (.ref a0), some (.int x1), some (.int x2), some (.int x3), some (.int x4), some (.int x5), some (.int x6), some (.ref a7), some (.ref a8), some (.int x9), some (.int x10), some (.int (nI 0)), v12, v13, v14, v15]) (Nat.le_of_ble_eq_true rfl) rfl rfl) ?_
  refine Eq.trans (zd_iconst zh93 (v := (nI 0)) rfl rfl) ?_
  refine Eq.trans (zd_istore zh93 (ls' := [some (.ref a0), some (.int x1), some (.int x2), some (.int x3), some (.int x4), some (.int x5), some (.int x6), some (.ref a7), some (.ref a8), some (.int x9), some (.int x10), some (.int (nI 0)), some (.int (nI 0)), v13, v14, v15]) (Nat.le_of_ble_eq_true rfl) rfl rfl) ?_
  refine Eq.trans (zd_aload_n zh93 rfl rfl) ?_
  refine Eq.trans (zd_iload zh93 rfl rfl) ?_
  refine Eq.trans (zd_iconst zh93 (v := (nI 2)) rfl rfl) ?_
  refine Eq.trans (zd_invVi zh93 zh64 rfl rfl ⟨Nat.le_of_ble_eq_true rfl, Nat.le_of_ble_eq_true rfl, Nat.le_of_ble_eq_true rfl, Nat.le_of_ble_eq_true rfl⟩ rfl h1 h2 rfl) ?_
  refine Eq.trans (zd_istore zh93 (ls' := [some (.ref a0), some (.int x1), some (.int x2), some (.int x3), some (.int x4), some (.int x5), some (.int x6), some (.ref a7), some (.ref a8), some (.int x9), some (.int x10), some (.int (nI 0)), some (.int (nI 0)), some (.int f1), v14, v15]) (Nat.le_of_ble_eq_true rfl) rfl rfl) ?_
  refine Eq.trans (zd_iconst zh93 (v := (nI 0)) rfl rfl) ?_
  refine Eq.trans (zd_istore zh93 (ls' := [some (.ref a0), some (.int x1), some (.int x2), some (.int x3), some (.int x4), some (.int x5), some (.int x6), some (.ref a7), some (.ref a8), some (.int x9), some (.int x10), some (.int (nI 0)), some (.int (nI 0)), some (.int f1), some (.int (nI 0)), v15]) (Nat.le_of_ble_eq_true rfl) rfl rfl) ?_
  exact rfl
set_option maxRecDepth 20000 in
theorem b93_129 {scr : List Int32} {w : zAW} {a0 : Nat} {x1 : Int32} {x2 : Int32} {x3 : Int32} {x4 : Int32} {x5 : Int32} {x6 : Int32} {a7 : Nat} {a8 : Nat} {x9 : Int32} {x10 : Int32} {x11 : Int32} {x12 : Int32} {x13 : Int32} {x14 : Int32} {v15 : Option Value} {y0 : Int32}  : zd scr 93 129 [some (.ref a0), some (.int x1), some (.int x2), some (.int x3), some (.int x4), some (.int x5), some (.int x6), some (.ref a7), some (.ref a8), some (.int x9), some (.int x10), some (.int x11), some (.int x12), some (.int x13), some (.int x14), v15] [.int y0] w = zd scr 93 87 [some (.ref a0), some (.int x1), some (.int x2), some (.int x3), some (.int x4), some (.int x5), some (.int x6), some (.ref a7), some (.ref a8), some (.int x9), some (.int x10), some (.int x11), some (.int (y0 + (nI 1))), some (.int x13), some (.int (x14 + (nI 1))), v15] [] w := by
  refine Eq.trans (zd_iconst zh93 (v := (nI 1)) rfl rfl) ?_
  refine Eq.trans (zd_goto zh93 (t := 134) (by decide) rfl) ?_
  refine Eq.trans (zd_iadd zh93 rfl) ?_
  refine Eq.trans (zd_istore zh93 (ls' := [some (.ref a0), some (.int x1), some (.int x2), some (.int x3), some (.int x4), some (.int x5), some (.int x6), some (.ref a7), some (.ref a8), some (.int x9), some (.int x10), some (.int x11), some (.int (y0 + (nI 1))), some (.int x13), some (.int x14), v15]) (Nat.le_of_ble_eq_true rfl) rfl rfl) ?_
  refine Eq.trans (zd_iinc zh93 (ls' := [some (.ref a0), some (.int x1), some (.int x2), some (.int x3), some (.int x4), some (.int x5), some (.int x6), some (.ref a7), some (.ref a8), some (.int x9), some (.int x10), some (.int x11), some (.int (y0 + (nI 1))), some (.int x13), some (.int (x14 + (nI 1))), v15]) (v := (x14 + (nI 1))) rfl rfl rfl rfl) ?_
  refine Eq.trans (zd_goto zh93 (t := 87) (by decide) rfl) ?_
  exact rfl
set_option maxRecDepth 20000 in
theorem b93_133 {scr : List Int32} {w : zAW} {a0 : Nat} {x1 : Int32} {x2 : Int32} {x3 : Int32} {x4 : Int32} {x5 : Int32} {x6 : Int32} {a7 : Nat} {a8 : Nat} {x9 : Int32} {x10 : Int32} {x11 : Int32} {x12 : Int32} {x13 : Int32} {x14 : Int32} {v15 : Option Value} {y0 : Int32}  : zd scr 93 133 [some (.ref a0), some (.int x1), some (.int x2), some (.int x3), some (.int x4), some (.int x5), some (.int x6), some (.ref a7), some (.ref a8), some (.int x9), some (.int x10), some (.int x11), some (.int x12), some (.int x13), some (.int x14), v15] [.int y0] w = zd scr 93 87 [some (.ref a0), some (.int x1), some (.int x2), some (.int x3), some (.int x4), some (.int x5), some (.int x6), some (.ref a7), some (.ref a8), some (.int x9), some (.int x10), some (.int x11), some (.int (y0 + (nI 0))), some (.int x13), some (.int (x14 + (nI 1))), v15] [] w := by
  refine Eq.trans (zd_iconst zh93 (v := (nI 0)) rfl rfl) ?_
  refine Eq.trans (zd_iadd zh93 rfl) ?_
  refine Eq.trans (zd_istore zh93 (ls' := [some (.ref a0), some (.int x1), some (.int x2), some (.int x3), some (.int x4), some (.int x5), some (.int x6), some (.ref a7), some (.ref a8), some (.int x9), some (.int x10), some (.int x11), some (.int (y0 + (nI 0))), some (.int x13), some (.int x14), v15]) (Nat.le_of_ble_eq_true rfl) rfl rfl) ?_
  refine Eq.trans (zd_iinc zh93 (ls' := [some (.ref a0), some (.int x1), some (.int x2), some (.int x3), some (.int x4), some (.int x5), some (.int x6), some (.ref a7), some (.ref a8), some (.int x9), some (.int x10), some (.int x11), some (.int (y0 + (nI 0))), some (.int x13), some (.int (x14 + (nI 1))), v15]) (v := (x14 + (nI 1))) rfl rfl rfl rfl) ?_
  refine Eq.trans (zd_goto zh93 (t := 87) (by decide) rfl) ?_
  exact rfl
set_option maxRecDepth 20000 in
theorem b93_157 {scr : List Int32} {w : zAW} {a0 : Nat} {x1 : Int32} {x2 : Int32} {x3 : Int32} {x4 : Int32} {x5 : Int32} {x6 : Int32} {a7 : Nat} {a8 : Nat} {x9 : Int32} {x10 : Int32} {x11 : Int32} {x12 : Int32} {x13 : Int32} {x14 : Int32} {v15 : Option Value}  : zd scr 93 157 [some (.ref a0), some (.int x1), some (.int x2), some (.int x3), some (.int x4), some (.int x5), some (.int x6), some (.ref a7), some (.ref a8), some (.int x9), some (.int x10), some (.int x11), some (.int x12), some (.int x13), some (.int x14), v15] [] w = if x10 = 0 then zd scr 93 185 [some (.ref a0), some (.int x1), some (.int x2), some (.int x3), some (.int x4), some (.int x5), some (.int x6), some (.ref a7), some (.ref a8), some (.int x9), some (.int x10), some (.int x11), some (.int x12), some (.int x13), some (.int x14), some (.int x13)] [.int x14, .ref a7] w else zd scr 93 175 [some (.ref a0), some (.int x1), some (.int x2), some (.int x3), some (.int x4), some (.int x5), some (.int x6), some (.ref a7), some (.ref a8), some (.int x9), some (.int x10), some (.int x11), some (.int x12), some (.int x13), some (.int x14), some (.int x13)] [.int x14, .ref a7] w := by
  refine Eq.trans (zd_iload zh93 rfl rfl) ?_
  refine Eq.trans (zd_goto zh93 (t := 164) (by decide) rfl) ?_
  refine Eq.trans (zd_istore zh93 (ls' := [some (.ref a0), some (.int x1), some (.int x2), some (.int x3), some (.int x4), some (.int x5), some (.int x6), some (.ref a7), some (.ref a8), some (.int x9), some (.int x10), some (.int x11), some (.int x12), some (.int x13), some (.int x14), some (.int x13)]) (Nat.le_of_ble_eq_true rfl) rfl rfl) ?_
  refine Eq.trans (zd_aload zh93 rfl rfl) ?_
  refine Eq.trans (zd_iload zh93 rfl rfl) ?_
  refine Eq.trans (zd_iload zh93 rfl rfl) ?_
  exact zd_ifeq zh93 (t := 185) (by decide) rfl
set_option maxRecDepth 20000 in
theorem b93_162 {scr : List Int32} {w : zAW} {a0 : Nat} {x1 : Int32} {x2 : Int32} {x3 : Int32} {x4 : Int32} {x5 : Int32} {x6 : Int32} {a7 : Nat} {a8 : Nat} {x9 : Int32} {x10 : Int32} {x11 : Int32} {x12 : Int32} {x13 : Int32} {x14 : Int32} {v15 : Option Value}  : zd scr 93 162 [some (.ref a0), some (.int x1), some (.int x2), some (.int x3), some (.int x4), some (.int x5), some (.int x6), some (.ref a7), some (.ref a8), some (.int x9), some (.int x10), some (.int x11), some (.int x12), some (.int x13), some (.int x14), v15] [] w = if x10 = 0 then zd scr 93 185 [some (.ref a0), some (.int x1), some (.int x2), some (.int x3), some (.int x4), some (.int x5), some (.int x6), some (.ref a7), some (.ref a8), some (.int x9), some (.int x10), some (.int x11), some (.int x12), some (.int x13), some (.int x14), some (.int x11)] [.int x14, .ref a7] w else zd scr 93 175 [some (.ref a0), some (.int x1), some (.int x2), some (.int x3), some (.int x4), some (.int x5), some (.int x6), some (.ref a7), some (.ref a8), some (.int x9), some (.int x10), some (.int x11), some (.int x12), some (.int x13), some (.int x14), some (.int x11)] [.int x14, .ref a7] w := by
  refine Eq.trans (zd_iload zh93 rfl rfl) ?_
  refine Eq.trans (zd_istore zh93 (ls' := [some (.ref a0), some (.int x1), some (.int x2), some (.int x3), some (.int x4), some (.int x5), some (.int x6), some (.ref a7), some (.ref a8), some (.int x9), some (.int x10), some (.int x11), some (.int x12), some (.int x13), some (.int x14), some (.int x11)]) (Nat.le_of_ble_eq_true rfl) rfl rfl) ?_
  refine Eq.trans (zd_aload zh93 rfl rfl) ?_
  refine Eq.trans (zd_iload zh93 rfl rfl) ?_
  refine Eq.trans (zd_iload zh93 rfl rfl) ?_
  exact zd_ifeq zh93 (t := 185) (by decide) rfl
set_option maxRecDepth 20000 in
theorem b93_278 {scr : List Int32} {w : zAW} {a0 : Nat} {x1 : Int32} {x2 : Int32} {x3 : Int32} {x4 : Int32} {x5 : Int32} {x6 : Int32} {a7 : Nat} {a8 : Nat} {x9 : Int32} {x10 : Int32} {x11 : Int32} {x12 : Int32} {x13 : Int32} {x14 : Int32} {v15 : Option Value} (h1 : zob w a0 5 = true) {f1 : Int32} {w1 : zAW} (h2 : zC scr 64 [.ref a0, .int x10, .int (nI 3)] w = some (some (.int f1), w1)) : zd scr 93 278 [some (.ref a0), some (.int x1), some (.int x2), some (.int x3), some (.int x4), some (.int x5), some (.int x6), some (.ref a7), some (.ref a8), some (.int x9), some (.int x10), some (.int x11), some (.int x12), some (.int x13), some (.int x14), v15] [] w = if f1 = x11 then zd scr 93 290 [some (.ref a0), some (.int x1), some (.int x2), some (.int x3), some (.int x4), some (.int x5), some (.int x6), some (.ref a7), some (.ref a8), some (.int x9), some (.int x10), some (.int x11), some (.int x12), some (.int x13), some (.int x14), v15] [] w1 else zd scr 93 319 [some (.ref a0), some (.int x1), some (.int x2), some (.int x3), some (.int x4), some (.int x5), some (.int x6), some (.ref a7), some (.ref a8), some (.int x9), some (.int x10), some (.int x11), some (.int x12), some (.int x13), some (.int x14), v15] [] w1 := by
  refine Eq.trans (zd_aload_n zh93 rfl rfl) ?_
  refine Eq.trans (zd_iload zh93 rfl rfl) ?_
  refine Eq.trans (zd_iconst zh93 (v := (nI 3)) rfl rfl) ?_
  refine Eq.trans (zd_invVi zh93 zh64 rfl rfl ⟨Nat.le_of_ble_eq_true rfl, Nat.le_of_ble_eq_true rfl, Nat.le_of_ble_eq_true rfl, Nat.le_of_ble_eq_true rfl⟩ rfl h1 h2 rfl) ?_
  refine Eq.trans (zd_iload zh93 rfl rfl) ?_
  exact zd_icmpne zh93 (t := 319) (by decide) rfl
set_option maxRecDepth 20000 in
theorem b93_319 {scr : List Int32} {w : zAW} {a0 : Nat} {x1 : Int32} {x2 : Int32} {x3 : Int32} {x4 : Int32} {x5 : Int32} {x6 : Int32} {a7 : Nat} {a8 : Nat} {x9 : Int32} {x10 : Int32} {x11 : Int32} {x12 : Int32} {x13 : Int32} {x14 : Int32} {v15 : Option Value}  : zd scr 93 319 [some (.ref a0), some (.int x1), some (.int x2), some (.int x3), some (.int x4), some (.int x5), some (.int x6), some (.ref a7), some (.ref a8), some (.int x9), some (.int x10), some (.int x11), some (.int x12), some (.int x13), some (.int x14), v15] [] w = zd scr 93 58 [some (.ref a0), some (.int x1), some (.int x2), some (.int x3), some (.int x4), some (.int x5), some (.int x6), some (.ref a7), some (.ref a8), some (.int (nI 0)), some (.int (x10 + (nI 1))), some (.int x11), some (.int x12), some (.int x13), some (.int x14), v15] [] w := by
  refine Eq.trans (zd_iconst zh93 (v := (nI 0)) rfl rfl) ?_
  refine Eq.trans (zd_istore zh93 (ls' := [some (.ref a0), some (.int x1), some (.int x2), some (.int x3), some (.int x4), some (.int x5), some (.int x6), some (.ref a7), some (.ref a8), some (.int (nI 0)), some (.int x10), some (.int x11), some (.int x12), some (.int x13), some (.int x14), v15]) (Nat.le_of_ble_eq_true rfl) rfl rfl) ?_
  refine Eq.trans (zd_iinc zh93 (ls' := [some (.ref a0), some (.int x1), some (.int x2), some (.int x3), some (.int x4), some (.int x5), some (.int x6), some (.ref a7), some (.ref a8), some (.int (nI 0)), some (.int (x10 + (nI 1))), some (.int x11), some (.int x12), some (.int x13), some (.int x14), v15]) (v := (x10 + (nI 1))) rfl rfl rfl rfl) ?_
  refine Eq.trans (zd_goto zh93 (t := 58) (by decide) rfl) ?_
  exact rfl
set_option maxRecDepth 20000 in
theorem b93_431 {scr : List Int32} {w : zAW} {a0 : Nat} {x1 : Int32} {x2 : Int32} {x3 : Int32} {x4 : Int32} {x5 : Int32} {x6 : Int32} {a7 : Nat} {a8 : Nat} {x9 : Int32} {x10 : Int32} {v11 : Option Value} {v12 : Option Value} {v13 : Option Value} {v14 : Option Value} {v15 : Option Value}  : zd scr 93 431 [some (.ref a0), some (.int x1), some (.int x2), some (.int x3), some (.int x4), some (.int x5), some (.int x6), some (.ref a7), some (.ref a8), some (.int x9), some (.int x10), v11, v12, v13, v14, v15] [] w = if (nI 0) = 0 then zd scr 93 486 [some (.ref a0), some (.int x1), some (.int x2), some (.int x3), some (.int x4), some (.int x5), some (.int x6), some (.ref a7), some (.ref a8), some (.int (nI 0)), some (.int x10), v11, v12, v13, v14, v15] [] w else zd scr 93 439 [some (.ref a0), some (.int x1), some (.int x2), some (.int x3), some (.int x4), some (.int x5), some (.int x6), some (.ref a7), some (.ref a8), some (.int (nI 0)), some (.int x10), v11, v12, v13, v14, v15] [] w := by
  refine Eq.trans (zd_iconst zh93 (v := (nI 0)) rfl rfl) ?_
  refine Eq.trans (zd_istore zh93 (ls' := [some (.ref a0), some (.int x1), some (.int x2), some (.int x3), some (.int x4), some (.int x5), some (.int x6), some (.ref a7), some (.ref a8), some (.int (nI 0)), some (.int x10), v11, v12, v13, v14, v15]) (Nat.le_of_ble_eq_true rfl) rfl rfl) ?_
  refine Eq.trans (zd_iload zh93 rfl rfl) ?_
  exact zd_ifeq zh93 (t := 486) (by decide) rfl
set_option maxRecDepth 20000 in
theorem b93_364 {scr : List Int32} {w : zAW} {a0 : Nat} {x1 : Int32} {x2 : Int32} {x3 : Int32} {x4 : Int32} {x5 : Int32} {x6 : Int32} {a7 : Nat} {a8 : Nat} {x9 : Int32} {x10 : Int32} {v11 : Option Value} {v12 : Option Value} {v13 : Option Value} {v14 : Option Value} {v15 : Option Value}  : zd scr 93 364 [some (.ref a0), some (.int x1), some (.int x2), some (.int x3), some (.int x4), some (.int x5), some (.int x6), some (.ref a7), some (.ref a8), some (.int x9), some (.int x10), v11, v12, v13, v14, v15] [] w = if x2 = (((nI 1) <<< (x1 &&& 31)) - (nI 1)) then zd scr 93 373 [some (.ref a0), some (.int x1), some (.int x2), some (.int x3), some (.int x4), some (.int x5), some (.int x6), some (.ref a7), some (.ref a8), some (.int x9), some (.int x10), v11, v12, v13, v14, v15] [] w else zd scr 93 431 [some (.ref a0), some (.int x1), some (.int x2), some (.int x3), some (.int x4), some (.int x5), some (.int x6), some (.ref a7), some (.ref a8), some (.int x9), some (.int x10), v11, v12, v13, v14, v15] [] w := by
  refine Eq.trans (zd_iload_n zh93 rfl rfl) ?_
  refine Eq.trans (zd_iconst zh93 (v := (nI 1)) rfl rfl) ?_
  refine Eq.trans (zd_iload_n zh93 rfl rfl) ?_
  refine Eq.trans (zd_ishl zh93 rfl) ?_
  refine Eq.trans (zd_iconst zh93 (v := (nI 1)) rfl rfl) ?_
  refine Eq.trans (zd_isub zh93 rfl) ?_
  exact zd_icmpne zh93 (t := 431) (by decide) rfl
set_option maxRecDepth 20000 in
theorem b93_185 {scr : List Int32} {w : zAW} {a0 : Nat} {x1 : Int32} {x2 : Int32} {x3 : Int32} {x4 : Int32} {x5 : Int32} {x6 : Int32} {a7 : Nat} {a8 : Nat} {x9 : Int32} {x10 : Int32} {x11 : Int32} {x12 : Int32} {x13 : Int32} {x14 : Int32} {x15 : Int32} {c0 : Nat} {y1 : Int32} {w1 : zAW} (h1 : zas w c0 y1 x15 = some w1) : zd scr 93 185 [some (.ref a0), some (.int x1), some (.int x2), some (.int x3), some (.int x4), some (.int x5), some (.int x6), some (.ref a7), some (.ref a8), some (.int x9), some (.int x10), some (.int x11), some (.int x12), some (.int x13), some (.int x14), some (.int x15)] [.int y1, .ref c0] w = if x10 = 0 then zd scr 93 215 [some (.ref a0), some (.int x1), some (.int x2), some (.int x3), some (.int x4), some (.int x5), some (.int x6), some (.ref a7), some (.ref a8), some (.int x9), some (.int x10), some (.int x11), some (.int x12), some (.int x13), some (.int x14), some (.int x15)] [.int x14, .ref a8] w1 else zd scr 93 205 [some (.ref a0), some (.int x1), some (.int x2), some (.int x3), some (.int x4), some (.int x5), some (.int x6), some (.ref a7), some (.ref a8), some (.int x9), some (.int x10), some (.int x11), some (.int x12), some (.int x13), some (.int x14), some (.int x15)] [.int x14, .ref a8] w1 := by
  refine Eq.trans (zd_iload zh93 rfl rfl) ?_
  refine Eq.trans (zd_goto zh93 (t := 195) (by decide) rfl) ?_
  refine Eq.trans (zd_iastore zh93 h1 rfl) ?_
  refine Eq.trans (zd_aload zh93 rfl rfl) ?_
  refine Eq.trans (zd_iload zh93 rfl rfl) ?_
  refine Eq.trans (zd_iload zh93 rfl rfl) ?_
  exact zd_ifeq zh93 (t := 215) (by decide) rfl
set_option maxRecDepth 20000 in
theorem b93_175 {scr : List Int32} {w : zAW} {a0 : Nat} {x1 : Int32} {x2 : Int32} {x3 : Int32} {x4 : Int32} {x5 : Int32} {x6 : Int32} {a7 : Nat} {a8 : Nat} {x9 : Int32} {x10 : Int32} {x11 : Int32} {x12 : Int32} {x13 : Int32} {x14 : Int32} {x15 : Int32} {c0 : Nat} {y1 : Int32} {f1 : Int32} (h1 : zal w a7 x14 = some f1) : zd scr 93 175 [some (.ref a0), some (.int x1), some (.int x2), some (.int x3), some (.int x4), some (.int x5), some (.int x6), some (.ref a7), some (.ref a8), some (.int x9), some (.int x10), some (.int x11), some (.int x12), some (.int x13), some (.int x14), some (.int x15)] [.int y1, .ref c0] w = if x15 < f1 then zd scr 93 185 [some (.ref a0), some (.int x1), some (.int x2), some (.int x3), some (.int x4), some (.int x5), some (.int x6), some (.ref a7), some (.ref a8), some (.int x9), some (.int x10), some (.int x11), some (.int x12), some (.int x13), some (.int x14), some (.int x15)] [.int y1, .ref c0] w else zd scr 93 190 [some (.ref a0), some (.int x1), some (.int x2), some (.int x3), some (.int x4), some (.int x5), some (.int x6), some (.ref a7), some (.ref a8), some (.int x9), some (.int x10), some (.int x11), some (.int x12), some (.int x13), some (.int x14), some (.int x15)] [.int y1, .ref c0] w := by
  refine Eq.trans (zd_iload zh93 rfl rfl) ?_
  refine Eq.trans (zd_aload zh93 rfl rfl) ?_
  refine Eq.trans (zd_iload zh93 rfl rfl) ?_
  refine Eq.trans (zd_iaload zh93 h1 rfl) ?_
  exact zd_icmpge zh93 (t := 190) (by decide) rfl
set_option maxRecDepth 20000 in
theorem b93_290 {scr : List Int32} {w : zAW} {a0 : Nat} {x1 : Int32} {x2 : Int32} {x3 : Int32} {x4 : Int32} {x5 : Int32} {x6 : Int32} {a7 : Nat} {a8 : Nat} {x9 : Int32} {x10 : Int32} {x11 : Int32} {x12 : Int32} {x13 : Int32} {x14 : Int32} {v15 : Option Value} (h1 : zob w a0 5 = true) {f1 : Int32} {w1 : zAW} (h2 : zC scr 64 [.ref a0, .int x10, .int (nI 4)] w = some (some (.int f1), w1)) : zd scr 93 290 [some (.ref a0), some (.int x1), some (.int x2), some (.int x3), some (.int x4), some (.int x5), some (.int x6), some (.ref a7), some (.ref a8), some (.int x9), some (.int x10), some (.int x11), some (.int x12), some (.int x13), some (.int x14), v15] [] w = if f1 = x12 then zd scr 93 302 [some (.ref a0), some (.int x1), some (.int x2), some (.int x3), some (.int x4), some (.int x5), some (.int x6), some (.ref a7), some (.ref a8), some (.int x9), some (.int x10), some (.int x11), some (.int x12), some (.int x13), some (.int x14), v15] [] w1 else zd scr 93 319 [some (.ref a0), some (.int x1), some (.int x2), some (.int x3), some (.int x4), some (.int x5), some (.int x6), some (.ref a7), some (.ref a8), some (.int x9), some (.int x10), some (.int x11), some (.int x12), some (.int x13), some (.int x14), v15] [] w1 := by
  refine Eq.trans (zd_aload_n zh93 rfl rfl) ?_
  refine Eq.trans (zd_iload zh93 rfl rfl) ?_
  refine Eq.trans (zd_iconst zh93 (v := (nI 4)) rfl rfl) ?_
  refine Eq.trans (zd_invVi zh93 zh64 rfl rfl ⟨Nat.le_of_ble_eq_true rfl, Nat.le_of_ble_eq_true rfl, Nat.le_of_ble_eq_true rfl, Nat.le_of_ble_eq_true rfl⟩ rfl h1 h2 rfl) ?_
  refine Eq.trans (zd_iload zh93 rfl rfl) ?_
  exact zd_icmpne zh93 (t := 319) (by decide) rfl
set_option maxRecDepth 20000 in
theorem b93_486 {scr : List Int32} {w : zAW} {a0 : Nat} {x1 : Int32} {x2 : Int32} {x3 : Int32} {x4 : Int32} {x5 : Int32} {x6 : Int32} {a7 : Nat} {a8 : Nat} {x9 : Int32} {x10 : Int32} {v11 : Option Value} {v12 : Option Value} {v13 : Option Value} {v14 : Option Value} {v15 : Option Value}  : zd scr 93 486 [some (.ref a0), some (.int x1), some (.int x2), some (.int x3), some (.int x4), some (.int x5), some (.int x6), some (.ref a7), some (.ref a8), some (.int x9), some (.int x10), v11, v12, v13, v14, v15] [] w = some (some (.int (nI 0)), w) := by
  refine Eq.trans (zd_iconst zh93 (v := (nI 0)) rfl rfl) ?_
  exact zd_iret zh93 rfl rfl
set_option maxRecDepth 20000 in
theorem b93_439 {scr : List Int32} {w : zAW} {a0 : Nat} {x1 : Int32} {x2 : Int32} {x3 : Int32} {x4 : Int32} {x5 : Int32} {x6 : Int32} {a7 : Nat} {a8 : Nat} {x9 : Int32} {x10 : Int32} {v11 : Option Value} {v12 : Option Value} {v13 : Option Value} {v14 : Option Value} {v15 : Option Value} (h1 : zob w a0 5 = true) {f1 : Int32} {w1 : zAW} (h2 : zC scr 69 [.ref a0, .int (nI 9)] w = some (some (.int f1), w1)) {f2 : Int32} (h3 : zal w1 a8 (nI 0) = some f2) {f3 : Int32} (h4 : zal w1 a7 (nI 0) = some f3) : zd scr 93 439 [some (.ref a0), some (.int x1), some (.int x2), some (.int x3), some (.int x4), some (.int x5), some (.int x6), some (.ref a7), some (.ref a8), some (.int x9), some (.int x10), v11, v12, v13, v14, v15] [] w = if f1 = (f2 - f3) then zd scr 93 457 [some (.ref a0), some (.int x1), some (.int x2), some (.int x3), some (.int x4), some (.int x5), some (.int x6), some (.ref a7), some (.ref a8), some (.int x9), some (.int x10), v11, v12, v13, v14, v15] [] w1 else zd scr 93 486 [some (.ref a0), some (.int x1), some (.int x2), some (.int x3), some (.int x4), some (.int x5), some (.int x6), some (.ref a7), some (.ref a8), some (.int x9), some (.int x10), v11, v12, v13, v14, v15] [] w1 := by
  refine Eq.trans (zd_aload_n zh93 rfl rfl) ?_
  refine Eq.trans (zd_bipush zh93 (v := (nI 9)) rfl rfl) ?_
  refine Eq.trans (zd_invVi zh93 zh69 rfl rfl ⟨Nat.le_of_ble_eq_true rfl, Nat.le_of_ble_eq_true rfl, Nat.le_of_ble_eq_true rfl, Nat.le_of_ble_eq_true rfl⟩ rfl h1 h2 rfl) ?_
  refine Eq.trans (zd_aload zh93 rfl rfl) ?_
  refine Eq.trans (zd_iconst zh93 (v := (nI 0)) rfl rfl) ?_
  refine Eq.trans (zd_iaload zh93 h3 rfl) ?_
  refine Eq.trans (zd_aload zh93 rfl rfl) ?_
  refine Eq.trans (zd_iconst zh93 (v := (nI 0)) rfl rfl) ?_
  refine Eq.trans (zd_iaload zh93 h4 rfl) ?_
  refine Eq.trans (zd_isub zh93 rfl) ?_
  exact zd_icmpne zh93 (t := 486) (by decide) rfl
set_option maxRecDepth 20000 in
theorem b93_373 {scr : List Int32} {w : zAW} {a0 : Nat} {x1 : Int32} {x2 : Int32} {x3 : Int32} {x4 : Int32} {x5 : Int32} {x6 : Int32} {a7 : Nat} {a8 : Nat} {x9 : Int32} {x10 : Int32} {v11 : Option Value} {v12 : Option Value} {v13 : Option Value} {v14 : Option Value} {v15 : Option Value} (h1 : zob w a0 5 = true) {f1 : Int32} {w1 : zAW} (h2 : zC scr 69 [.ref a0, .int (nI 2)] w = some (some (.int f1), w1)) : zd scr 93 373 [some (.ref a0), some (.int x1), some (.int x2), some (.int x3), some (.int x4), some (.int x5), some (.int x6), some (.ref a7), some (.ref a8), some (.int x9), some (.int x10), v11, v12, v13, v14, v15] [] w = if x3 = f1 then zd scr 93 382 [some (.ref a0), some (.int x1), some (.int x2), some (.int x3), some (.int x4), some (.int x5), some (.int x6), some (.ref a7), some (.ref a8), some (.int x9), some (.int x10), v11, v12, v13, v14, v15] [] w1 else zd scr 93 431 [some (.ref a0), some (.int x1), some (.int x2), some (.int x3), some (.int x4), some (.int x5), some (.int x6), some (.ref a7), some (.ref a8), some (.int x9), some (.int x10), v11, v12, v13, v14, v15] [] w1 := by
  refine Eq.trans (zd_iload_n zh93 rfl rfl) ?_
  refine Eq.trans (zd_aload_n zh93 rfl rfl) ?_
  refine Eq.trans (zd_iconst zh93 (v := (nI 2)) rfl rfl) ?_
  refine Eq.trans (zd_invVi zh93 zh69 rfl rfl ⟨Nat.le_of_ble_eq_true rfl, Nat.le_of_ble_eq_true rfl, Nat.le_of_ble_eq_true rfl, Nat.le_of_ble_eq_true rfl⟩ rfl h1 h2 rfl) ?_
  exact zd_icmpne zh93 (t := 431) (by decide) rfl
set_option maxRecDepth 20000 in
theorem b93_215 {scr : List Int32} {w : zAW} {a0 : Nat} {x1 : Int32} {x2 : Int32} {x3 : Int32} {x4 : Int32} {x5 : Int32} {x6 : Int32} {a7 : Nat} {a8 : Nat} {x9 : Int32} {x10 : Int32} {x11 : Int32} {x12 : Int32} {x13 : Int32} {x14 : Int32} {x15 : Int32} {c0 : Nat} {y1 : Int32} {w1 : zAW} (h1 : zas w c0 y1 x15 = some w1) : zd scr 93 215 [some (.ref a0), some (.int x1), some (.int x2), some (.int x3), some (.int x4), some (.int x5), some (.int x6), some (.ref a7), some (.ref a8), some (.int x9), some (.int x10), some (.int x11), some (.int x12), some (.int x13), some (.int x14), some (.int x15)] [.int y1, .ref c0] w = zd scr 93 146 [some (.ref a0), some (.int x1), some (.int x2), some (.int x3), some (.int x4), some (.int x5), some (.int x6), some (.ref a7), some (.ref a8), some (.int x9), some (.int x10), some (.int x11), some (.int x12), some (.int x13), some (.int (x14 + (nI 1))), some (.int x15)] [] w1 := by
  refine Eq.trans (zd_iload zh93 rfl rfl) ?_
  refine Eq.trans (zd_goto zh93 (t := 225) (by decide) rfl) ?_
  refine Eq.trans (zd_iastore zh93 h1 rfl) ?_
  refine Eq.trans (zd_iinc zh93 (ls' := [some (.ref a0), some (.int x1), some (.int x2), some (.int x3), some (.int x4), some (.int x5), some (.int x6), some (.ref a7), some (.ref a8), some (.int x9), some (.int x10), some (.int x11), some (.int x12), some (.int x13), some (.int (x14 + (nI 1))), some (.int x15)]) (v := (x14 + (nI 1))) rfl rfl rfl rfl) ?_
  refine Eq.trans (zd_goto zh93 (t := 146) (by decide) rfl) ?_
  exact rfl
set_option maxRecDepth 20000 in
theorem b93_205 {scr : List Int32} {w : zAW} {a0 : Nat} {x1 : Int32} {x2 : Int32} {x3 : Int32} {x4 : Int32} {x5 : Int32} {x6 : Int32} {a7 : Nat} {a8 : Nat} {x9 : Int32} {x10 : Int32} {x11 : Int32} {x12 : Int32} {x13 : Int32} {x14 : Int32} {x15 : Int32} {c0 : Nat} {y1 : Int32} {f1 : Int32} (h1 : zal w a8 x14 = some f1) : zd scr 93 205 [some (.ref a0), some (.int x1), some (.int x2), some (.int x3), some (.int x4), some (.int x5), some (.int x6), some (.ref a7), some (.ref a8), some (.int x9), some (.int x10), some (.int x11), some (.int x12), some (.int x13), some (.int x14), some (.int x15)] [.int y1, .ref c0] w = if f1 < x15 then zd scr 93 215 [some (.ref a0), some (.int x1), some (.int x2), some (.int x3), some (.int x4), some (.int x5), some (.int x6), some (.ref a7), some (.ref a8), some (.int x9), some (.int x10), some (.int x11), some (.int x12), some (.int x13), some (.int x14), some (.int x15)] [.int y1, .ref c0] w else zd scr 93 220 [some (.ref a0), some (.int x1), some (.int x2), some (.int x3), some (.int x4), some (.int x5), some (.int x6), some (.ref a7), some (.ref a8), some (.int x9), some (.int x10), some (.int x11), some (.int x12), some (.int x13), some (.int x14), some (.int x15)] [.int y1, .ref c0] w := by
  refine Eq.trans (zd_iload zh93 rfl rfl) ?_
  refine Eq.trans (zd_aload zh93 rfl rfl) ?_
  refine Eq.trans (zd_iload zh93 rfl rfl) ?_
  refine Eq.trans (zd_iaload zh93 h1 rfl) ?_
  exact zd_icmple zh93 (t := 220) (by decide) rfl
set_option maxRecDepth 20000 in
theorem b93_190 {scr : List Int32} {w : zAW} {a0 : Nat} {x1 : Int32} {x2 : Int32} {x3 : Int32} {x4 : Int32} {x5 : Int32} {x6 : Int32} {a7 : Nat} {a8 : Nat} {x9 : Int32} {x10 : Int32} {x11 : Int32} {x12 : Int32} {x13 : Int32} {x14 : Int32} {x15 : Int32} {c0 : Nat} {y1 : Int32} {f1 : Int32} (h1 : zal w a7 x14 = some f1) {w1 : zAW} (h2 : zas w c0 y1 f1 = some w1) : zd scr 93 190 [some (.ref a0), some (.int x1), some (.int x2), some (.int x3), some (.int x4), some (.int x5), some (.int x6), some (.ref a7), some (.ref a8), some (.int x9), some (.int x10), some (.int x11), some (.int x12), some (.int x13), some (.int x14), some (.int x15)] [.int y1, .ref c0] w = if x10 = 0 then zd scr 93 215 [some (.ref a0), some (.int x1), some (.int x2), some (.int x3), some (.int x4), some (.int x5), some (.int x6), some (.ref a7), some (.ref a8), some (.int x9), some (.int x10), some (.int x11), some (.int x12), some (.int x13), some (.int x14), some (.int x15)] [.int x14, .ref a8] w1 else zd scr 93 205 [some (.ref a0), some (.int x1), some (.int x2), some (.int x3), some (.int x4), some (.int x5), some (.int x6), some (.ref a7), some (.ref a8), some (.int x9), some (.int x10), some (.int x11), some (.int x12), some (.int x13), some (.int x14), some (.int x15)] [.int x14, .ref a8] w1 := by
  refine Eq.trans (zd_aload zh93 rfl rfl) ?_
  refine Eq.trans (zd_iload zh93 rfl rfl) ?_
  refine Eq.trans (zd_iaload zh93 h1 rfl) ?_
  refine Eq.trans (zd_iastore zh93 h2 rfl) ?_
  refine Eq.trans (zd_aload zh93 rfl rfl) ?_
  refine Eq.trans (zd_iload zh93 rfl rfl) ?_
  refine Eq.trans (zd_iload zh93 rfl rfl) ?_
  exact zd_ifeq zh93 (t := 215) (by decide) rfl
set_option maxRecDepth 20000 in
theorem b93_302 {scr : List Int32} {w : zAW} {a0 : Nat} {x1 : Int32} {x2 : Int32} {x3 : Int32} {x4 : Int32} {x5 : Int32} {x6 : Int32} {a7 : Nat} {a8 : Nat} {x9 : Int32} {x10 : Int32} {x11 : Int32} {x12 : Int32} {x13 : Int32} {x14 : Int32} {v15 : Option Value} (h1 : zob w a0 5 = true) {f1 : Int32} {w1 : zAW} (h2 : zC scr 65 [.ref a0, .int x10, .int x13, .int (nI 0)] w = some (some (.int f1), w1)) : zd scr 93 302 [some (.ref a0), some (.int x1), some (.int x2), some (.int x3), some (.int x4), some (.int x5), some (.int x6), some (.ref a7), some (.ref a8), some (.int x9), some (.int x10), some (.int x11), some (.int x12), some (.int x13), some (.int x14), v15] [] w = if f1 = (-1) then zd scr 93 315 [some (.ref a0), some (.int x1), some (.int x2), some (.int x3), some (.int x4), some (.int x5), some (.int x6), some (.ref a7), some (.ref a8), some (.int x9), some (.int x10), some (.int x11), some (.int x12), some (.int x13), some (.int x14), v15] [] w1 else zd scr 93 319 [some (.ref a0), some (.int x1), some (.int x2), some (.int x3), some (.int x4), some (.int x5), some (.int x6), some (.ref a7), some (.ref a8), some (.int x9), some (.int x10), some (.int x11), some (.int x12), some (.int x13), some (.int x14), v15] [] w1 := by
  refine Eq.trans (zd_aload_n zh93 rfl rfl) ?_
  refine Eq.trans (zd_iload zh93 rfl rfl) ?_
  refine Eq.trans (zd_iload zh93 rfl rfl) ?_
  refine Eq.trans (zd_iconst zh93 (v := (nI 0)) rfl rfl) ?_
  refine Eq.trans (zd_invVi zh93 zh65 rfl rfl ⟨Nat.le_of_ble_eq_true rfl, Nat.le_of_ble_eq_true rfl, Nat.le_of_ble_eq_true rfl, Nat.le_of_ble_eq_true rfl⟩ rfl h1 h2 rfl) ?_
  refine Eq.trans (zd_iconst zh93 (v := (-1)) rfl rfl) ?_
  exact zd_icmpne zh93 (t := 319) (by decide) rfl
set_option maxRecDepth 20000 in
theorem b93_457 {scr : List Int32} {w : zAW} {a0 : Nat} {x1 : Int32} {x2 : Int32} {x3 : Int32} {x4 : Int32} {x5 : Int32} {x6 : Int32} {a7 : Nat} {a8 : Nat} {x9 : Int32} {x10 : Int32} {v11 : Option Value} {v12 : Option Value} {v13 : Option Value} {v14 : Option Value} {v15 : Option Value} (h1 : zob w a0 5 = true) {f1 : Int32} {w1 : zAW} (h2 : zC scr 69 [.ref a0, .int (nI 10)] w = some (some (.int f1), w1)) {f2 : Int32} (h3 : zal w1 a8 (nI 1) = some f2) {f3 : Int32} (h4 : zal w1 a7 (nI 1) = some f3) : zd scr 93 457 [some (.ref a0), some (.int x1), some (.int x2), some (.int x3), some (.int x4), some (.int x5), some (.int x6), some (.ref a7), some (.ref a8), some (.int x9), some (.int x10), v11, v12, v13, v14, v15] [] w = if f1 = (f2 - f3) then zd scr 93 475 [some (.ref a0), some (.int x1), some (.int x2), some (.int x3), some (.int x4), some (.int x5), some (.int x6), some (.ref a7), some (.ref a8), some (.int x9), some (.int x10), v11, v12, v13, v14, v15] [] w1 else zd scr 93 486 [some (.ref a0), some (.int x1), some (.int x2), some (.int x3), some (.int x4), some (.int x5), some (.int x6), some (.ref a7), some (.ref a8), some (.int x9), some (.int x10), v11, v12, v13, v14, v15] [] w1 := by
  refine Eq.trans (zd_aload_n zh93 rfl rfl) ?_
  refine Eq.trans (zd_bipush zh93 (v := (nI 10)) rfl rfl) ?_
  refine Eq.trans (zd_invVi zh93 zh69 rfl rfl ⟨Nat.le_of_ble_eq_true rfl, Nat.le_of_ble_eq_true rfl, Nat.le_of_ble_eq_true rfl, Nat.le_of_ble_eq_true rfl⟩ rfl h1 h2 rfl) ?_
  refine Eq.trans (zd_aload zh93 rfl rfl) ?_
  refine Eq.trans (zd_iconst zh93 (v := (nI 1)) rfl rfl) ?_
  refine Eq.trans (zd_iaload zh93 h3 rfl) ?_
  refine Eq.trans (zd_aload zh93 rfl rfl) ?_
  refine Eq.trans (zd_iconst zh93 (v := (nI 1)) rfl rfl) ?_
  refine Eq.trans (zd_iaload zh93 h4 rfl) ?_
  refine Eq.trans (zd_isub zh93 rfl) ?_
  exact zd_icmpne zh93 (t := 486) (by decide) rfl
set_option maxRecDepth 20000 in
theorem b93_382 {scr : List Int32} {w : zAW} {a0 : Nat} {x1 : Int32} {x2 : Int32} {x3 : Int32} {x4 : Int32} {x5 : Int32} {x6 : Int32} {a7 : Nat} {a8 : Nat} {x9 : Int32} {x10 : Int32} {v11 : Option Value} {v12 : Option Value} {v13 : Option Value} {v14 : Option Value} {v15 : Option Value} (h1 : zob w a0 5 = true) {f1 : Int32} {w1 : zAW} (h2 : zC scr 69 [.ref a0, .int (nI 4)] w = some (some (.int f1), w1)) : zd scr 93 382 [some (.ref a0), some (.int x1), some (.int x2), some (.int x3), some (.int x4), some (.int x5), some (.int x6), some (.ref a7), some (.ref a8), some (.int x9), some (.int x10), v11, v12, v13, v14, v15] [] w = if x4 = f1 then zd scr 93 392 [some (.ref a0), some (.int x1), some (.int x2), some (.int x3), some (.int x4), some (.int x5), some (.int x6), some (.ref a7), some (.ref a8), some (.int x9), some (.int x10), v11, v12, v13, v14, v15] [] w1 else zd scr 93 431 [some (.ref a0), some (.int x1), some (.int x2), some (.int x3), some (.int x4), some (.int x5), some (.int x6), some (.ref a7), some (.ref a8), some (.int x9), some (.int x10), v11, v12, v13, v14, v15] [] w1 := by
  refine Eq.trans (zd_iload zh93 rfl rfl) ?_
  refine Eq.trans (zd_aload_n zh93 rfl rfl) ?_
  refine Eq.trans (zd_iconst zh93 (v := (nI 4)) rfl rfl) ?_
  refine Eq.trans (zd_invVi zh93 zh69 rfl rfl ⟨Nat.le_of_ble_eq_true rfl, Nat.le_of_ble_eq_true rfl, Nat.le_of_ble_eq_true rfl, Nat.le_of_ble_eq_true rfl⟩ rfl h1 h2 rfl) ?_
  exact zd_icmpne zh93 (t := 431) (by decide) rfl
set_option maxRecDepth 20000 in
theorem b93_220 {scr : List Int32} {w : zAW} {a0 : Nat} {x1 : Int32} {x2 : Int32} {x3 : Int32} {x4 : Int32} {x5 : Int32} {x6 : Int32} {a7 : Nat} {a8 : Nat} {x9 : Int32} {x10 : Int32} {x11 : Int32} {x12 : Int32} {x13 : Int32} {x14 : Int32} {x15 : Int32} {c0 : Nat} {y1 : Int32} {f1 : Int32} (h1 : zal w a8 x14 = some f1) {w1 : zAW} (h2 : zas w c0 y1 f1 = some w1) : zd scr 93 220 [some (.ref a0), some (.int x1), some (.int x2), some (.int x3), some (.int x4), some (.int x5), some (.int x6), some (.ref a7), some (.ref a8), some (.int x9), some (.int x10), some (.int x11), some (.int x12), some (.int x13), some (.int x14), some (.int x15)] [.int y1, .ref c0] w = zd scr 93 146 [some (.ref a0), some (.int x1), some (.int x2), some (.int x3), some (.int x4), some (.int x5), some (.int x6), some (.ref a7), some (.ref a8), some (.int x9), some (.int x10), some (.int x11), some (.int x12), some (.int x13), some (.int (x14 + (nI 1))), some (.int x15)] [] w1 := by
  refine Eq.trans (zd_aload zh93 rfl rfl) ?_
  refine Eq.trans (zd_iload zh93 rfl rfl) ?_
  refine Eq.trans (zd_iaload zh93 h1 rfl) ?_
  refine Eq.trans (zd_iastore zh93 h2 rfl) ?_
  refine Eq.trans (zd_iinc zh93 (ls' := [some (.ref a0), some (.int x1), some (.int x2), some (.int x3), some (.int x4), some (.int x5), some (.int x6), some (.ref a7), some (.ref a8), some (.int x9), some (.int x10), some (.int x11), some (.int x12), some (.int x13), some (.int (x14 + (nI 1))), some (.int x15)]) (v := (x14 + (nI 1))) rfl rfl rfl rfl) ?_
  refine Eq.trans (zd_goto zh93 (t := 146) (by decide) rfl) ?_
  exact rfl
set_option maxRecDepth 20000 in
theorem b93_315 {scr : List Int32} {w : zAW} {a0 : Nat} {x1 : Int32} {x2 : Int32} {x3 : Int32} {x4 : Int32} {x5 : Int32} {x6 : Int32} {a7 : Nat} {a8 : Nat} {x9 : Int32} {x10 : Int32} {x11 : Int32} {x12 : Int32} {x13 : Int32} {x14 : Int32} {v15 : Option Value}  : zd scr 93 315 [some (.ref a0), some (.int x1), some (.int x2), some (.int x3), some (.int x4), some (.int x5), some (.int x6), some (.ref a7), some (.ref a8), some (.int x9), some (.int x10), some (.int x11), some (.int x12), some (.int x13), some (.int x14), v15] [] w = zd scr 93 58 [some (.ref a0), some (.int x1), some (.int x2), some (.int x3), some (.int x4), some (.int x5), some (.int x6), some (.ref a7), some (.ref a8), some (.int (nI 1)), some (.int (x10 + (nI 1))), some (.int x11), some (.int x12), some (.int x13), some (.int x14), v15] [] w := by
  refine Eq.trans (zd_iconst zh93 (v := (nI 1)) rfl rfl) ?_
  refine Eq.trans (zd_goto zh93 (t := 320) (by decide) rfl) ?_
  refine Eq.trans (zd_istore zh93 (ls' := [some (.ref a0), some (.int x1), some (.int x2), some (.int x3), some (.int x4), some (.int x5), some (.int x6), some (.ref a7), some (.ref a8), some (.int (nI 1)), some (.int x10), some (.int x11), some (.int x12), some (.int x13), some (.int x14), v15]) (Nat.le_of_ble_eq_true rfl) rfl rfl) ?_
  refine Eq.trans (zd_iinc zh93 (ls' := [some (.ref a0), some (.int x1), some (.int x2), some (.int x3), some (.int x4), some (.int x5), some (.int x6), some (.ref a7), some (.ref a8), some (.int (nI 1)), some (.int (x10 + (nI 1))), some (.int x11), some (.int x12), some (.int x13), some (.int x14), v15]) (v := (x10 + (nI 1))) rfl rfl rfl rfl) ?_
  refine Eq.trans (zd_goto zh93 (t := 58) (by decide) rfl) ?_
  exact rfl
set_option maxRecDepth 20000 in
theorem b93_475 {scr : List Int32} {w : zAW} {a0 : Nat} {x1 : Int32} {x2 : Int32} {x3 : Int32} {x4 : Int32} {x5 : Int32} {x6 : Int32} {a7 : Nat} {a8 : Nat} {x9 : Int32} {x10 : Int32} {v11 : Option Value} {v12 : Option Value} {v13 : Option Value} {v14 : Option Value} {v15 : Option Value} {f1 : Int32} {w1 : zAW} (h1 : zC scr 91 [.ref a0] w = some (some (.int f1), w1)) : zd scr 93 475 [some (.ref a0), some (.int x1), some (.int x2), some (.int x3), some (.int x4), some (.int x5), some (.int x6), some (.ref a7), some (.ref a8), some (.int x9), some (.int x10), v11, v12, v13, v14, v15] [] w = if f1 = 0 then zd scr 93 486 [some (.ref a0), some (.int x1), some (.int x2), some (.int x3), some (.int x4), some (.int x5), some (.int x6), some (.ref a7), some (.ref a8), some (.int x9), some (.int x10), v11, v12, v13, v14, v15] [] w1 else zd scr 93 482 [some (.ref a0), some (.int x1), some (.int x2), some (.int x3), some (.int x4), some (.int x5), some (.int x6), some (.ref a7), some (.ref a8), some (.int x9), some (.int x10), v11, v12, v13, v14, v15] [] w1 := by
  refine Eq.trans (zd_aload_n zh93 rfl rfl) ?_
  refine Eq.trans (zd_invSi zh93 zh91 rfl rfl ⟨Nat.le_of_ble_eq_true rfl, Nat.le_of_ble_eq_true rfl, Nat.le_of_ble_eq_true rfl, Or.inl (Nat.le_of_ble_eq_true rfl), Nat.le_of_ble_eq_true rfl⟩ rfl h1 rfl) ?_
  exact zd_ifeq zh93 (t := 486) (by decide) rfl
set_option maxRecDepth 20000 in
theorem b93_392 {scr : List Int32} {w : zAW} {a0 : Nat} {x1 : Int32} {x2 : Int32} {x3 : Int32} {x4 : Int32} {x5 : Int32} {x6 : Int32} {a7 : Nat} {a8 : Nat} {x9 : Int32} {x10 : Int32} {v11 : Option Value} {v12 : Option Value} {v13 : Option Value} {v14 : Option Value} {v15 : Option Value} (h1 : zob w a0 5 = true) {f1 : Int32} {w1 : zAW} (h2 : zC scr 69 [.ref a0, .int (nI 8)] w = some (some (.int f1), w1)) : zd scr 93 392 [some (.ref a0), some (.int x1), some (.int x2), some (.int x3), some (.int x4), some (.int x5), some (.int x6), some (.ref a7), some (.ref a8), some (.int x9), some (.int x10), v11, v12, v13, v14, v15] [] w = if x5 = f1 then zd scr 93 403 [some (.ref a0), some (.int x1), some (.int x2), some (.int x3), some (.int x4), some (.int x5), some (.int x6), some (.ref a7), some (.ref a8), some (.int x9), some (.int x10), v11, v12, v13, v14, v15] [] w1 else zd scr 93 431 [some (.ref a0), some (.int x1), some (.int x2), some (.int x3), some (.int x4), some (.int x5), some (.int x6), some (.ref a7), some (.ref a8), some (.int x9), some (.int x10), v11, v12, v13, v14, v15] [] w1 := by
  refine Eq.trans (zd_iload zh93 rfl rfl) ?_
  refine Eq.trans (zd_aload_n zh93 rfl rfl) ?_
  refine Eq.trans (zd_bipush zh93 (v := (nI 8)) rfl rfl) ?_
  refine Eq.trans (zd_invVi zh93 zh69 rfl rfl ⟨Nat.le_of_ble_eq_true rfl, Nat.le_of_ble_eq_true rfl, Nat.le_of_ble_eq_true rfl, Nat.le_of_ble_eq_true rfl⟩ rfl h1 h2 rfl) ?_
  exact zd_icmpne zh93 (t := 431) (by decide) rfl
set_option maxRecDepth 20000 in
theorem b93_482 {scr : List Int32} {w : zAW} {a0 : Nat} {x1 : Int32} {x2 : Int32} {x3 : Int32} {x4 : Int32} {x5 : Int32} {x6 : Int32} {a7 : Nat} {a8 : Nat} {x9 : Int32} {x10 : Int32} {v11 : Option Value} {v12 : Option Value} {v13 : Option Value} {v14 : Option Value} {v15 : Option Value}  : zd scr 93 482 [some (.ref a0), some (.int x1), some (.int x2), some (.int x3), some (.int x4), some (.int x5), some (.int x6), some (.ref a7), some (.ref a8), some (.int x9), some (.int x10), v11, v12, v13, v14, v15] [] w = some (some (.int (nI 1)), w) := by
  refine Eq.trans (zd_iconst zh93 (v := (nI 1)) rfl rfl) ?_
  refine Eq.trans (zd_goto zh93 (t := 487) (by decide) rfl) ?_
  exact zd_iret zh93 rfl rfl
set_option maxRecDepth 20000 in
theorem b93_403 {scr : List Int32} {w : zAW} {a0 : Nat} {x1 : Int32} {x2 : Int32} {x3 : Int32} {x4 : Int32} {x5 : Int32} {x6 : Int32} {a7 : Nat} {a8 : Nat} {x9 : Int32} {x10 : Int32} {v11 : Option Value} {v12 : Option Value} {v13 : Option Value} {v14 : Option Value} {v15 : Option Value} (h1 : zob w a0 5 = true) {f1 : Int32} {w1 : zAW} (h2 : zC scr 69 [.ref a0, .int (nI 3)] w = some (some (.int f1), w1)) : zd scr 93 403 [some (.ref a0), some (.int x1), some (.int x2), some (.int x3), some (.int x4), some (.int x5), some (.int x6), some (.ref a7), some (.ref a8), some (.int x9), some (.int x10), v11, v12, v13, v14, v15] [] w = if x6 = f1 then zd scr 93 413 [some (.ref a0), some (.int x1), some (.int x2), some (.int x3), some (.int x4), some (.int x5), some (.int x6), some (.ref a7), some (.ref a8), some (.int x9), some (.int x10), v11, v12, v13, v14, v15] [] w1 else zd scr 93 431 [some (.ref a0), some (.int x1), some (.int x2), some (.int x3), some (.int x4), some (.int x5), some (.int x6), some (.ref a7), some (.ref a8), some (.int x9), some (.int x10), v11, v12, v13, v14, v15] [] w1 := by
  refine Eq.trans (zd_iload zh93 rfl rfl) ?_
  refine Eq.trans (zd_aload_n zh93 rfl rfl) ?_
  refine Eq.trans (zd_iconst zh93 (v := (nI 3)) rfl rfl) ?_
  refine Eq.trans (zd_invVi zh93 zh69 rfl rfl ⟨Nat.le_of_ble_eq_true rfl, Nat.le_of_ble_eq_true rfl, Nat.le_of_ble_eq_true rfl, Nat.le_of_ble_eq_true rfl⟩ rfl h1 h2 rfl) ?_
  exact zd_icmpne zh93 (t := 431) (by decide) rfl
set_option maxRecDepth 20000 in
theorem b93_413 {scr : List Int32} {w : zAW} {a0 : Nat} {x1 : Int32} {x2 : Int32} {x3 : Int32} {x4 : Int32} {x5 : Int32} {x6 : Int32} {a7 : Nat} {a8 : Nat} {x9 : Int32} {x10 : Int32} {v11 : Option Value} {v12 : Option Value} {v13 : Option Value} {v14 : Option Value} {v15 : Option Value} (h1 : zob w a0 5 = true) {f1 : Int32} {w1 : zAW} (h2 : zC scr 69 [.ref a0, .int (nI 1)] w = some (some (.int f1), w1)) (h3 : zob w1 a0 5 = true) {f2 : Int32} {w2 : zAW} (h4 : zC scr 66 [.ref a0, .int f1, .int (nI 0)] w1 = some (some (.int f2), w2)) : zd scr 93 413 [some (.ref a0), some (.int x1), some (.int x2), some (.int x3), some (.int x4), some (.int x5), some (.int x6), some (.ref a7), some (.ref a8), some (.int x9), some (.int x10), v11, v12, v13, v14, v15] [] w = if f2 = (-1) then zd scr 93 427 [some (.ref a0), some (.int x1), some (.int x2), some (.int x3), some (.int x4), some (.int x5), some (.int x6), some (.ref a7), some (.ref a8), some (.int x9), some (.int x10), v11, v12, v13, v14, v15] [] w2 else zd scr 93 431 [some (.ref a0), some (.int x1), some (.int x2), some (.int x3), some (.int x4), some (.int x5), some (.int x6), some (.ref a7), some (.ref a8), some (.int x9), some (.int x10), v11, v12, v13, v14, v15] [] w2 := by
  refine Eq.trans (zd_aload_n zh93 rfl rfl) ?_
  refine Eq.trans (zd_aload_n zh93 rfl rfl) ?_
  refine Eq.trans (zd_iconst zh93 (v := (nI 1)) rfl rfl) ?_
  refine Eq.trans (zd_invVi zh93 zh69 rfl rfl ⟨Nat.le_of_ble_eq_true rfl, Nat.le_of_ble_eq_true rfl, Nat.le_of_ble_eq_true rfl, Nat.le_of_ble_eq_true rfl⟩ rfl h1 h2 rfl) ?_
  refine Eq.trans (zd_iconst zh93 (v := (nI 0)) rfl rfl) ?_
  refine Eq.trans (zd_invVi zh93 zh66 rfl rfl ⟨Nat.le_of_ble_eq_true rfl, Nat.le_of_ble_eq_true rfl, Nat.le_of_ble_eq_true rfl, Nat.le_of_ble_eq_true rfl⟩ rfl h3 h4 rfl) ?_
  refine Eq.trans (zd_iconst zh93 (v := (-1)) rfl rfl) ?_
  exact zd_icmpne zh93 (t := 431) (by decide) rfl
set_option maxRecDepth 20000 in
theorem b93_427 {scr : List Int32} {w : zAW} {a0 : Nat} {x1 : Int32} {x2 : Int32} {x3 : Int32} {x4 : Int32} {x5 : Int32} {x6 : Int32} {a7 : Nat} {a8 : Nat} {x9 : Int32} {x10 : Int32} {v11 : Option Value} {v12 : Option Value} {v13 : Option Value} {v14 : Option Value} {v15 : Option Value}  : zd scr 93 427 [some (.ref a0), some (.int x1), some (.int x2), some (.int x3), some (.int x4), some (.int x5), some (.int x6), some (.ref a7), some (.ref a8), some (.int x9), some (.int x10), v11, v12, v13, v14, v15] [] w = if (nI 1) = 0 then zd scr 93 486 [some (.ref a0), some (.int x1), some (.int x2), some (.int x3), some (.int x4), some (.int x5), some (.int x6), some (.ref a7), some (.ref a8), some (.int (nI 1)), some (.int x10), v11, v12, v13, v14, v15] [] w else zd scr 93 439 [some (.ref a0), some (.int x1), some (.int x2), some (.int x3), some (.int x4), some (.int x5), some (.int x6), some (.ref a7), some (.ref a8), some (.int (nI 1)), some (.int x10), v11, v12, v13, v14, v15] [] w := by
  refine Eq.trans (zd_iconst zh93 (v := (nI 1)) rfl rfl) ?_
  refine Eq.trans (zd_goto zh93 (t := 432) (by decide) rfl) ?_
  refine Eq.trans (zd_istore zh93 (ls' := [some (.ref a0), some (.int x1), some (.int x2), some (.int x3), some (.int x4), some (.int x5), some (.int x6), some (.ref a7), some (.ref a8), some (.int (nI 1)), some (.int x10), v11, v12, v13, v14, v15]) (Nat.le_of_ble_eq_true rfl) rfl rfl) ?_
  refine Eq.trans (zd_iload zh93 rfl rfl) ?_
  exact zd_ifeq zh93 (t := 486) (by decide) rfl
