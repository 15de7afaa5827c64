theorem zdecr (x : Int32) : x + Int32.ofInt (-1) = x - nI 1 := by rw [Int32.sub_eq_add_neg]; rfl
/-! yX0_init: 0, MarbleHeirs$BestSwap.<init>()V -/
set_option maxRecDepth 20000 in
theorem b0_0 {scr : List Int32} {w : zAW} {a0 : Nat} {w1 : zAW} (h1 : zpf w a0 0 0 (.int (nI 0)) = some w1) {w2 : zAW} (h2 : zpf w1 a0 0 1 (.int (nI 0)) = some w2) {w3 : zAW} (h3 : zpf w2 a0 0 2 (.int (nI 0)) = some w3) {w4 : zAW} (h4 : zpf w3 a0 0 3 (.int (nI 0)) = some w4) {w5 : zAW} (h5 : zpf w4 a0 0 4 (.int (nI 0)) = some w5) {w6 : zAW} (h6 : zpf w5 a0 0 5 (.int (nI 0)) = some w6) : zd scr 0 0 [some (.ref a0)] [] w = some (none, w6) := by
  refine Eq.trans (zd_aload_n zh0 rfl rfl) ?_
  refine Eq.trans (zd_objinit zh0 rfl ⟨Nat.le_of_ble_eq_true rfl, Nat.le_of_ble_eq_true rfl⟩ rfl) ?_
  refine Eq.trans (zd_aload_n zh0 rfl rfl) ?_
  refine Eq.trans (zd_iconst zh0 (v := (nI 0)) rfl rfl) ?_
  refine Eq.trans (zd_putfield zh0 (ci := 0) (k := 0) rfl rfl h1 rfl) ?_
  refine Eq.trans (zd_aload_n zh0 rfl rfl) ?_
  refine Eq.trans (zd_iconst zh0 (v := (nI 0)) rfl rfl) ?_
  refine Eq.trans (zd_putfield zh0 (ci := 0) (k := 1) rfl rfl h2 rfl) ?_
  refine Eq.trans (zd_aload_n zh0 rfl rfl) ?_
  refine Eq.trans (zd_iconst zh0 (v := (nI 0)) rfl rfl) ?_
  refine Eq.trans (zd_putfield zh0 (ci := 0) (k := 2) rfl rfl h3 rfl) ?_
  refine Eq.trans (zd_aload_n zh0 rfl rfl) ?_
  refine Eq.trans (zd_iconst zh0 (v := (nI 0)) rfl rfl) ?_
  refine Eq.trans (zd_putfield zh0 (ci := 0) (k := 3) rfl rfl h4 rfl) ?_
  refine Eq.trans (zd_aload_n zh0 rfl rfl) ?_
  refine Eq.trans (zd_iconst zh0 (v := (nI 0)) rfl rfl) ?_
  refine Eq.trans (zd_putfield zh0 (ci := 0) (k := 4) rfl rfl h5 rfl) ?_
  refine Eq.trans (zd_aload_n zh0 rfl rfl) ?_
  refine Eq.trans (zd_iconst zh0 (v := (nI 0)) rfl rfl) ?_
  refine Eq.trans (zd_putfield zh0 (ci := 0) (k := 5) rfl rfl h6 rfl) ?_
  exact zd_vret zh0 rfl rfl
/-! yX0_tell: 1, MarbleHeirs$BestSwap.tell(I)I -/
theorem b1_0 {scr : List Int32} {w : zAW} {a0 : Nat} {x1 : Int32} {f1 : Int32} (h1 : zgf w a0 0 4 = some (.int f1)) : zd scr 1 0 [some (.ref a0), some (.int x1)] [] w = if f1 = 0 then zd scr 1 7 [some (.ref a0), some (.int x1)] [] w else zd scr 1 10 [some (.ref a0), some (.int x1)] [] w := by
  refine Eq.trans (zd_aload_n zh1 rfl rfl) ?_
  refine Eq.trans (zd_getfield zh1 (ci := 0) (k := 4) rfl h1 rfl) ?_
  exact zd_ifne zh1 (t := 10) (by decide) rfl
theorem b1_7 {scr : List Int32} {w : zAW} {a0 : Nat} {x1 : Int32}  : zd scr 1 7 [some (.ref a0), some (.int x1)] [] w = some (some (.int (-6)), w) := by
  refine Eq.trans (zd_bipush zh1 (v := (-6)) rfl rfl) ?_
  exact zd_iret zh1 rfl rfl
theorem b1_10_c0 {scr : List Int32} {w : zAW} {a0 : Nat} {x1 : Int32}  (hx : x1 = (nI 0)) : zd scr 1 10 [some (.ref a0), some (.int x1)] [] w = zd scr 1 40 [some (.ref a0), some (.int x1)] [] w := by
  refine Eq.trans (zd_iload_n zh1 rfl rfl) ?_
  exact zd_tabIn zh1 (off := 29) (by rw [hx]; decide) (by rw [hx]; rfl) (by decide) rfl
theorem b1_10_c1 {scr : List Int32} {w : zAW} {a0 : Nat} {x1 : Int32}  (hx : x1 = (nI 1)) : zd scr 1 10 [some (.ref a0), some (.int x1)] [] w = zd scr 1 45 [some (.ref a0), some (.int x1)] [] w := by
  refine Eq.trans (zd_iload_n zh1 rfl rfl) ?_
  exact zd_tabIn zh1 (off := 34) (by rw [hx]; decide) (by rw [hx]; rfl) (by decide) rfl
theorem b1_10_c2 {scr : List Int32} {w : zAW} {a0 : Nat} {x1 : Int32}  (hx : x1 = (nI 2)) : zd scr 1 10 [some (.ref a0), some (.int x1)] [] w = zd scr 1 50 [some (.ref a0), some (.int x1)] [] w := by
  refine Eq.trans (zd_iload_n zh1 rfl rfl) ?_
  exact zd_tabIn zh1 (off := 39) (by rw [hx]; decide) (by rw [hx]; rfl) (by decide) rfl
theorem b1_10_c3 {scr : List Int32} {w : zAW} {a0 : Nat} {x1 : Int32}  (hx : x1 = (nI 3)) : zd scr 1 10 [some (.ref a0), some (.int x1)] [] w = zd scr 1 55 [some (.ref a0), some (.int x1)] [] w := by
  refine Eq.trans (zd_iload_n zh1 rfl rfl) ?_
  exact zd_tabIn zh1 (off := 44) (by rw [hx]; decide) (by rw [hx]; rfl) (by decide) rfl
theorem b1_10_d {scr : List Int32} {w : zAW} {a0 : Nat} {x1 : Int32}  (hx : (x1).toInt < 0 ∨ 3 < (x1).toInt) : zd scr 1 10 [some (.ref a0), some (.int x1)] [] w = zd scr 1 60 [some (.ref a0), some (.int x1)] [] w := by
  refine Eq.trans (zd_iload_n zh1 rfl rfl) ?_
  exact zd_tabOut zh1 hx (by decide) rfl
theorem b1_40 {scr : List Int32} {w : zAW} {a0 : Nat} {x1 : Int32} {f1 : Int32} (h1 : zgf w a0 0 0 = some (.int f1)) : zd scr 1 40 [some (.ref a0), some (.int x1)] [] w = some (some (.int f1), w) := by
  refine Eq.trans (zd_aload_n zh1 rfl rfl) ?_
  refine Eq.trans (zd_getfield zh1 (ci := 0) (k := 0) rfl h1 rfl) ?_
  exact zd_iret zh1 rfl rfl
theorem b1_45 {scr : List Int32} {w : zAW} {a0 : Nat} {x1 : Int32} {f1 : Int32} (h1 : zgf w a0 0 1 = some (.int f1)) : zd scr 1 45 [some (.ref a0), some (.int x1)] [] w = some (some (.int f1), w) := by
  refine Eq.trans (zd_aload_n zh1 rfl rfl) ?_
  refine Eq.trans (zd_getfield zh1 (ci := 0) (k := 1) rfl h1 rfl) ?_
  exact zd_iret zh1 rfl rfl
theorem b1_50 {scr : List Int32} {w : zAW} {a0 : Nat} {x1 : Int32} {f1 : Int32} (h1 : zgf w a0 0 2 = some (.int f1)) : zd scr 1 50 [some (.ref a0), some (.int x1)] [] w = some (some (.int f1), w) := by
  refine Eq.trans (zd_aload_n zh1 rfl rfl) ?_
  refine Eq.trans (zd_getfield zh1 (ci := 0) (k := 2) rfl h1 rfl) ?_
  exact zd_iret zh1 rfl rfl
theorem b1_55 {scr : List Int32} {w : zAW} {a0 : Nat} {x1 : Int32} {f1 : Int32} (h1 : zgf w a0 0 3 = some (.int f1)) : zd scr 1 55 [some (.ref a0), some (.int x1)] [] w = some (some (.int f1), w) := by
  refine Eq.trans (zd_aload_n zh1 rfl rfl) ?_
  refine Eq.trans (zd_getfield zh1 (ci := 0) (k := 3) rfl h1 rfl) ?_
  exact zd_iret zh1 rfl rfl
theorem b1_60 {scr : List Int32} {w : zAW} {a0 : Nat} {x1 : Int32} {f1 : Int32} (h1 : zgf w a0 0 4 = some (.int f1)) : zd scr 1 60 [some (.ref a0), some (.int x1)] [] w = some (some (.int f1), w) := by
  refine Eq.trans (zd_aload_n zh1 rfl rfl) ?_
  refine Eq.trans (zd_getfield zh1 (ci := 0) (k := 4) rfl h1 rfl) ?_
  exact zd_iret zh1 rfl rfl
/-! yX0_searchIn: 2, MarbleHeirs$BestSwap.searchIn(LMarbleHeirs$State;)V -/
theorem b2_0 {scr : List Int32} {w : zAW} {a0 : Nat} {a1 : Nat} {w1 : zAW} (h1 : zpf w a0 0 4 (.int (nI 0)) = some w1) {w2 : zAW} (h2 : zpf w1 a0 0 5 (.int (nI 0)) = some w2) : zd scr 2 0 [some (.ref a0), some (.ref a1), none, none, none] [] w = zd scr 2 12 [some (.ref a0), some (.ref a1), some (.int (nI 0)), none, none] [] w2 := by
  refine Eq.trans (zd_aload_n zh2 rfl rfl) ?_
  refine Eq.trans (zd_iconst zh2 (v := (nI 0)) rfl rfl) ?_
  refine Eq.trans (zd_putfield zh2 (ci := 0) (k := 4) rfl rfl h1 rfl) ?_
  refine Eq.trans (zd_aload_n zh2 rfl rfl) ?_
  refine Eq.trans (zd_iconst zh2 (v := (nI 0)) rfl rfl) ?_
  refine Eq.trans (zd_putfield zh2 (ci := 0) (k := 5) rfl rfl h2 rfl) ?_
  refine Eq.trans (zd_iconst zh2 (v := (nI 0)) rfl rfl) ?_
  refine Eq.trans (zd_istore_n zh2 (ls' := [some (.ref a0), some (.ref a1), some (.int (nI 0)), none, none]) (Nat.le_of_ble_eq_true rfl) rfl rfl) ?_
  exact rfl
theorem b2_12 {scr : List Int32} {w : zAW} {a0 : Nat} {a1 : Nat} {x2 : Int32} {v3 : Option Value} {v4 : Option Value} {f1 : Int32} (h1 : zgf w a1 3 1 = some (.int f1)) : zd scr 2 12 [some (.ref a0), some (.ref a1), some (.int x2), v3, v4] [] w = if x2 < f1 then zd scr 2 20 [some (.ref a0), some (.ref a1), some (.int x2), v3, v4] [] w else zd scr 2 58 [some (.ref a0), some (.ref a1), some (.int x2), v3, v4] [] w := by
  refine Eq.trans (zd_iload_n zh2 rfl rfl) ?_
  refine Eq.trans (zd_aload_n zh2 rfl rfl) ?_
  refine Eq.trans (zd_getfield zh2 (ci := 3) (k := 1) rfl h1 rfl) ?_
  exact zd_icmpge zh2 (t := 58) (by decide) rfl
theorem b2_32 {scr : List Int32} {w : zAW} {a0 : Nat} {a1 : Nat} {x2 : Int32} {x3 : Int32} {x4 : Int32}  : zd scr 2 32 [some (.ref a0), some (.ref a1), some (.int x2), some (.int x3), some (.int x4)] [] w = if x4 < x3 then zd scr 2 38 [some (.ref a0), some (.ref a1), some (.int x2), some (.int x3), some (.int x4)] [] w else zd scr 2 52 [some (.ref a0), some (.ref a1), some (.int x2), some (.int x3), some (.int x4)] [] w := by
  refine Eq.trans (zd_iload zh2 rfl rfl) ?_
  refine Eq.trans (zd_iload_n zh2 rfl rfl) ?_
  exact zd_icmpge zh2 (t := 52) (by decide) rfl
set_option maxRecDepth 20000 in
theorem b2_20 {scr : List Int32} {w : zAW} {a0 : Nat} {a1 : Nat} {x2 : Int32} {v3 : Option Value} {v4 : Option Value} {g1 : Nat} (h1 : zgf w a1 3 0 = some (.ref g1)) (h2 : zob w g1 1 = true) {f2 : Int32} {w1 : zAW} (h3 : zC scr 8 [.ref g1, .int x2] w = some (some (.int f2), w1)) : zd scr 2 20 [some (.ref a0), some (.ref a1), some (.int x2), v3, v4] [] w = zd scr 2 32 [some (.ref a0), some (.ref a1), some (.int x2), some (.int f2), some (.int (nI 0))] [] w1 := by
  refine Eq.trans (zd_aload_n zh2 rfl rfl) ?_
  refine Eq.trans (zd_getfield zh2 (ci := 3) (k := 0) rfl h1 rfl) ?_
  refine Eq.trans (zd_iload_n zh2 rfl rfl) ?_
  refine Eq.trans (zd_invVi zh2 zh8 rfl rfl ⟨Nat.le_of_ble_eq_true rfl, Nat.le_of_ble_eq_true rfl, Nat.le_of_ble_eq_true rfl, Nat.le_of_ble_eq_true rfl⟩ rfl h2 h3 rfl) ?_
  refine Eq.trans (zd_istore_n zh2 (ls' := [some (.ref a0), some (.ref a1), some (.int x2), some (.int f2), v4]) (Nat.le_of_ble_eq_true rfl) rfl rfl) ?_
  refine Eq.trans (zd_iconst zh2 (v := (nI 0)) rfl rfl) ?_
  refine Eq.trans (zd_istore zh2 (ls' := [some (.ref a0), some (.ref a1), some (.int x2), some (.int f2), some (.int (nI 0))]) (Nat.le_of_ble_eq_true rfl) rfl rfl) ?_
  exact rfl
theorem b2_58 {scr : List Int32} {w : zAW} {a0 : Nat} {a1 : Nat} {x2 : Int32} {v3 : Option Value} {v4 : Option Value}  : zd scr 2 58 [some (.ref a0), some (.ref a1), some (.int x2), v3, v4] [] w = some (none, w) := by
  exact zd_vret zh2 rfl rfl
set_option maxRecDepth 20000 in
theorem b2_38 {scr : List Int32} {w : zAW} {a0 : Nat} {a1 : Nat} {x2 : Int32} {x3 : Int32} {x4 : Int32} (h1 : zob w a0 0 = true) {w1 : zAW} (h2 : zC scr 3 [.ref a0, .ref a1, .int x2, .int x4] w = some (none, w1)) : zd scr 2 38 [some (.ref a0), some (.ref a1), some (.int x2), some (.int x3), some (.int x4)] [] w = zd scr 2 32 [some (.ref a0), some (.ref a1), some (.int x2), some (.int x3), some (.int (x4 + (nI 1)))] [] w1 := by
  refine Eq.trans (zd_aload_n zh2 rfl rfl) ?_
  refine Eq.trans (zd_aload_n zh2 rfl rfl) ?_
  refine Eq.trans (zd_iload_n zh2 rfl rfl) ?_
  refine Eq.trans (zd_iload zh2 rfl rfl) ?_
  refine Eq.trans (zd_invVv zh2 zh3 rfl rfl ⟨Nat.le_of_ble_eq_true rfl, Nat.le_of_ble_eq_true rfl, Nat.le_of_ble_eq_true rfl, Nat.le_of_ble_eq_true rfl⟩ rfl h1 h2 rfl) ?_
  refine Eq.trans (zd_iinc zh2 (ls' := [some (.ref a0), some (.ref a1), some (.int x2), some (.int x3), some (.int (x4 + (nI 1)))]) (v := (x4 + (nI 1))) rfl rfl rfl rfl) ?_
  refine Eq.trans (zd_goto zh2 (t := 32) (by decide) rfl) ?_
  exact rfl
theorem b2_52 {scr : List Int32} {w : zAW} {a0 : Nat} {a1 : Nat} {x2 : Int32} {x3 : Int32} {x4 : Int32}  : zd scr 2 52 [some (.ref a0), some (.ref a1), some (.int x2), some (.int x3), some (.int x4)] [] w = zd scr 2 12 [some (.ref a0), some (.ref a1), some (.int (x2 + (nI 1))), some (.int x3), some (.int x4)] [] w := by
  refine Eq.trans (zd_iinc zh2 (ls' := [some (.ref a0), some (.ref a1), some (.int (x2 + (nI 1))), some (.int x3), some (.int x4)]) (v := (x2 + (nI 1))) rfl rfl rfl rfl) ?_
  refine Eq.trans (zd_goto zh2 (t := 12) (by decide) rfl) ?_
  exact rfl
/-! yX0_searchPartners: 3, MarbleHeirs$BestSwap.searchPartners(LMarbleHeirs$State;II)V -/
set_option maxRecDepth 20000 in
theorem b3_0 {scr : List Int32} {w : zAW} {a0 : Nat} {a1 : Nat} {x2 : Int32} {x3 : Int32} {g1 : Nat} (h1 : zgf w a1 3 0 = some (.ref g1)) (h2 : zob w g1 1 = true) {f2 : Int32} {w1 : zAW} (h3 : zC scr 10 [.ref g1, .int x2, .int x3] w = some (some (.int f2), w1)) {g3 : Nat} (h4 : zgf w1 a1 3 3 = some (.ref g3)) {f4 : Int32} (h5 : zal w1 g3 x2 = some f4) : zd scr 3 0 [some (.ref a0), some (.ref a1), some (.int x2), some (.int x3), none, none, none, none, none, none, none, none, none] [] w = zd scr 3 24 [some (.ref a0), some (.ref a1), some (.int x2), some (.int x3), some (.int f2), some (.int f4), some (.int (x2 + (nI 1))), none, none, none, none, none, none] [] w1 := by
  refine Eq.trans (zd_aload_n zh3 rfl rfl) ?_
  refine Eq.trans (zd_getfield zh3 (ci := 3) (k := 0) rfl h1 rfl) ?_
  refine Eq.trans (zd_iload_n zh3 rfl rfl) ?_
  refine Eq.trans (zd_iload_n zh3 rfl rfl) ?_
  refine Eq.trans (zd_invVi zh3 zh10 rfl rfl ⟨Nat.le_of_ble_eq_true rfl, Nat.le_of_ble_eq_true rfl, Nat.le_of_ble_eq_true rfl, Nat.le_of_ble_eq_true rfl⟩ rfl h2 h3 rfl) ?_
  refine Eq.trans (zd_istore zh3 (ls' := [some (.ref a0), some (.ref a1), some (.int x2), some (.int x3), some (.int f2), none, none, none, none, none, none, none, none]) (Nat.le_of_ble_eq_true rfl) rfl rfl) ?_
  refine Eq.trans (zd_aload_n zh3 rfl rfl) ?_
  refine Eq.trans (zd_getfield zh3 (ci := 3) (k := 3) rfl h4 rfl) ?_
  refine Eq.trans (zd_iload_n zh3 rfl rfl) ?_
  refine Eq.trans (zd_iaload zh3 h5 rfl) ?_
  refine Eq.trans (zd_istore zh3 (ls' := [some (.ref a0), some (.ref a1), some (.int x2), some (.int x3), some (.int f2), some (.int f4), none, none, none, none, none, none, none]) (Nat.le_of_ble_eq_true rfl) rfl rfl) ?_
  refine Eq.trans (zd_iload_n zh3 rfl rfl) ?_
  refine Eq.trans (zd_iconst zh3 (v := (nI 1)) rfl rfl) ?_
  refine Eq.trans (zd_iadd zh3 rfl) ?_
  refine Eq.trans (zd_istore zh3 (ls' := [some (.ref a0), some (.ref a1), some (.int x2), some (.int x3), some (.int f2), some (.int f4), some (.int (x2 + (nI 1))), none, none, none, none, none, none]) (Nat.le_of_ble_eq_true rfl) rfl rfl) ?_
  exact rfl
theorem b3_24 {scr : List Int32} {w : zAW} {a0 : Nat} {a1 : Nat} {x2 : Int32} {x3 : Int32} {x4 : Int32} {x5 : Int32} {x6 : Int32} {v7 : Option Value} {v8 : Option Value} {v9 : Option Value} {v10 : Option Value} {v11 : Option Value} {v12 : Option Value} {f1 : Int32} (h1 : zgf w a1 3 1 = some (.int f1)) : zd scr 3 24 [some (.ref a0), some (.ref a1), some (.int x2), some (.int x3), some (.int x4), some (.int x5), some (.int x6), v7, v8, v9, v10, v11, v12] [] w = if x6 < f1 then zd scr 3 33 [some (.ref a0), some (.ref a1), some (.int x2), some (.int x3), some (.int x4), some (.int x5), some (.int x6), v7, v8, v9, v10, v11, v12] [] w else zd scr 3 171 [some (.ref a0), some (.ref a1), some (.int x2), some (.int x3), some (.int x4), some (.int x5), some (.int x6), v7, v8, v9, v10, v11, v12] [] w := by
  refine Eq.trans (zd_iload zh3 rfl rfl) ?_
  refine Eq.trans (zd_aload_n zh3 rfl rfl) ?_
  refine Eq.trans (zd_getfield zh3 (ci := 3) (k := 1) rfl h1 rfl) ?_
  exact zd_icmpge zh3 (t := 171) (by decide) rfl
theorem b3_92 {scr : List Int32} {w : zAW} {a0 : Nat} {a1 : Nat} {x2 : Int32} {x3 : Int32} {x4 : Int32} {x5 : Int32} {x6 : Int32} {x7 : Int32} {x8 : Int32} {x9 : Int32} {x10 : Int32} {v11 : Option Value} {v12 : Option Value}  : zd scr 3 92 [some (.ref a0), some (.ref a1), some (.int x2), some (.int x3), some (.int x4), some (.int x5), some (.int x6), some (.int x7), some (.int x8), some (.int x9), some (.int x10), v11, v12] [] w = if x10 < x9 then zd scr 3 99 [some (.ref a0), some (.ref a1), some (.int x2), some (.int x3), some (.int x4), some (.int x5), some (.int x6), some (.int x7), some (.int x8), some (.int x9), some (.int x10), v11, v12] [] w else zd scr 3 165 [some (.ref a0), some (.ref a1), some (.int x2), some (.int x3), some (.int x4), some (.int x5), some (.int x6), some (.int x7), some (.int x8), some (.int x9), some (.int x10), v11, v12] [] w := by
  refine Eq.trans (zd_iload zh3 rfl rfl) ?_
  refine Eq.trans (zd_iload zh3 rfl rfl) ?_
  exact zd_icmpge zh3 (t := 165) (by decide) rfl
set_option maxRecDepth 20000 in
theorem b3_33 {scr : List Int32} {w : zAW} {a0 : Nat} {a1 : Nat} {x2 : Int32} {x3 : Int32} {x4 : Int32} {x5 : Int32} {x6 : Int32} {v7 : Option Value} {v8 : Option Value} {v9 : Option Value} {v10 : Option Value} {v11 : Option Value} {v12 : Option Value} {g1 : Nat} (h1 : zgf w a1 3 3 = some (.ref g1)) {f2 : Int32} (h2 : zal w g1 x6 = some f2) {f3 : Int32} {w1 : zAW} (h3 : zC scr 4 [.int x4, .int f2] w = some (some (.int f3), w1)) {f4 : Int32} {w2 : zAW} (h4 : zC scr 4 [.int x4, .int x5] w1 = some (some (.int f4), w2)) {f5 : Int32} (h5 : zgf w2 a0 0 4 = some (.int f5)) : zd scr 3 33 [some (.ref a0), some (.ref a1), some (.int x2), some (.int x3), some (.int x4), some (.int x5), some (.int x6), v7, v8, v9, v10, v11, v12] [] w = if ((f3 - f4) + (nI 1)) < (if f5 < (nI 1) then (nI 1) else f5) then zd scr 3 74 [some (.ref a0), some (.ref a1), some (.int x2), some (.int x3), some (.int x4), some (.int x5), some (.int x6), some (.int f2), some (.int (f3 - f4)), v9, v10, v11, v12] [] w2 else zd scr 3 78 [some (.ref a0), some (.ref a1), some (.int x2), some (.int x3), some (.int x4), some (.int x5), some (.int x6), some (.int f2), some (.int (f3 - f4)), v9, v10, v11, v12] [] w2 := by
  refine Eq.trans (zd_aload_n zh3 rfl rfl) ?_
  refine Eq.trans (zd_getfield zh3 (ci := 3) (k := 3) rfl h1 rfl) ?_
  refine Eq.trans (zd_iload zh3 rfl rfl) ?_
  refine Eq.trans (zd_iaload zh3 h2 rfl) ?_
  refine Eq.trans (zd_istore zh3 (ls' := [some (.ref a0), some (.ref a1), some (.int x2), some (.int x3), some (.int x4), some (.int x5), some (.int x6), some (.int f2), v8, v9, v10, v11, v12]) (Nat.le_of_ble_eq_true rfl) rfl rfl) ?_
  refine Eq.trans (zd_iload zh3 rfl rfl) ?_
  refine Eq.trans (zd_iload zh3 rfl rfl) ?_
  refine Eq.trans (zd_invSi zh3 zh4 rfl rfl ⟨Nat.le_of_ble_eq_true rfl, Nat.le_of_ble_eq_true rfl, Nat.le_of_ble_eq_true rfl, Or.inl (Nat.le_of_ble_eq_true rfl), Nat.le_of_ble_eq_true rfl⟩ rfl h3 rfl) ?_
  refine Eq.trans (zd_iload zh3 rfl rfl) ?_
  refine Eq.trans (zd_iload zh3 rfl rfl) ?_
  refine Eq.trans (zd_invSi zh3 zh4 rfl rfl ⟨Nat.le_of_ble_eq_true rfl, Nat.le_of_ble_eq_true rfl, Nat.le_of_ble_eq_true rfl, Or.inl (Nat.le_of_ble_eq_true rfl), Nat.le_of_ble_eq_true rfl⟩ rfl h4 rfl) ?_
  refine Eq.trans (zd_isub zh3 rfl) ?_
  refine Eq.trans (zd_istore zh3 (ls' := [some (.ref a0), some (.ref a1), some (.int x2), some (.int x3), some (.int x4), some (.int x5), some (.int x6), some (.int f2), some (.int (f3 - f4)), v9, v10, v11, v12]) (Nat.le_of_ble_eq_true rfl) rfl rfl) ?_
  refine Eq.trans (zd_iload zh3 rfl rfl) ?_
  refine Eq.trans (zd_iconst zh3 (v := (nI 1)) rfl rfl) ?_
  refine Eq.trans (zd_iadd zh3 rfl) ?_
  refine Eq.trans (zd_aload_n zh3 rfl rfl) ?_
  refine Eq.trans (zd_getfield zh3 (ci := 0) (k := 4) rfl h5 rfl) ?_
  refine Eq.trans (zd_iconst zh3 (v := (nI 1)) rfl rfl) ?_
  refine Eq.trans (zd_max zh3 rfl ⟨Nat.le_of_ble_eq_true rfl, Nat.le_of_ble_eq_true rfl⟩ rfl) ?_
  exact zd_icmpge zh3 (t := 78) (by decide) rfl
theorem b3_171 {scr : List Int32} {w : zAW} {a0 : Nat} {a1 : Nat} {x2 : Int32} {x3 : Int32} {x4 : Int32} {x5 : Int32} {x6 : Int32} {v7 : Option Value} {v8 : Option Value} {v9 : Option Value} {v10 : Option Value} {v11 : Option Value} {v12 : Option Value}  : zd scr 3 171 [some (.ref a0), some (.ref a1), some (.int x2), some (.int x3), some (.int x4), some (.int x5), some (.int x6), v7, v8, v9, v10, v11, v12] [] w = some (none, w) := by
  exact zd_vret zh3 rfl rfl
set_option maxRecDepth 20000 in
theorem b3_99 {scr : List Int32} {w : zAW} {a0 : Nat} {a1 : Nat} {x2 : Int32} {x3 : Int32} {x4 : Int32} {x5 : Int32} {x6 : Int32} {x7 : Int32} {x8 : Int32} {x9 : Int32} {x10 : Int32} {v11 : Option Value} {v12 : Option Value} {g1 : Nat} (h1 : zgf w a1 3 0 = some (.ref g1)) (h2 : zob w g1 1 = true) {f2 : Int32} {w1 : zAW} (h3 : zC scr 10 [.ref g1, .int x6, .int x10] w = some (some (.int f2), w1)) {f3 : Int32} {w2 : zAW} (h4 : zC scr 4 [.int f2, .int x5] w1 = some (some (.int f3), w2)) {f4 : Int32} {w3 : zAW} (h5 : zC scr 4 [.int f2, .int x7] w2 = some (some (.int f4), w3)) : zd scr 3 99 [some (.ref a0), some (.ref a1), some (.int x2), some (.int x3), some (.int x4), some (.int x5), some (.int x6), some (.int x7), some (.int x8), some (.int x9), some (.int x10), v11, v12] [] w = if 0 < ((x8 + f3) - f4) then zd scr 3 137 [some (.ref a0), some (.ref a1), some (.int x2), some (.int x3), some (.int x4), some (.int x5), some (.int x6), some (.int x7), some (.int x8), some (.int x9), some (.int x10), some (.int f2), some (.int ((x8 + f3) - f4))] [] w3 else zd scr 3 159 [some (.ref a0), some (.ref a1), some (.int x2), some (.int x3), some (.int x4), some (.int x5), some (.int x6), some (.int x7), some (.int x8), some (.int x9), some (.int x10), some (.int f2), some (.int ((x8 + f3) - f4))] [] w3 := by
  refine Eq.trans (zd_aload_n zh3 rfl rfl) ?_
  refine Eq.trans (zd_getfield zh3 (ci := 3) (k := 0) rfl h1 rfl) ?_
  refine Eq.trans (zd_iload zh3 rfl rfl) ?_
  refine Eq.trans (zd_iload zh3 rfl rfl) ?_
  refine Eq.trans (zd_invVi zh3 zh10 rfl rfl ⟨Nat.le_of_ble_eq_true rfl, Nat.le_of_ble_eq_true rfl, Nat.le_of_ble_eq_true rfl, Nat.le_of_ble_eq_true rfl⟩ rfl h2 h3 rfl) ?_
  refine Eq.trans (zd_istore zh3 (ls' := [some (.ref a0), some (.ref a1), some (.int x2), some (.int x3), some (.int x4), some (.int x5), some (.int x6), some (.int x7), some (.int x8), some (.int x9), some (.int x10), some (.int f2), v12]) (Nat.le_of_ble_eq_true rfl) rfl rfl) ?_
  refine Eq.trans (zd_iload zh3 rfl rfl) ?_
  refine Eq.trans (zd_iload zh3 rfl rfl) ?_
  refine Eq.trans (zd_iload zh3 rfl rfl) ?_
  refine Eq.trans (zd_invSi zh3 zh4 rfl rfl ⟨Nat.le_of_ble_eq_true rfl, Nat.le_of_ble_eq_true rfl, Nat.le_of_ble_eq_true rfl, Or.inl (Nat.le_of_ble_eq_true rfl), Nat.le_of_ble_eq_true rfl⟩ rfl h4 rfl) ?_
  refine Eq.trans (zd_iadd zh3 rfl) ?_
  refine Eq.trans (zd_iload zh3 rfl rfl) ?_
  refine Eq.trans (zd_iload zh3 rfl rfl) ?_
  refine Eq.trans (zd_invSi zh3 zh4 rfl rfl ⟨Nat.le_of_ble_eq_true rfl, Nat.le_of_ble_eq_true rfl, Nat.le_of_ble_eq_true rfl, Or.inl (Nat.le_of_ble_eq_true rfl), Nat.le_of_ble_eq_true rfl⟩ rfl h5 rfl) ?_
  refine Eq.trans (zd_isub zh3 rfl) ?_
  refine Eq.trans (zd_istore zh3 (ls' := [some (.ref a0), some (.ref a1), some (.int x2), some (.int x3), some (.int x4), some (.int x5), some (.int x6), some (.int x7), some (.int x8), some (.int x9), some (.int x10), some (.int f2), some (.int ((x8 + f3) - f4))]) (Nat.le_of_ble_eq_true rfl) rfl rfl) ?_
  refine Eq.trans (zd_iload zh3 rfl rfl) ?_
  exact zd_ifle zh3 (t := 159) (by decide) rfl
theorem b3_165 {scr : List Int32} {w : zAW} {a0 : Nat} {a1 : Nat} {x2 : Int32} {x3 : Int32} {x4 : Int32} {x5 : Int32} {x6 : Int32} {x7 : Int32} {x8 : Int32} {x9 : Int32} {x10 : Int32} {v11 : Option Value} {v12 : Option Value}  : zd scr 3 165 [some (.ref a0), some (.ref a1), some (.int x2), some (.int x3), some (.int x4), some (.int x5), some (.int x6), some (.int x7), some (.int x8), some (.int x9), some (.int x10), v11, v12] [] w = zd scr 3 24 [some (.ref a0), some (.ref a1), some (.int x2), some (.int x3), some (.int x4), some (.int x5), some (.int (x6 + (nI 1))), some (.int x7), some (.int x8), some (.int x9), some (.int x10), v11, v12] [] w := by
  refine Eq.trans (zd_iinc zh3 (ls' := [some (.ref a0), some (.ref a1), some (.int x2), some (.int x3), some (.int x4), some (.int x5), some (.int (x6 + (nI 1))), some (.int x7), some (.int x8), some (.int x9), some (.int x10), v11, v12]) (v := (x6 + (nI 1))) rfl rfl rfl rfl) ?_
  refine Eq.trans (zd_goto zh3 (t := 24) (by decide) rfl) ?_
  exact rfl
theorem b3_74 {scr : List Int32} {w : zAW} {a0 : Nat} {a1 : Nat} {x2 : Int32} {x3 : Int32} {x4 : Int32} {x5 : Int32} {x6 : Int32} {x7 : Int32} {x8 : Int32} {v9 : Option Value} {v10 : Option Value} {v11 : Option Value} {v12 : Option Value}  : zd scr 3 74 [some (.ref a0), some (.ref a1), some (.int x2), some (.int x3), some (.int x4), some (.int x5), some (.int x6), some (.int x7), some (.int x8), v9, v10, v11, v12] [] w = zd scr 3 92 [some (.ref a0), some (.ref a1), some (.int x2), some (.int x3), some (.int x4), some (.int x5), some (.int x6), some (.int x7), some (.int x8), some (.int (nI 0)), some (.int (nI 0)), v11, v12] [] w := by
  refine Eq.trans (zd_iconst zh3 (v := (nI 0)) rfl rfl) ?_
  refine Eq.trans (zd_goto zh3 (t := 87) (by decide) rfl) ?_
  refine Eq.trans (zd_istore zh3 (ls' := [some (.ref a0), some (.ref a1), some (.int x2), some (.int x3), some (.int x4), some (.int x5), some (.int x6), some (.int x7), some (.int x8), some (.int (nI 0)), v10, v11, v12]) (Nat.le_of_ble_eq_true rfl) rfl rfl) ?_
  refine Eq.trans (zd_iconst zh3 (v := (nI 0)) rfl rfl) ?_
  refine Eq.trans (zd_istore zh3 (ls' := [some (.ref a0), some (.ref a1), some (.int x2), some (.int x3), some (.int x4), some (.int x5), some (.int x6), some (.int x7), some (.int x8), some (.int (nI 0)), some (.int (nI 0)), v11, v12]) (Nat.le_of_ble_eq_true rfl) rfl rfl) ?_
  exact rfl
set_option maxRecDepth 20000 in
theorem b3_78 {scr : List Int32} {w : zAW} {a0 : Nat} {a1 : Nat} {x2 : Int32} {x3 : Int32} {x4 : Int32} {x5 : Int32} {x6 : Int32} {x7 : Int32} {x8 : Int32} {v9 : Option Value} {v10 : Option Value} {v11 : Option Value} {v12 : Option Value} {g1 : Nat} (h1 : zgf w a1 3 0 = some (.ref g1)) (h2 : zob w g1 1 = true) {f2 : Int32} {w1 : zAW} (h3 : zC scr 8 [.ref g1, .int x6] w = some (some (.int f2), w1)) : zd scr 3 78 [some (.ref a0), some (.ref a1), some (.int x2), some (.int x3), some (.int x4), some (.int x5), some (.int x6), some (.int x7), some (.int x8), v9, v10, v11, v12] [] w = zd scr 3 92 [some (.ref a0), some (.ref a1), some (.int x2), some (.int x3), some (.int x4), some (.int x5), some (.int x6), some (.int x7), some (.int x8), some (.int f2), some (.int (nI 0)), v11, v12] [] w1 := by
  refine Eq.trans (zd_aload_n zh3 rfl rfl) ?_
  refine Eq.trans (zd_getfield zh3 (ci := 3) (k := 0) rfl h1 rfl) ?_
  refine Eq.trans (zd_iload zh3 rfl rfl) ?_
  refine Eq.trans (zd_invVi zh3 zh8 rfl rfl ⟨Nat.le_of_ble_eq_true rfl, Nat.le_of_ble_eq_true rfl, Nat.le_of_ble_eq_true rfl, Nat.le_of_ble_eq_true rfl⟩ rfl h2 h3 rfl) ?_
  refine Eq.trans (zd_istore zh3 (ls' := [some (.ref a0), some (.ref a1), some (.int x2), some (.int x3), some (.int x4), some (.int x5), some (.int x6), some (.int x7), some (.int x8), some (.int f2), v10, v11, v12]) (Nat.le_of_ble_eq_true rfl) rfl rfl) ?_
  refine Eq.trans (zd_iconst zh3 (v := (nI 0)) rfl rfl) ?_
  refine Eq.trans (zd_istore zh3 (ls' := [some (.ref a0), some (.ref a1), some (.int x2), some (.int x3), some (.int x4), some (.int x5), some (.int x6), some (.int x7), some (.int x8), some (.int f2), some (.int (nI 0)), v11, v12]) (Nat.le_of_ble_eq_true rfl) rfl rfl) ?_
  exact rfl
theorem b3_137 {scr : List Int32} {w : zAW} {a0 : Nat} {a1 : Nat} {x2 : Int32} {x3 : Int32} {x4 : Int32} {x5 : Int32} {x6 : Int32} {x7 : Int32} {x8 : Int32} {x9 : Int32} {x10 : Int32} {x11 : Int32} {x12 : Int32} {f1 : Int32} (h1 : zgf w a0 0 4 = some (.int f1)) : zd scr 3 137 [some (.ref a0), some (.ref a1), some (.int x2), some (.int x3), some (.int x4), some (.int x5), some (.int x6), some (.int x7), some (.int x8), some (.int x9), some (.int x10), some (.int x11), some (.int x12)] [] w = if x12 < f1 then zd scr 3 159 [some (.ref a0), some (.ref a1), some (.int x2), some (.int x3), some (.int x4), some (.int x5), some (.int x6), some (.int x7), some (.int x8), some (.int x9), some (.int x10), some (.int x11), some (.int x12)] [] w else zd scr 3 146 [some (.ref a0), some (.ref a1), some (.int x2), some (.int x3), some (.int x4), some (.int x5), some (.int x6), some (.int x7), some (.int x8), some (.int x9), some (.int x10), some (.int x11), some (.int x12)] [] w := by
  refine Eq.trans (zd_iload zh3 rfl rfl) ?_
  refine Eq.trans (zd_aload_n zh3 rfl rfl) ?_
  refine Eq.trans (zd_getfield zh3 (ci := 0) (k := 4) rfl h1 rfl) ?_
  exact zd_icmplt zh3 (t := 159) (by decide) rfl
theorem b3_159 {scr : List Int32} {w : zAW} {a0 : Nat} {a1 : Nat} {x2 : Int32} {x3 : Int32} {x4 : Int32} {x5 : Int32} {x6 : Int32} {x7 : Int32} {x8 : Int32} {x9 : Int32} {x10 : Int32} {x11 : Int32} {x12 : Int32}  : zd scr 3 159 [some (.ref a0), some (.ref a1), some (.int x2), some (.int x3), some (.int x4), some (.int x5), some (.int x6), some (.int x7), some (.int x8), some (.int x9), some (.int x10), some (.int x11), some (.int x12)] [] w = zd scr 3 92 [some (.ref a0), some (.ref a1), some (.int x2), some (.int x3), some (.int x4), some (.int x5), some (.int x6), some (.int x7), some (.int x8), some (.int x9), some (.int (x10 + (nI 1))), some (.int x11), some (.int x12)] [] w := by
  refine Eq.trans (zd_iinc zh3 (ls' := [some (.ref a0), some (.ref a1), some (.int x2), some (.int x3), some (.int x4), some (.int x5), some (.int x6), some (.int x7), some (.int x8), some (.int x9), some (.int (x10 + (nI 1))), some (.int x11), some (.int x12)]) (v := (x10 + (nI 1))) rfl rfl rfl rfl) ?_
  refine Eq.trans (zd_goto zh3 (t := 92) (by decide) rfl) ?_
  exact rfl
set_option maxRecDepth 20000 in
theorem b3_146 {scr : List Int32} {w : zAW} {a0 : Nat} {a1 : Nat} {x2 : Int32} {x3 : Int32} {x4 : Int32} {x5 : Int32} {x6 : Int32} {x7 : Int32} {x8 : Int32} {x9 : Int32} {x10 : Int32} {x11 : Int32} {x12 : Int32} (h1 : zob w a0 0 = true) {w1 : zAW} (h2 : zC scr 5 [.ref a0, .ref a1, .int x2, .int x3, .int x6, .int x10, .int x12] w = some (none, w1)) : zd scr 3 146 [some (.ref a0), some (.ref a1), some (.int x2), some (.int x3), some (.int x4), some (.int x5), some (.int x6), some (.int x7), some (.int x8), some (.int x9), some (.int x10), some (.int x11), some (.int x12)] [] w = zd scr 3 92 [some (.ref a0), some (.ref a1), some (.int x2), some (.int x3), some (.int x4), some (.int x5), some (.int x6), some (.int x7), some (.int x8), some (.int x9), some (.int (x10 + (nI 1))), some (.int x11), some (.int x12)] [] w1 := by
  refine Eq.trans (zd_aload_n zh3 rfl rfl) ?_
  refine Eq.trans (zd_aload_n zh3 rfl rfl) ?_
  refine Eq.trans (zd_iload_n zh3 rfl rfl) ?_
  refine Eq.trans (zd_iload_n zh3 rfl rfl) ?_
  refine Eq.trans (zd_iload zh3 rfl rfl) ?_
  refine Eq.trans (zd_iload zh3 rfl rfl) ?_
  refine Eq.trans (zd_iload zh3 rfl rfl) ?_
  refine Eq.trans (zd_invVv zh3 zh5 rfl rfl ⟨Nat.le_of_ble_eq_true rfl, Nat.le_of_ble_eq_true rfl, Nat.le_of_ble_eq_true rfl, Nat.le_of_ble_eq_true rfl⟩ rfl h1 h2 rfl) ?_
  refine Eq.trans (zd_iinc zh3 (ls' := [some (.ref a0), some (.ref a1), some (.int x2), some (.int x3), some (.int x4), some (.int x5), some (.int x6), some (.int x7), some (.int x8), some (.int x9), some (.int (x10 + (nI 1))), some (.int x11), some (.int x12)]) (v := (x10 + (nI 1))) rfl rfl rfl rfl) ?_
  refine Eq.trans (zd_goto zh3 (t := 92) (by decide) rfl) ?_
  exact rfl
/-! yX0_one: 4, MarbleHeirs$BestSwap.one(II)I -/
theorem b4_0 {scr : List Int32} {w : zAW} {x0 : Int32} {x1 : Int32}  : zd scr 4 0 [some (.int x0), some (.int x1)] [] w = if x0 = x1 then zd scr 4 5 [some (.int x0), some (.int x1)] [] w else zd scr 4 9 [some (.int x0), some (.int x1)] [] w := by
  refine Eq.trans (zd_iload_n zh4 rfl rfl) ?_
  refine Eq.trans (zd_iload_n zh4 rfl rfl) ?_
  exact zd_icmpne zh4 (t := 9) (by decide) rfl
theorem b4_5 {scr : List Int32} {w : zAW} {x0 : Int32} {x1 : Int32}  : zd scr 4 5 [some (.int x0), some (.int x1)] [] w = some (some (.int (nI 1)), w) := by
  refine Eq.trans (zd_iconst zh4 (v := (nI 1)) rfl rfl) ?_
  refine Eq.trans (zd_goto zh4 (t := 10) (by decide) rfl) ?_
  exact zd_iret zh4 rfl rfl
theorem b4_9 {scr : List Int32} {w : zAW} {x0 : Int32} {x1 : Int32}  : zd scr 4 9 [some (.int x0), some (.int x1)] [] w = some (some (.int (nI 0)), w) := by
  refine Eq.trans (zd_iconst zh4 (v := (nI 0)) rfl rfl) ?_
  exact zd_iret zh4 rfl rfl
/-! yX0_weigh: 5, MarbleHeirs$BestSwap.weigh(LMarbleHeirs$State;IIIII)V -/
set_option maxRecDepth 20000 in
theorem b5_0 {scr : List Int32} {w : zAW} {a0 : Nat} {a1 : Nat} {x2 : Int32} {x3 : Int32} {x4 : Int32} {x5 : Int32} {x6 : Int32} {g1 : Nat} (h1 : zgf w a1 3 0 = some (.ref g1)) (h2 : zob w g1 1 = true) {f2 : Int32} {w1 : zAW} (h3 : zC scr 11 [.ref g1, .int x2, .int x3] w = some (some (.int f2), w1)) {g3 : Nat} (h4 : zgf w1 a1 3 0 = some (.ref g3)) (h5 : zob w1 g3 1 = true) {f4 : Int32} {w2 : zAW} (h6 : zC scr 11 [.ref g3, .int x4, .int x5] w1 = some (some (.int f4), w2)) {f5 : Int32} (h7 : zgf w2 a0 0 4 = some (.int f5)) : zd scr 5 0 [some (.ref a0), some (.ref a1), some (.int x2), some (.int x3), some (.int x4), some (.int x5), some (.int x6), none, none] [] w = if x6 ≤ f5 then zd scr 5 35 [some (.ref a0), some (.ref a1), some (.int x2), some (.int x3), some (.int x4), some (.int x5), some (.int x6), some (.int (if 0 ≤ (f2 - f4) then (f2 - f4) else 0 - (f2 - f4))), none] [] w2 else zd scr 5 44 [some (.ref a0), some (.ref a1), some (.int x2), some (.int x3), some (.int x4), some (.int x5), some (.int x6), some (.int (if 0 ≤ (f2 - f4) then (f2 - f4) else 0 - (f2 - f4))), none] [] w2 := by
  refine Eq.trans (zd_aload_n zh5 rfl rfl) ?_
  refine Eq.trans (zd_getfield zh5 (ci := 3) (k := 0) rfl h1 rfl) ?_
  refine Eq.trans (zd_iload_n zh5 rfl rfl) ?_
  refine Eq.trans (zd_iload_n zh5 rfl rfl) ?_
  refine Eq.trans (zd_invVi zh5 zh11 rfl rfl ⟨Nat.le_of_ble_eq_true rfl, Nat.le_of_ble_eq_true rfl, Nat.le_of_ble_eq_true rfl, Nat.le_of_ble_eq_true rfl⟩ rfl h2 h3 rfl) ?_
  refine Eq.trans (zd_aload_n zh5 rfl rfl) ?_
  refine Eq.trans (zd_getfield zh5 (ci := 3) (k := 0) rfl h4 rfl) ?_
  refine Eq.trans (zd_iload zh5 rfl rfl) ?_
  refine Eq.trans (zd_iload zh5 rfl rfl) ?_
  refine Eq.trans (zd_invVi zh5 zh11 rfl rfl ⟨Nat.le_of_ble_eq_true rfl, Nat.le_of_ble_eq_true rfl, Nat.le_of_ble_eq_true rfl, Nat.le_of_ble_eq_true rfl⟩ rfl h5 h6 rfl) ?_
  refine Eq.trans (zd_isub zh5 rfl) ?_
  refine Eq.trans (zd_abs zh5 rfl ⟨Nat.le_of_ble_eq_true rfl, Nat.le_of_ble_eq_true rfl⟩ rfl) ?_
  refine Eq.trans (zd_istore zh5 (ls' := [some (.ref a0), some (.ref a1), some (.int x2), some (.int x3), some (.int x4), some (.int x5), some (.int x6), some (.int (if 0 ≤ (f2 - f4) then (f2 - f4) else 0 - (f2 - f4))), none]) (Nat.le_of_ble_eq_true rfl) rfl rfl) ?_
  refine Eq.trans (zd_iload zh5 rfl rfl) ?_
  refine Eq.trans (zd_aload_n zh5 rfl rfl) ?_
  refine Eq.trans (zd_getfield zh5 (ci := 0) (k := 4) rfl h7 rfl) ?_
  exact zd_icmpgt zh5 (t := 44) (by decide) rfl
theorem b5_35 {scr : List Int32} {w : zAW} {a0 : Nat} {a1 : Nat} {x2 : Int32} {x3 : Int32} {x4 : Int32} {x5 : Int32} {x6 : Int32} {x7 : Int32} {f1 : Int32} (h1 : zgf w a0 0 5 = some (.int f1)) : zd scr 5 35 [some (.ref a0), some (.ref a1), some (.int x2), some (.int x3), some (.int x4), some (.int x5), some (.int x6), some (.int x7), none] [] w = if x7 < f1 then zd scr 5 44 [some (.ref a0), some (.ref a1), some (.int x2), some (.int x3), some (.int x4), some (.int x5), some (.int x6), some (.int x7), none] [] w else zd scr 5 48 [some (.ref a0), some (.ref a1), some (.int x2), some (.int x3), some (.int x4), some (.int x5), some (.int x6), some (.int x7), none] [] w := by
  refine Eq.trans (zd_iload zh5 rfl rfl) ?_
  refine Eq.trans (zd_aload_n zh5 rfl rfl) ?_
  refine Eq.trans (zd_getfield zh5 (ci := 0) (k := 5) rfl h1 rfl) ?_
  exact zd_icmpge zh5 (t := 48) (by decide) rfl
theorem b5_44 {scr : List Int32} {w : zAW} {a0 : Nat} {a1 : Nat} {x2 : Int32} {x3 : Int32} {x4 : Int32} {x5 : Int32} {x6 : Int32} {x7 : Int32}  : zd scr 5 44 [some (.ref a0), some (.ref a1), some (.int x2), some (.int x3), some (.int x4), some (.int x5), some (.int x6), some (.int x7), none] [] w = if (nI 1) = 0 then zd scr 5 105 [some (.ref a0), some (.ref a1), some (.int x2), some (.int x3), some (.int x4), some (.int x5), some (.int x6), some (.int x7), some (.int (nI 1))] [] w else zd scr 5 56 [some (.ref a0), some (.ref a1), some (.int x2), some (.int x3), some (.int x4), some (.int x5), some (.int x6), some (.int x7), some (.int (nI 1))] [] w := by
  refine Eq.trans (zd_iconst zh5 (v := (nI 1)) rfl rfl) ?_
  refine Eq.trans (zd_goto zh5 (t := 49) (by decide) rfl) ?_
  refine Eq.trans (zd_istore zh5 (ls' := [some (.ref a0), some (.ref a1), some (.int x2), some (.int x3), some (.int x4), some (.int x5), some (.int x6), some (.int x7), some (.int (nI 1))]) (Nat.le_of_ble_eq_true rfl) rfl rfl) ?_
  refine Eq.trans (zd_iload zh5 rfl rfl) ?_
  exact zd_ifeq zh5 (t := 105) (by decide) rfl
theorem b5_48 {scr : List Int32} {w : zAW} {a0 : Nat} {a1 : Nat} {x2 : Int32} {x3 : Int32} {x4 : Int32} {x5 : Int32} {x6 : Int32} {x7 : Int32}  : zd scr 5 48 [some (.ref a0), some (.ref a1), some (.int x2), some (.int x3), some (.int x4), some (.int x5), some (.int x6), some (.int x7), none] [] w = if (nI 0) = 0 then zd scr 5 105 [some (.ref a0), some (.ref a1), some (.int x2), some (.int x3), some (.int x4), some (.int x5), some (.int x6), some (.int x7), some (.int (nI 0))] [] w else zd scr 5 56 [some (.ref a0), some (.ref a1), some (.int x2), some (.int x3), some (.int x4), some (.int x5), some (.int x6), some (.int x7), some (.int (nI 0))] [] w := by
  refine Eq.trans (zd_iconst zh5 (v := (nI 0)) rfl rfl) ?_
  refine Eq.trans (zd_istore zh5 (ls' := [some (.ref a0), some (.ref a1), some (.int x2), some (.int x3), some (.int x4), some (.int x5), some (.int x6), some (.int x7), some (.int (nI 0))]) (Nat.le_of_ble_eq_true rfl) rfl rfl) ?_
  refine Eq.trans (zd_iload zh5 rfl rfl) ?_
  exact zd_ifeq zh5 (t := 105) (by decide) rfl
theorem b5_105 {scr : List Int32} {w : zAW} {a0 : Nat} {a1 : Nat} {x2 : Int32} {x3 : Int32} {x4 : Int32} {x5 : Int32} {x6 : Int32} {x7 : Int32} {x8 : Int32}  : zd scr 5 105 [some (.ref a0), some (.ref a1), some (.int x2), some (.int x3), some (.int x4), some (.int x5), some (.int x6), some (.int x7), some (.int x8)] [] w = some (none, w) := by
  exact zd_vret zh5 rfl rfl
set_option maxRecDepth 20000 in
theorem b5_56 {scr : List Int32} {w : zAW} {a0 : Nat} {a1 : Nat} {x2 : Int32} {x3 : Int32} {x4 : Int32} {x5 : Int32} {x6 : Int32} {x7 : Int32} {x8 : Int32} (h1 : zob w a1 3 = true) {f1 : Int32} {w1 : zAW} (h2 : zC scr 38 [.ref a1, .int x2, .int x3, .int x4, .int x5] w = some (some (.int f1), w1)) : zd scr 5 56 [some (.ref a0), some (.ref a1), some (.int x2), some (.int x3), some (.int x4), some (.int x5), some (.int x6), some (.int x7), some (.int x8)] [] w = if f1 = (-6) then zd scr 5 71 [some (.ref a0), some (.ref a1), some (.int x2), some (.int x3), some (.int x4), some (.int x5), some (.int x6), some (.int x7), some (.int x8)] [] w1 else zd scr 5 105 [some (.ref a0), some (.ref a1), some (.int x2), some (.int x3), some (.int x4), some (.int x5), some (.int x6), some (.int x7), some (.int x8)] [] w1 := by
  refine Eq.trans (zd_aload_n zh5 rfl rfl) ?_
  refine Eq.trans (zd_iload_n zh5 rfl rfl) ?_
  refine Eq.trans (zd_iload_n zh5 rfl rfl) ?_
  refine Eq.trans (zd_iload zh5 rfl rfl) ?_
  refine Eq.trans (zd_iload zh5 rfl rfl) ?_
  refine Eq.trans (zd_invVi zh5 zh38 rfl rfl ⟨Nat.le_of_ble_eq_true rfl, Nat.le_of_ble_eq_true rfl, Nat.le_of_ble_eq_true rfl, Nat.le_of_ble_eq_true rfl⟩ rfl h1 h2 rfl) ?_
  refine Eq.trans (zd_bipush zh5 (v := (-6)) rfl rfl) ?_
  exact zd_icmpne zh5 (t := 105) (by decide) rfl
theorem b5_71 {scr : List Int32} {w : zAW} {a0 : Nat} {a1 : Nat} {x2 : Int32} {x3 : Int32} {x4 : Int32} {x5 : Int32} {x6 : Int32} {x7 : Int32} {x8 : Int32} {w1 : zAW} (h1 : zpf w a0 0 0 (.int x2) = some w1) {w2 : zAW} (h2 : zpf w1 a0 0 1 (.int x3) = some w2) {w3 : zAW} (h3 : zpf w2 a0 0 2 (.int x4) = some w3) {w4 : zAW} (h4 : zpf w3 a0 0 3 (.int x5) = some w4) {w5 : zAW} (h5 : zpf w4 a0 0 4 (.int x6) = some w5) {w6 : zAW} (h6 : zpf w5 a0 0 5 (.int x7) = some w6) : zd scr 5 71 [some (.ref a0), some (.ref a1), some (.int x2), some (.int x3), some (.int x4), some (.int x5), some (.int x6), some (.int x7), some (.int x8)] [] w = some (none, w6) := by
  refine Eq.trans (zd_aload_n zh5 rfl rfl) ?_
  refine Eq.trans (zd_iload_n zh5 rfl rfl) ?_
  refine Eq.trans (zd_putfield zh5 (ci := 0) (k := 0) rfl rfl h1 rfl) ?_
  refine Eq.trans (zd_aload_n zh5 rfl rfl) ?_
  refine Eq.trans (zd_iload_n zh5 rfl rfl) ?_
  refine Eq.trans (zd_putfield zh5 (ci := 0) (k := 1) rfl rfl h2 rfl) ?_
  refine Eq.trans (zd_aload_n zh5 rfl rfl) ?_
  refine Eq.trans (zd_iload zh5 rfl rfl) ?_
  refine Eq.trans (zd_putfield zh5 (ci := 0) (k := 2) rfl rfl h3 rfl) ?_
  refine Eq.trans (zd_aload_n zh5 rfl rfl) ?_
  refine Eq.trans (zd_iload zh5 rfl rfl) ?_
  refine Eq.trans (zd_putfield zh5 (ci := 0) (k := 3) rfl rfl h4 rfl) ?_
  refine Eq.trans (zd_aload_n zh5 rfl rfl) ?_
  refine Eq.trans (zd_iload zh5 rfl rfl) ?_
  refine Eq.trans (zd_putfield zh5 (ci := 0) (k := 4) rfl rfl h5 rfl) ?_
  refine Eq.trans (zd_aload_n zh5 rfl rfl) ?_
  refine Eq.trans (zd_iload zh5 rfl rfl) ?_
  refine Eq.trans (zd_putfield zh5 (ci := 0) (k := 5) rfl rfl h6 rfl) ?_
  exact zd_vret zh5 rfl rfl
/-! yX1_init: 6, MarbleHeirs$Marbles.<init>()V -/
/-! yX1_copyFrom: 7, MarbleHeirs$Marbles.copyFrom(LMarbleHeirs$Marbles;)V -/
set_option maxRecDepth 20000 in
theorem b7_0 {scr : List Int32} {w : zAW} {a0 : Nat} {a1 : Nat} {g1 : Nat} (h1 : zgf w a1 1 0 = some (.ref g1)) {g2 : Nat} (h2 : zgf w a0 1 0 = some (.ref g2)) {w1 : zAW} (h3 : zcp w g1 (nI 0) g2 (nI 0) (nI 120) = some w1) {g3 : Nat} (h4 : zgf w1 a1 1 1 = some (.ref g3)) {g4 : Nat} (h5 : zgf w1 a0 1 1 = some (.ref g4)) {w2 : zAW} (h6 : zcp w1 g3 (nI 0) g4 (nI 0) (nI 8) = some w2) : zd scr 7 0 [some (.ref a0), some (.ref a1)] [] w = some (none, w2) := by
  refine Eq.trans (zd_aload_n zh7 rfl rfl) ?_
  refine Eq.trans (zd_getfield zh7 (ci := 1) (k := 0) rfl h1 rfl) ?_
  refine Eq.trans (zd_iconst zh7 (v := (nI 0)) rfl rfl) ?_
  refine Eq.trans (zd_aload_n zh7 rfl rfl) ?_
  refine Eq.trans (zd_getfield zh7 (ci := 1) (k := 0) rfl h2 rfl) ?_
  refine Eq.trans (zd_iconst zh7 (v := (nI 0)) rfl rfl) ?_
  refine Eq.trans (zd_bipush zh7 (v := (nI 120)) rfl rfl) ?_
  refine Eq.trans (zd_copy zh7 rfl ⟨Nat.le_of_ble_eq_true rfl, Nat.le_of_ble_eq_true rfl⟩ h3 rfl) ?_
  refine Eq.trans (zd_aload_n zh7 rfl rfl) ?_
  refine Eq.trans (zd_getfield zh7 (ci := 1) (k := 1) rfl h4 rfl) ?_
  refine Eq.trans (zd_iconst zh7 (v := (nI 0)) rfl rfl) ?_
  refine Eq.trans (zd_aload_n zh7 rfl rfl) ?_
  refine Eq.trans (zd_getfield zh7 (ci := 1) (k := 1) rfl h5 rfl) ?_
  refine Eq.trans (zd_iconst zh7 (v := (nI 0)) rfl rfl) ?_
  refine Eq.trans (zd_bipush zh7 (v := (nI 8)) rfl rfl) ?_
  refine Eq.trans (zd_copy zh7 rfl ⟨Nat.le_of_ble_eq_true rfl, Nat.le_of_ble_eq_true rfl⟩ h6 rfl) ?_
  exact zd_vret zh7 rfl rfl
/-! yX1_count: 8, MarbleHeirs$Marbles.count(I)I -/
theorem b8_0 {scr : List Int32} {w : zAW} {a0 : Nat} {x1 : Int32} {g1 : Nat} (h1 : zgf w a0 1 1 = some (.ref g1)) {f2 : Int32} (h2 : zal w g1 (x1 + (nI 1)) = some f2) {g3 : Nat} (h3 : zgf w a0 1 1 = some (.ref g3)) {f4 : Int32} (h4 : zal w g3 x1 = some f4) : zd scr 8 0 [some (.ref a0), some (.int x1)] [] w = some (some (.int (f2 - f4)), w) := by
  refine Eq.trans (zd_aload_n zh8 rfl rfl) ?_
  refine Eq.trans (zd_getfield zh8 (ci := 1) (k := 1) rfl h1 rfl) ?_
  refine Eq.trans (zd_iload_n zh8 rfl rfl) ?_
  refine Eq.trans (zd_iconst zh8 (v := (nI 1)) rfl rfl) ?_
  refine Eq.trans (zd_iadd zh8 rfl) ?_
  refine Eq.trans (zd_iaload zh8 h2 rfl) ?_
  refine Eq.trans (zd_aload_n zh8 rfl rfl) ?_
  refine Eq.trans (zd_getfield zh8 (ci := 1) (k := 1) rfl h3 rfl) ?_
  refine Eq.trans (zd_iload_n zh8 rfl rfl) ?_
  refine Eq.trans (zd_iaload zh8 h4 rfl) ?_
  refine Eq.trans (zd_isub zh8 rfl) ?_
  exact zd_iret zh8 rfl rfl
/-! yX1_has: 9, MarbleHeirs$Marbles.has(II)Z -/
theorem b9_0 {scr : List Int32} {w : zAW} {a0 : Nat} {x1 : Int32} {x2 : Int32}  : zd scr 9 0 [some (.ref a0), some (.int x1), some (.int x2)] [] w = if x2 < 0 then zd scr 9 17 [some (.ref a0), some (.int x1), some (.int x2)] [] w else zd scr 9 4 [some (.ref a0), some (.int x1), some (.int x2)] [] w := by
  refine Eq.trans (zd_iload_n zh9 rfl rfl) ?_
  exact zd_iflt zh9 (t := 17) (by decide) rfl
theorem b9_17 {scr : List Int32} {w : zAW} {a0 : Nat} {x1 : Int32} {x2 : Int32}  : zd scr 9 17 [some (.ref a0), some (.int x1), some (.int x2)] [] w = some (some (.int (nI 0)), w) := by
  refine Eq.trans (zd_iconst zh9 (v := (nI 0)) rfl rfl) ?_
  exact zd_iret zh9 rfl rfl
set_option maxRecDepth 20000 in
theorem b9_4 {scr : List Int32} {w : zAW} {a0 : Nat} {x1 : Int32} {x2 : Int32} (h1 : zob w a0 1 = true) {f1 : Int32} {w1 : zAW} (h2 : zC scr 8 [.ref a0, .int x1] w = some (some (.int f1), w1)) : zd scr 9 4 [some (.ref a0), some (.int x1), some (.int x2)] [] w = if x2 < f1 then zd scr 9 13 [some (.ref a0), some (.int x1), some (.int x2)] [] w1 else zd scr 9 17 [some (.ref a0), some (.int x1), some (.int x2)] [] w1 := by
  refine Eq.trans (zd_iload_n zh9 rfl rfl) ?_
  refine Eq.trans (zd_aload_n zh9 rfl rfl) ?_
  refine Eq.trans (zd_iload_n zh9 rfl rfl) ?_
  refine Eq.trans (zd_invVi zh9 zh8 rfl rfl ⟨Nat.le_of_ble_eq_true rfl, Nat.le_of_ble_eq_true rfl, Nat.le_of_ble_eq_true rfl, Nat.le_of_ble_eq_true rfl⟩ rfl h1 h2 rfl) ?_
  exact zd_icmpge zh9 (t := 17) (by decide) rfl
theorem b9_13 {scr : List Int32} {w : zAW} {a0 : Nat} {x1 : Int32} {x2 : Int32}  : zd scr 9 13 [some (.ref a0), some (.int x1), some (.int x2)] [] w = some (some (.int (nI 1)), w) := by
  refine Eq.trans (zd_iconst zh9 (v := (nI 1)) rfl rfl) ?_
  refine Eq.trans (zd_goto zh9 (t := 18) (by decide) rfl) ?_
  exact zd_iret zh9 rfl rfl
/-! yX1_colour: 10, MarbleHeirs$Marbles.colour(II)I -/
theorem b10_0 {scr : List Int32} {w : zAW} {a0 : Nat} {x1 : Int32} {x2 : Int32} {g1 : Nat} (h1 : zgf w a0 1 0 = some (.ref g1)) {g2 : Nat} (h2 : zgf w a0 1 1 = some (.ref g2)) {f3 : Int32} (h3 : zal w g2 x1 = some f3) {f4 : Int32} (h4 : zal w g1 (f3 + x2) = some f4) : zd scr 10 0 [some (.ref a0), some (.int x1), some (.int x2)] [] w = some (some (.int (f4 / (nI 10))), w) := by
  refine Eq.trans (zd_aload_n zh10 rfl rfl) ?_
  refine Eq.trans (zd_getfield zh10 (ci := 1) (k := 0) rfl h1 rfl) ?_
  refine Eq.trans (zd_aload_n zh10 rfl rfl) ?_
  refine Eq.trans (zd_getfield zh10 (ci := 1) (k := 1) rfl h2 rfl) ?_
  refine Eq.trans (zd_iload_n zh10 rfl rfl) ?_
  refine Eq.trans (zd_iaload zh10 h3 rfl) ?_
  refine Eq.trans (zd_iload_n zh10 rfl rfl) ?_
  refine Eq.trans (zd_iadd zh10 rfl) ?_
  refine Eq.trans (zd_iaload zh10 h4 rfl) ?_
  refine Eq.trans (zd_bipush zh10 (v := (nI 10)) rfl rfl) ?_
  refine Eq.trans (zd_idiv zh10 (by decide) rfl) ?_
  exact zd_iret zh10 rfl rfl
/-! yX1_value: 11, MarbleHeirs$Marbles.value(II)I -/
theorem b11_0 {scr : List Int32} {w : zAW} {a0 : Nat} {x1 : Int32} {x2 : Int32} {g1 : Nat} (h1 : zgf w a0 1 0 = some (.ref g1)) {g2 : Nat} (h2 : zgf w a0 1 1 = some (.ref g2)) {f3 : Int32} (h3 : zal w g2 x1 = some f3) {f4 : Int32} (h4 : zal w g1 (f3 + x2) = some f4) : zd scr 11 0 [some (.ref a0), some (.int x1), some (.int x2)] [] w = some (some (.int (zrem f4 (nI 10))), w) := by
  refine Eq.trans (zd_aload_n zh11 rfl rfl) ?_
  refine Eq.trans (zd_getfield zh11 (ci := 1) (k := 0) rfl h1 rfl) ?_
  refine Eq.trans (zd_aload_n zh11 rfl rfl) ?_
  refine Eq.trans (zd_getfield zh11 (ci := 1) (k := 1) rfl h2 rfl) ?_
  refine Eq.trans (zd_iload_n zh11 rfl rfl) ?_
  refine Eq.trans (zd_iaload zh11 h3 rfl) ?_
  refine Eq.trans (zd_iload_n zh11 rfl rfl) ?_
  refine Eq.trans (zd_iadd zh11 rfl) ?_
  refine Eq.trans (zd_iaload zh11 h4 rfl) ?_
  refine Eq.trans (zd_bipush zh11 (v := (nI 10)) rfl rfl) ?_
  refine Eq.trans (zd_irem zh11 (by decide) rfl) ?_
  exact zd_iret zh11 rfl rfl
/-! yX1_describe: 12, MarbleHeirs$Marbles.describe(III)I -/
theorem b12_0_c0 {scr : List Int32} {w : zAW} {a0 : Nat} {x1 : Int32} {x2 : Int32} {x3 : Int32}  (hx : x3 = (nI 0)) : zd scr 12 0 [some (.ref a0), some (.int x1), some (.int x2), some (.int x3)] [] w = zd scr 12 28 [some (.ref a0), some (.int x1), some (.int x2), some (.int x3)] [] w := by
  refine Eq.trans (zd_iload_n zh12 rfl rfl) ?_
  exact zd_look zh12 (off := 27) (by decide) (by rw [hx]; rfl) (by decide) rfl
theorem b12_0_c1 {scr : List Int32} {w : zAW} {a0 : Nat} {x1 : Int32} {x2 : Int32} {x3 : Int32}  (hx : x3 = (nI 1)) : zd scr 12 0 [some (.ref a0), some (.int x1), some (.int x2), some (.int x3)] [] w = zd scr 12 35 [some (.ref a0), some (.int x1), some (.int x2), some (.int x3)] [] w := by
  refine Eq.trans (zd_iload_n zh12 rfl rfl) ?_
  exact zd_look zh12 (off := 34) (by decide) (by rw [hx]; rfl) (by decide) rfl
theorem b12_0_d {scr : List Int32} {w : zAW} {a0 : Nat} {x1 : Int32} {x2 : Int32} {x3 : Int32}  (hx0 : ¬ x3 = (nI 0)) (hx1 : ¬ x3 = (nI 1)) : zd scr 12 0 [some (.ref a0), some (.int x1), some (.int x2), some (.int x3)] [] w = zd scr 12 42 [some (.ref a0), some (.int x1), some (.int x2), some (.int x3)] [] w := by
  refine Eq.trans (zd_iload_n zh12 rfl rfl) ?_
  exact zd_look zh12 (off := 41) (by decide) (by rw [lv_osw hx0 (by decide)]; rw [lv_osw hx1 (by decide)]; rfl) (by decide) rfl
set_option maxRecDepth 20000 in
theorem b12_28 {scr : List Int32} {w : zAW} {a0 : Nat} {x1 : Int32} {x2 : Int32} {x3 : Int32} (h1 : zob w a0 1 = true) {f1 : Int32} {w1 : zAW} (h2 : zC scr 10 [.ref a0, .int x1, .int x2] w = some (some (.int f1), w1)) : zd scr 12 28 [some (.ref a0), some (.int x1), some (.int x2), some (.int x3)] [] w = some (some (.int f1), w1) := by
  refine Eq.trans (zd_aload_n zh12 rfl rfl) ?_
  refine Eq.trans (zd_iload_n zh12 rfl rfl) ?_
  refine Eq.trans (zd_iload_n zh12 rfl rfl) ?_
  refine Eq.trans (zd_invVi zh12 zh10 rfl rfl ⟨Nat.le_of_ble_eq_true rfl, Nat.le_of_ble_eq_true rfl, Nat.le_of_ble_eq_true rfl, Nat.le_of_ble_eq_true rfl⟩ rfl h1 h2 rfl) ?_
  exact zd_iret zh12 rfl rfl
set_option maxRecDepth 20000 in
theorem b12_35 {scr : List Int32} {w : zAW} {a0 : Nat} {x1 : Int32} {x2 : Int32} {x3 : Int32} (h1 : zob w a0 1 = true) {f1 : Int32} {w1 : zAW} (h2 : zC scr 11 [.ref a0, .int x1, .int x2] w = some (some (.int f1), w1)) : zd scr 12 35 [some (.ref a0), some (.int x1), some (.int x2), some (.int x3)] [] w = some (some (.int f1), w1) := by
  refine Eq.trans (zd_aload_n zh12 rfl rfl) ?_
  refine Eq.trans (zd_iload_n zh12 rfl rfl) ?_
  refine Eq.trans (zd_iload_n zh12 rfl rfl) ?_
  refine Eq.trans (zd_invVi zh12 zh11 rfl rfl ⟨Nat.le_of_ble_eq_true rfl, Nat.le_of_ble_eq_true rfl, Nat.le_of_ble_eq_true rfl, Nat.le_of_ble_eq_true rfl⟩ rfl h1 h2 rfl) ?_
  exact zd_iret zh12 rfl rfl
theorem b12_42 {scr : List Int32} {w : zAW} {a0 : Nat} {x1 : Int32} {x2 : Int32} {x3 : Int32}  : zd scr 12 42 [some (.ref a0), some (.int x1), some (.int x2), some (.int x3)] [] w = some (some (.int (-2)), w) := by
  refine Eq.trans (zd_bipush zh12 (v := (-2)) rfl rfl) ?_
  exact zd_iret zh12 rfl rfl
/-! yX1_sum: 13, MarbleHeirs$Marbles.sum(I)I -/
theorem b13_0 {scr : List Int32} {w : zAW} {a0 : Nat} {x1 : Int32} {g1 : Nat} (h1 : zgf w a0 1 1 = some (.ref g1)) {f2 : Int32} (h2 : zal w g1 x1 = some f2) : zd scr 13 0 [some (.ref a0), some (.int x1), none, none] [] w = zd scr 13 9 [some (.ref a0), some (.int x1), some (.int (nI 0)), some (.int f2)] [] w := by
  refine Eq.trans (zd_iconst zh13 (v := (nI 0)) rfl rfl) ?_
  refine Eq.trans (zd_istore_n zh13 (ls' := [some (.ref a0), some (.int x1), some (.int (nI 0)), none]) (Nat.le_of_ble_eq_true rfl) rfl rfl) ?_
  refine Eq.trans (zd_aload_n zh13 rfl rfl) ?_
  refine Eq.trans (zd_getfield zh13 (ci := 1) (k := 1) rfl h1 rfl) ?_
  refine Eq.trans (zd_iload_n zh13 rfl rfl) ?_
  refine Eq.trans (zd_iaload zh13 h2 rfl) ?_
  refine Eq.trans (zd_istore_n zh13 (ls' := [some (.ref a0), some (.int x1), some (.int (nI 0)), some (.int f2)]) (Nat.le_of_ble_eq_true rfl) rfl rfl) ?_
  exact rfl
theorem b13_9 {scr : List Int32} {w : zAW} {a0 : Nat} {x1 : Int32} {x2 : Int32} {x3 : Int32} {g1 : Nat} (h1 : zgf w a0 1 1 = some (.ref g1)) {f2 : Int32} (h2 : zal w g1 (x1 + (nI 1)) = some f2) : zd scr 13 9 [some (.ref a0), some (.int x1), some (.int x2), some (.int x3)] [] w = if x3 < f2 then zd scr 13 21 [some (.ref a0), some (.int x1), some (.int x2), some (.int x3)] [] w else zd scr 13 39 [some (.ref a0), some (.int x1), some (.int x2), some (.int x3)] [] w := by
  refine Eq.trans (zd_iload_n zh13 rfl rfl) ?_
  refine Eq.trans (zd_aload_n zh13 rfl rfl) ?_
  refine Eq.trans (zd_getfield zh13 (ci := 1) (k := 1) rfl h1 rfl) ?_
  refine Eq.trans (zd_iload_n zh13 rfl rfl) ?_
  refine Eq.trans (zd_iconst zh13 (v := (nI 1)) rfl rfl) ?_
  refine Eq.trans (zd_iadd zh13 rfl) ?_
  refine Eq.trans (zd_iaload zh13 h2 rfl) ?_
  exact zd_icmpge zh13 (t := 39) (by decide) rfl
theorem b13_21 {scr : List Int32} {w : zAW} {a0 : Nat} {x1 : Int32} {x2 : Int32} {x3 : Int32} {g1 : Nat} (h1 : zgf w a0 1 0 = some (.ref g1)) {f2 : Int32} (h2 : zal w g1 x3 = some f2) : zd scr 13 21 [some (.ref a0), some (.int x1), some (.int x2), some (.int x3)] [] w = zd scr 13 9 [some (.ref a0), some (.int x1), some (.int (x2 + (zrem f2 (nI 10)))), some (.int (x3 + (nI 1)))] [] w := by
  refine Eq.trans (zd_iload_n zh13 rfl rfl) ?_
  refine Eq.trans (zd_aload_n zh13 rfl rfl) ?_
  refine Eq.trans (zd_getfield zh13 (ci := 1) (k := 0) rfl h1 rfl) ?_
  refine Eq.trans (zd_iload_n zh13 rfl rfl) ?_
  refine Eq.trans (zd_iaload zh13 h2 rfl) ?_
  refine Eq.trans (zd_bipush zh13 (v := (nI 10)) rfl rfl) ?_
  refine Eq.trans (zd_irem zh13 (by decide) rfl) ?_
  refine Eq.trans (zd_iadd zh13 rfl) ?_
  refine Eq.trans (zd_istore_n zh13 (ls' := [some (.ref a0), some (.int x1), some (.int (x2 + (zrem f2 (nI 10)))), some (.int x3)]) (Nat.le_of_ble_eq_true rfl) rfl rfl) ?_
  refine Eq.trans (zd_iinc zh13 (ls' := [some (.ref a0), some (.int x1), some (.int (x2 + (zrem f2 (nI 10)))), some (.int (x3 + (nI 1)))]) (v := (x3 + (nI 1))) rfl rfl rfl rfl) ?_
  refine Eq.trans (zd_goto zh13 (t := 9) (by decide) rfl) ?_
  exact rfl
theorem b13_39 {scr : List Int32} {w : zAW} {a0 : Nat} {x1 : Int32} {x2 : Int32} {x3 : Int32}  : zd scr 13 39 [some (.ref a0), some (.int x1), some (.int x2), some (.int x3)] [] w = some (some (.int x2), w) := by
  refine Eq.trans (zd_iload_n zh13 rfl rfl) ?_
  exact zd_iret zh13 rfl rfl
/-! yX1_countOf: 14, MarbleHeirs$Marbles.countOf(II)I -/
theorem b14_0 {scr : List Int32} {w : zAW} {a0 : Nat} {x1 : Int32} {x2 : Int32} {g1 : Nat} (h1 : zgf w a0 1 1 = some (.ref g1)) {f2 : Int32} (h2 : zal w g1 x1 = some f2) : zd scr 14 0 [some (.ref a0), some (.int x1), some (.int x2), none, none] [] w = zd scr 14 10 [some (.ref a0), some (.int x1), some (.int x2), some (.int (nI 0)), some (.int f2)] [] w := by
  refine Eq.trans (zd_iconst zh14 (v := (nI 0)) rfl rfl) ?_
  refine Eq.trans (zd_istore_n zh14 (ls' := [some (.ref a0), some (.int x1), some (.int x2), some (.int (nI 0)), none]) (Nat.le_of_ble_eq_true rfl) rfl rfl) ?_
  refine Eq.trans (zd_aload_n zh14 rfl rfl) ?_
  refine Eq.trans (zd_getfield zh14 (ci := 1) (k := 1) rfl h1 rfl) ?_
  refine Eq.trans (zd_iload_n zh14 rfl rfl) ?_
  refine Eq.trans (zd_iaload zh14 h2 rfl) ?_
  refine Eq.trans (zd_istore zh14 (ls' := [some (.ref a0), some (.int x1), some (.int x2), some (.int (nI 0)), some (.int f2)]) (Nat.le_of_ble_eq_true rfl) rfl rfl) ?_
  exact rfl
theorem b14_10 {scr : List Int32} {w : zAW} {a0 : Nat} {x1 : Int32} {x2 : Int32} {x3 : Int32} {x4 : Int32} {g1 : Nat} (h1 : zgf w a0 1 1 = some (.ref g1)) {f2 : Int32} (h2 : zal w g1 (x1 + (nI 1)) = some f2) : zd scr 14 10 [some (.ref a0), some (.int x1), some (.int x2), some (.int x3), some (.int x4)] [] w = if x4 < f2 then zd scr 14 23 [some (.ref a0), some (.int x1), some (.int x2), some (.int x3), some (.int x4)] [] w else zd scr 14 46 [some (.ref a0), some (.int x1), some (.int x2), some (.int x3), some (.int x4)] [] w := by
  refine Eq.trans (zd_iload zh14 rfl rfl) ?_
  refine Eq.trans (zd_aload_n zh14 rfl rfl) ?_
  refine Eq.trans (zd_getfield zh14 (ci := 1) (k := 1) rfl h1 rfl) ?_
  refine Eq.trans (zd_iload_n zh14 rfl rfl) ?_
  refine Eq.trans (zd_iconst zh14 (v := (nI 1)) rfl rfl) ?_
  refine Eq.trans (zd_iadd zh14 rfl) ?_
  refine Eq.trans (zd_iaload zh14 h2 rfl) ?_
  exact zd_icmpge zh14 (t := 46) (by decide) rfl
theorem b14_23 {scr : List Int32} {w : zAW} {a0 : Nat} {x1 : Int32} {x2 : Int32} {x3 : Int32} {x4 : Int32} {g1 : Nat} (h1 : zgf w a0 1 0 = some (.ref g1)) {f2 : Int32} (h2 : zal w g1 x4 = some f2) : zd scr 14 23 [some (.ref a0), some (.int x1), some (.int x2), some (.int x3), some (.int x4)] [] w = if (f2 / (nI 10)) = x2 then zd scr 14 37 [some (.ref a0), some (.int x1), some (.int x2), some (.int x3), some (.int x4)] [] w else zd scr 14 40 [some (.ref a0), some (.int x1), some (.int x2), some (.int x3), some (.int x4)] [] w := by
  refine Eq.trans (zd_aload_n zh14 rfl rfl) ?_
  refine Eq.trans (zd_getfield zh14 (ci := 1) (k := 0) rfl h1 rfl) ?_
  refine Eq.trans (zd_iload zh14 rfl rfl) ?_
  refine Eq.trans (zd_iaload zh14 h2 rfl) ?_
  refine Eq.trans (zd_bipush zh14 (v := (nI 10)) rfl rfl) ?_
  refine Eq.trans (zd_idiv zh14 (by decide) rfl) ?_
  refine Eq.trans (zd_iload_n zh14 rfl rfl) ?_
  exact zd_icmpne zh14 (t := 40) (by decide) rfl
theorem b14_46 {scr : List Int32} {w : zAW} {a0 : Nat} {x1 : Int32} {x2 : Int32} {x3 : Int32} {x4 : Int32}  : zd scr 14 46 [some (.ref a0), some (.int x1), some (.int x2), some (.int x3), some (.int x4)] [] w = some (some (.int x3), w) := by
  refine Eq.trans (zd_iload_n zh14 rfl rfl) ?_
  exact zd_iret zh14 rfl rfl
theorem b14_37 {scr : List Int32} {w : zAW} {a0 : Nat} {x1 : Int32} {x2 : Int32} {x3 : Int32} {x4 : Int32}  : zd scr 14 37 [some (.ref a0), some (.int x1), some (.int x2), some (.int x3), some (.int x4)] [] w = zd scr 14 10 [some (.ref a0), some (.int x1), some (.int x2), some (.int (x3 + (nI 1))), some (.int (x4 + (nI 1)))] [] w := by
  refine Eq.trans (zd_iinc zh14 (ls' := [some (.ref a0), some (.int x1), some (.int x2), some (.int (x3 + (nI 1))), some (.int x4)]) (v := (x3 + (nI 1))) rfl rfl rfl rfl) ?_
  refine Eq.trans (zd_iinc zh14 (ls' := [some (.ref a0), some (.int x1), some (.int x2), some (.int (x3 + (nI 1))), some (.int (x4 + (nI 1)))]) (v := (x4 + (nI 1))) rfl rfl rfl rfl) ?_
  refine Eq.trans (zd_goto zh14 (t := 10) (by decide) rfl) ?_
  exact rfl
theorem b14_40 {scr : List Int32} {w : zAW} {a0 : Nat} {x1 : Int32} {x2 : Int32} {x3 : Int32} {x4 : Int32}  : zd scr 14 40 [some (.ref a0), some (.int x1), some (.int x2), some (.int x3), some (.int x4)] [] w = zd scr 14 10 [some (.ref a0), some (.int x1), some (.int x2), some (.int x3), some (.int (x4 + (nI 1)))] [] w := by
  refine Eq.trans (zd_iinc zh14 (ls' := [some (.ref a0), some (.int x1), some (.int x2), some (.int x3), some (.int (x4 + (nI 1)))]) (v := (x4 + (nI 1))) rfl rfl rfl rfl) ?_
  refine Eq.trans (zd_goto zh14 (t := 10) (by decide) rfl) ?_
  exact rfl
/-! yX1_hasRoom: 15, MarbleHeirs$Marbles.hasRoom()Z -/
set_option maxRecDepth 20000 in
theorem b15_0 {scr : List Int32} {w : zAW} {a0 : Nat} (h1 : zob w a0 1 = true) {f1 : Int32} {w1 : zAW} (h2 : zC scr 8 [.ref a0, .int (nI 6)] w = some (some (.int f1), w1)) : zd scr 15 0 [some (.ref a0)] [] w = if f1 < (nI 40) then zd scr 15 11 [some (.ref a0)] [] w1 else zd scr 15 27 [some (.ref a0)] [] w1 := by
  refine Eq.trans (zd_aload_n zh15 rfl rfl) ?_
  refine Eq.trans (zd_bipush zh15 (v := (nI 6)) rfl rfl) ?_
  refine Eq.trans (zd_invVi zh15 zh8 rfl rfl ⟨Nat.le_of_ble_eq_true rfl, Nat.le_of_ble_eq_true rfl, Nat.le_of_ble_eq_true rfl, Nat.le_of_ble_eq_true rfl⟩ rfl h1 h2 rfl) ?_
  refine Eq.trans (zd_bipush zh15 (v := (nI 40)) rfl rfl) ?_
  exact zd_icmpge zh15 (t := 27) (by decide) rfl
theorem b15_11 {scr : List Int32} {w : zAW} {a0 : Nat} {g1 : Nat} (h1 : zgf w a0 1 1 = some (.ref g1)) {f2 : Int32} (h2 : zal w g1 (nI 7) = some f2) : zd scr 15 11 [some (.ref a0)] [] w = if f2 < (nI 120) then zd scr 15 23 [some (.ref a0)] [] w else zd scr 15 27 [some (.ref a0)] [] w := by
  refine Eq.trans (zd_aload_n zh15 rfl rfl) ?_
  refine Eq.trans (zd_getfield zh15 (ci := 1) (k := 1) rfl h1 rfl) ?_
  refine Eq.trans (zd_bipush zh15 (v := (nI 7)) rfl rfl) ?_
  refine Eq.trans (zd_iaload zh15 h2 rfl) ?_
  refine Eq.trans (zd_bipush zh15 (v := (nI 120)) rfl rfl) ?_
  exact zd_icmpge zh15 (t := 27) (by decide) rfl
theorem b15_27 {scr : List Int32} {w : zAW} {a0 : Nat}  : zd scr 15 27 [some (.ref a0)] [] w = some (some (.int (nI 0)), w) := by
  refine Eq.trans (zd_iconst zh15 (v := (nI 0)) rfl rfl) ?_
  exact zd_iret zh15 rfl rfl
theorem b15_23 {scr : List Int32} {w : zAW} {a0 : Nat}  : zd scr 15 23 [some (.ref a0)] [] w = some (some (.int (nI 1)), w) := by
  refine Eq.trans (zd_iconst zh15 (v := (nI 1)) rfl rfl) ?_
  refine Eq.trans (zd_goto zh15 (t := 28) (by decide) rfl) ?_
  exact zd_iret zh15 rfl rfl
/-! yX1_add: 16, MarbleHeirs$Marbles.add(II)Z -/
set_option maxRecDepth 20000 in
theorem b16_0 {scr : List Int32} {w : zAW} {a0 : Nat} {x1 : Int32} {x2 : Int32} (h1 : zob w a0 1 = true) {f1 : Int32} {w1 : zAW} (h2 : zC scr 15 [.ref a0] w = some (some (.int f1), w1)) : zd scr 16 0 [some (.ref a0), some (.int x1), some (.int x2)] [] w = if f1 = 0 then zd scr 16 7 [some (.ref a0), some (.int x1), some (.int x2)] [] w1 else zd scr 16 9 [some (.ref a0), some (.int x1), some (.int x2)] [] w1 := by
  refine Eq.trans (zd_aload_n zh16 rfl rfl) ?_
  refine Eq.trans (zd_invVi zh16 zh15 rfl rfl ⟨Nat.le_of_ble_eq_true rfl, Nat.le_of_ble_eq_true rfl, Nat.le_of_ble_eq_true rfl, Nat.le_of_ble_eq_true rfl⟩ rfl h1 h2 rfl) ?_
  exact zd_ifne zh16 (t := 9) (by decide) rfl
theorem b16_7 {scr : List Int32} {w : zAW} {a0 : Nat} {x1 : Int32} {x2 : Int32}  : zd scr 16 7 [some (.ref a0), some (.int x1), some (.int x2)] [] w = some (some (.int (nI 0)), w) := by
  refine Eq.trans (zd_iconst zh16 (v := (nI 0)) rfl rfl) ?_
  exact zd_iret zh16 rfl rfl
theorem b16_9 {scr : List Int32} {w : zAW} {a0 : Nat} {x1 : Int32} {x2 : Int32} {g1 : Nat} (h1 : zgf w a0 1 0 = some (.ref g1)) {g2 : Nat} (h2 : zgf w a0 1 1 = some (.ref g2)) {f3 : Int32} (h3 : zal w g2 (nI 7) = some f3) {w1 : zAW} (h4 : zas w g1 f3 ((x1 * (nI 10)) + x2) = some w1) {g4 : Nat} (h5 : zgf w1 a0 1 1 = some (.ref g4)) {f5 : Int32} (h6 : zal w1 g4 (nI 7) = some f5) {w2 : zAW} (h7 : zas w1 g4 (nI 7) (f5 + (nI 1)) = some w2) : zd scr 16 9 [some (.ref a0), some (.int x1), some (.int x2)] [] w = some (some (.int (nI 1)), w2) := by
  refine Eq.trans (zd_aload_n zh16 rfl rfl) ?_
  refine Eq.trans (zd_getfield zh16 (ci := 1) (k := 0) rfl h1 rfl) ?_
  refine Eq.trans (zd_aload_n zh16 rfl rfl) ?_
  refine Eq.trans (zd_getfield zh16 (ci := 1) (k := 1) rfl h2 rfl) ?_
  refine Eq.trans (zd_bipush zh16 (v := (nI 7)) rfl rfl) ?_
  refine Eq.trans (zd_iaload zh16 h3 rfl) ?_
  refine Eq.trans (zd_iload_n zh16 rfl rfl) ?_
  refine Eq.trans (zd_bipush zh16 (v := (nI 10)) rfl rfl) ?_
  refine Eq.trans (zd_imul zh16 rfl) ?_
  refine Eq.trans (zd_iload_n zh16 rfl rfl) ?_
  refine Eq.trans (zd_iadd zh16 rfl) ?_
  refine Eq.trans (zd_iastore zh16 h4 rfl) ?_
  refine Eq.trans (zd_aload_n zh16 rfl rfl) ?_
  refine Eq.trans (zd_getfield zh16 (ci := 1) (k := 1) rfl h5 rfl) ?_
  refine Eq.trans (zd_bipush zh16 (v := (nI 7)) rfl rfl) ?_
  refine Eq.trans (zd_dup2 zh16 rfl) ?_
  refine Eq.trans (zd_iaload zh16 h6 rfl) ?_
  refine Eq.trans (zd_iconst zh16 (v := (nI 1)) rfl rfl) ?_
  refine Eq.trans (zd_iadd zh16 rfl) ?_
  refine Eq.trans (zd_iastore zh16 h7 rfl) ?_
  refine Eq.trans (zd_iconst zh16 (v := (nI 1)) rfl rfl) ?_
  exact zd_iret zh16 rfl rfl
/-! yX1_giveFirstTo: 17, MarbleHeirs$Marbles.giveFirstTo(I)V -/
set_option maxRecDepth 20000 in
theorem b17_0 {scr : List Int32} {w : zAW} {a0 : Nat} {x1 : Int32} (h1 : zob w a0 1 = true) {f1 : Int32} {w1 : zAW} (h2 : zC scr 8 [.ref a0, .int (nI 6)] w = some (some (.int f1), w1)) : zd scr 17 0 [some (.ref a0), some (.int x1), none, none, none, none] [] w = if f1 = 0 then zd scr 17 9 [some (.ref a0), some (.int x1), none, none, none, none] [] w1 else zd scr 17 10 [some (.ref a0), some (.int x1), none, none, none, none] [] w1 := by
  refine Eq.trans (zd_aload_n zh17 rfl rfl) ?_
  refine Eq.trans (zd_bipush zh17 (v := (nI 6)) rfl rfl) ?_
  refine Eq.trans (zd_invVi zh17 zh8 rfl rfl ⟨Nat.le_of_ble_eq_true rfl, Nat.le_of_ble_eq_true rfl, Nat.le_of_ble_eq_true rfl, Nat.le_of_ble_eq_true rfl⟩ rfl h1 h2 rfl) ?_
  exact zd_ifne zh17 (t := 10) (by decide) rfl
theorem b17_38 {scr : List Int32} {w : zAW} {a0 : Nat} {x1 : Int32} {x2 : Int32} {x3 : Int32} {x4 : Int32} {x5 : Int32}  : zd scr 17 38 [some (.ref a0), some (.int x1), some (.int x2), some (.int x3), some (.int x4), some (.int x5)] [] w = if x3 < x5 then zd scr 17 44 [some (.ref a0), some (.int x1), some (.int x2), some (.int x3), some (.int x4), some (.int x5)] [] w else zd scr 17 66 [some (.ref a0), some (.int x1), some (.int x2), some (.int x3), some (.int x4), some (.int x5)] [] w := by
  refine Eq.trans (zd_iload zh17 rfl rfl) ?_
  refine Eq.trans (zd_iload_n zh17 rfl rfl) ?_
  exact zd_icmple zh17 (t := 66) (by decide) rfl
theorem b17_79 {scr : List Int32} {w : zAW} {a0 : Nat} {x1 : Int32} {x2 : Int32} {x3 : Int32} {x4 : Int32} {x5 : Int32}  : zd scr 17 79 [some (.ref a0), some (.int x1), some (.int x2), some (.int x3), some (.int x4), some (.int x5)] [] w = if x5 ≤ (nI 6) then zd scr 17 86 [some (.ref a0), some (.int x1), some (.int x2), some (.int x3), some (.int x4), some (.int x5)] [] w else zd scr 17 103 [some (.ref a0), some (.int x1), some (.int x2), some (.int x3), some (.int x4), some (.int x5)] [] w := by
  refine Eq.trans (zd_iload zh17 rfl rfl) ?_
  refine Eq.trans (zd_bipush zh17 (v := (nI 6)) rfl rfl) ?_
  exact zd_icmpgt zh17 (t := 103) (by decide) rfl
theorem b17_9 {scr : List Int32} {w : zAW} {a0 : Nat} {x1 : Int32}  : zd scr 17 9 [some (.ref a0), some (.int x1), none, none, none, none] [] w = some (none, w) := by
  exact zd_vret zh17 rfl rfl
theorem b17_10 {scr : List Int32} {w : zAW} {a0 : Nat} {x1 : Int32} {g1 : Nat} (h1 : zgf w a0 1 1 = some (.ref g1)) {f2 : Int32} (h2 : zal w g1 (nI 6) = some f2) {g3 : Nat} (h3 : zgf w a0 1 1 = some (.ref g3)) {f4 : Int32} (h4 : zal w g3 (x1 + (nI 1)) = some f4) {g5 : Nat} (h5 : zgf w a0 1 0 = some (.ref g5)) {f6 : Int32} (h6 : zal w g5 f2 = some f6) : zd scr 17 10 [some (.ref a0), some (.int x1), none, none, none, none] [] w = zd scr 17 38 [some (.ref a0), some (.int x1), some (.int f2), some (.int f4), some (.int f6), some (.int f2)] [] w := by
  refine Eq.trans (zd_aload_n zh17 rfl rfl) ?_
  refine Eq.trans (zd_getfield zh17 (ci := 1) (k := 1) rfl h1 rfl) ?_
  refine Eq.trans (zd_bipush zh17 (v := (nI 6)) rfl rfl) ?_
  refine Eq.trans (zd_iaload zh17 h2 rfl) ?_
  refine Eq.trans (zd_istore_n zh17 (ls' := [some (.ref a0), some (.int x1), some (.int f2), none, none, none]) (Nat.le_of_ble_eq_true rfl) rfl rfl) ?_
  refine Eq.trans (zd_aload_n zh17 rfl rfl) ?_
  refine Eq.trans (zd_getfield zh17 (ci := 1) (k := 1) rfl h3 rfl) ?_
  refine Eq.trans (zd_iload_n zh17 rfl rfl) ?_
  refine Eq.trans (zd_iconst zh17 (v := (nI 1)) rfl rfl) ?_
  refine Eq.trans (zd_iadd zh17 rfl) ?_
  refine Eq.trans (zd_iaload zh17 h4 rfl) ?_
  refine Eq.trans (zd_istore_n zh17 (ls' := [some (.ref a0), some (.int x1), some (.int f2), some (.int f4), none, none]) (Nat.le_of_ble_eq_true rfl) rfl rfl) ?_
  refine Eq.trans (zd_aload_n zh17 rfl rfl) ?_
  refine Eq.trans (zd_getfield zh17 (ci := 1) (k := 0) rfl h5 rfl) ?_
  refine Eq.trans (zd_iload_n zh17 rfl rfl) ?_
  refine Eq.trans (zd_iaload zh17 h6 rfl) ?_
  refine Eq.trans (zd_istore zh17 (ls' := [some (.ref a0), some (.int x1), some (.int f2), some (.int f4), some (.int f6), none]) (Nat.le_of_ble_eq_true rfl) rfl rfl) ?_
  refine Eq.trans (zd_iload_n zh17 rfl rfl) ?_
  refine Eq.trans (zd_istore zh17 (ls' := [some (.ref a0), some (.int x1), some (.int f2), some (.int f4), some (.int f6), some (.int f2)]) (Nat.le_of_ble_eq_true rfl) rfl rfl) ?_
  exact rfl
theorem b17_44 {scr : List Int32} {w : zAW} {a0 : Nat} {x1 : Int32} {x2 : Int32} {x3 : Int32} {x4 : Int32} {x5 : Int32} {g1 : Nat} (h1 : zgf w a0 1 0 = some (.ref g1)) {g2 : Nat} (h2 : zgf w a0 1 0 = some (.ref g2)) {f3 : Int32} (h3 : zal w g2 (x5 - (nI 1)) = some f3) {w1 : zAW} (h4 : zas w g1 x5 f3 = some w1) : zd scr 17 44 [some (.ref a0), some (.int x1), some (.int x2), some (.int x3), some (.int x4), some (.int x5)] [] w = zd scr 17 38 [some (.ref a0), some (.int x1), some (.int x2), some (.int x3), some (.int x4), some (.int (x5 - (nI 1)))] [] w1 := by
  refine Eq.trans (zd_aload_n zh17 rfl rfl) ?_
  refine Eq.trans (zd_getfield zh17 (ci := 1) (k := 0) rfl h1 rfl) ?_
  refine Eq.trans (zd_iload zh17 rfl rfl) ?_
  refine Eq.trans (zd_aload_n zh17 rfl rfl) ?_
  refine Eq.trans (zd_getfield zh17 (ci := 1) (k := 0) rfl h2 rfl) ?_
  refine Eq.trans (zd_iload zh17 rfl rfl) ?_
  refine Eq.trans (zd_iconst zh17 (v := (nI 1)) rfl rfl) ?_
  refine Eq.trans (zd_isub zh17 rfl) ?_
  refine Eq.trans (zd_iaload zh17 h3 rfl) ?_
  refine Eq.trans (zd_iastore zh17 h4 rfl) ?_
  refine Eq.trans (zd_iinc zh17 (ls' := [some (.ref a0), some (.int x1), some (.int x2), some (.int x3), some (.int x4), some (.int (x5 - (nI 1)))]) (v := (x5 - (nI 1))) rfl (zdecr _) rfl rfl) ?_
  refine Eq.trans (zd_goto zh17 (t := 38) (by decide) rfl) ?_
  exact rfl
theorem b17_66 {scr : List Int32} {w : zAW} {a0 : Nat} {x1 : Int32} {x2 : Int32} {x3 : Int32} {x4 : Int32} {x5 : Int32} {g1 : Nat} (h1 : zgf w a0 1 0 = some (.ref g1)) {w1 : zAW} (h2 : zas w g1 x3 x4 = some w1) : zd scr 17 66 [some (.ref a0), some (.int x1), some (.int x2), some (.int x3), some (.int x4), some (.int x5)] [] w = zd scr 17 79 [some (.ref a0), some (.int x1), some (.int x2), some (.int x3), some (.int x4), some (.int (x1 + (nI 1)))] [] w1 := by
  refine Eq.trans (zd_aload_n zh17 rfl rfl) ?_
  refine Eq.trans (zd_getfield zh17 (ci := 1) (k := 0) rfl h1 rfl) ?_
  refine Eq.trans (zd_iload_n zh17 rfl rfl) ?_
  refine Eq.trans (zd_iload zh17 rfl rfl) ?_
  refine Eq.trans (zd_iastore zh17 h2 rfl) ?_
  refine Eq.trans (zd_iload_n zh17 rfl rfl) ?_
  refine Eq.trans (zd_iconst zh17 (v := (nI 1)) rfl rfl) ?_
  refine Eq.trans (zd_iadd zh17 rfl) ?_
  refine Eq.trans (zd_istore zh17 (ls' := [some (.ref a0), some (.int x1), some (.int x2), some (.int x3), some (.int x4), some (.int (x1 + (nI 1)))]) (Nat.le_of_ble_eq_true rfl) rfl rfl) ?_
  exact rfl
theorem b17_86 {scr : List Int32} {w : zAW} {a0 : Nat} {x1 : Int32} {x2 : Int32} {x3 : Int32} {x4 : Int32} {x5 : Int32} {g1 : Nat} (h1 : zgf w a0 1 1 = some (.ref g1)) {f2 : Int32} (h2 : zal w g1 x5 = some f2) {w1 : zAW} (h3 : zas w g1 x5 (f2 + (nI 1)) = some w1) : zd scr 17 86 [some (.ref a0), some (.int x1), some (.int x2), some (.int x3), some (.int x4), some (.int x5)] [] w = zd scr 17 79 [some (.ref a0), some (.int x1), some (.int x2), some (.int x3), some (.int x4), some (.int (x5 + (nI 1)))] [] w1 := by
  refine Eq.trans (zd_aload_n zh17 rfl rfl) ?_
  refine Eq.trans (zd_getfield zh17 (ci := 1) (k := 1) rfl h1 rfl) ?_
  refine Eq.trans (zd_iload zh17 rfl rfl) ?_
  refine Eq.trans (zd_dup2 zh17 rfl) ?_
  refine Eq.trans (zd_iaload zh17 h2 rfl) ?_
  refine Eq.trans (zd_iconst zh17 (v := (nI 1)) rfl rfl) ?_
  refine Eq.trans (zd_iadd zh17 rfl) ?_
  refine Eq.trans (zd_iastore zh17 h3 rfl) ?_
  refine Eq.trans (zd_iinc zh17 (ls' := [some (.ref a0), some (.int x1), some (.int x2), some (.int x3), some (.int x4), some (.int (x5 + (nI 1)))]) (v := (x5 + (nI 1))) rfl rfl rfl rfl) ?_
  refine Eq.trans (zd_goto zh17 (t := 79) (by decide) rfl) ?_
  exact rfl
theorem b17_103 {scr : List Int32} {w : zAW} {a0 : Nat} {x1 : Int32} {x2 : Int32} {x3 : Int32} {x4 : Int32} {x5 : Int32}  : zd scr 17 103 [some (.ref a0), some (.int x1), some (.int x2), some (.int x3), some (.int x4), some (.int x5)] [] w = some (none, w) := by
  exact zd_vret zh17 rfl rfl
/-! yX1_trade: 18, MarbleHeirs$Marbles.trade(IIII)V -/
theorem b18_0 {scr : List Int32} {w : zAW} {a0 : Nat} {x1 : Int32} {x2 : Int32} {x3 : Int32} {x4 : Int32} {g1 : Nat} (h1 : zgf w a0 1 1 = some (.ref g1)) {f2 : Int32} (h2 : zal w g1 x1 = some f2) {g3 : Nat} (h3 : zgf w a0 1 1 = some (.ref g3)) {f4 : Int32} (h4 : zal w g3 x3 = some f4) {g5 : Nat} (h5 : zgf w a0 1 0 = some (.ref g5)) {f6 : Int32} (h6 : zal w g5 (f2 + x2) = some f6) {g7 : Nat} (h7 : zgf w a0 1 0 = some (.ref g7)) {g8 : Nat} (h8 : zgf w a0 1 0 = some (.ref g8)) {f9 : Int32} (h9 : zal w g8 (f4 + x4) = some f9) {w1 : zAW} (h10 : zas w g7 (f2 + x2) f9 = some w1) {g10 : Nat} (h11 : zgf w1 a0 1 0 = some (.ref g10)) {w2 : zAW} (h12 : zas w1 g10 (f4 + x4) f6 = some w2) : zd scr 18 0 [some (.ref a0), some (.int x1), some (.int x2), some (.int x3), some (.int x4), none, none, none] [] w = some (none, w2) := by
  refine Eq.trans (zd_aload_n zh18 rfl rfl) ?_
  refine Eq.trans (zd_getfield zh18 (ci := 1) (k := 1) rfl h1 rfl) ?_
  refine Eq.trans (zd_iload_n zh18 rfl rfl) ?_
  refine Eq.trans (zd_iaload zh18 h2 rfl) ?_
  refine Eq.trans (zd_iload_n zh18 rfl rfl) ?_
  refine Eq.trans (zd_iadd zh18 rfl) ?_
  refine Eq.trans (zd_istore zh18 (ls' := [some (.ref a0), some (.int x1), some (.int x2), some (.int x3), some (.int x4), some (.int (f2 + x2)), none, none]) (Nat.le_of_ble_eq_true rfl) rfl rfl) ?_
  refine Eq.trans (zd_aload_n zh18 rfl rfl) ?_
  refine Eq.trans (zd_getfield zh18 (ci := 1) (k := 1) rfl h3 rfl) ?_
  refine Eq.trans (zd_iload_n zh18 rfl rfl) ?_
  refine Eq.trans (zd_iaload zh18 h4 rfl) ?_
  refine Eq.trans (zd_iload zh18 rfl rfl) ?_
  refine Eq.trans (zd_iadd zh18 rfl) ?_
  refine Eq.trans (zd_istore zh18 (ls' := [some (.ref a0), some (.int x1), some (.int x2), some (.int x3), some (.int x4), some (.int (f2 + x2)), some (.int (f4 + x4)), none]) (Nat.le_of_ble_eq_true rfl) rfl rfl) ?_
  refine Eq.trans (zd_aload_n zh18 rfl rfl) ?_
  refine Eq.trans (zd_getfield zh18 (ci := 1) (k := 0) rfl h5 rfl) ?_
  refine Eq.trans (zd_iload zh18 rfl rfl) ?_
  refine Eq.trans (zd_iaload zh18 h6 rfl) ?_
  refine Eq.trans (zd_istore zh18 (ls' := [some (.ref a0), some (.int x1), some (.int x2), some (.int x3), some (.int x4), some (.int (f2 + x2)), some (.int (f4 + x4)), some (.int f6)]) (Nat.le_of_ble_eq_true rfl) rfl rfl) ?_
  refine Eq.trans (zd_aload_n zh18 rfl rfl) ?_
  refine Eq.trans (zd_getfield zh18 (ci := 1) (k := 0) rfl h7 rfl) ?_
  refine Eq.trans (zd_iload zh18 rfl rfl) ?_
  refine Eq.trans (zd_aload_n zh18 rfl rfl) ?_
  refine Eq.trans (zd_getfield zh18 (ci := 1) (k := 0) rfl h8 rfl) ?_
  refine Eq.trans (zd_iload zh18 rfl rfl) ?_
  refine Eq.trans (zd_iaload zh18 h9 rfl) ?_
  refine Eq.trans (zd_iastore zh18 h10 rfl) ?_
  refine Eq.trans (zd_aload_n zh18 rfl rfl) ?_
  refine Eq.trans (zd_getfield zh18 (ci := 1) (k := 0) rfl h11 rfl) ?_
  refine Eq.trans (zd_iload zh18 rfl rfl) ?_
  refine Eq.trans (zd_iload zh18 rfl rfl) ?_
  refine Eq.trans (zd_iastore zh18 h12 rfl) ?_
  exact zd_vret zh18 rfl rfl
/-! yX1_removeBag: 19, MarbleHeirs$Marbles.removeBag(I)V -/
set_option maxRecDepth 20000 in
theorem b19_0 {scr : List Int32} {w : zAW} {a0 : Nat} {x1 : Int32} (h1 : zob w a0 1 = true) {f1 : Int32} {w1 : zAW} (h2 : zC scr 8 [.ref a0, .int x1] w = some (some (.int f1), w1)) : zd scr 19 0 [some (.ref a0), some (.int x1), none, none] [] w = zd scr 19 8 [some (.ref a0), some (.int x1), some (.int f1), some (.int (nI 0))] [] w1 := by
  refine Eq.trans (zd_aload_n zh19 rfl rfl) ?_
  refine Eq.trans (zd_iload_n zh19 rfl rfl) ?_
  refine Eq.trans (zd_invVi zh19 zh8 rfl rfl ⟨Nat.le_of_ble_eq_true rfl, Nat.le_of_ble_eq_true rfl, Nat.le_of_ble_eq_true rfl, Nat.le_of_ble_eq_true rfl⟩ rfl h1 h2 rfl) ?_
  refine Eq.trans (zd_istore_n zh19 (ls' := [some (.ref a0), some (.int x1), some (.int f1), none]) (Nat.le_of_ble_eq_true rfl) rfl rfl) ?_
  refine Eq.trans (zd_iconst zh19 (v := (nI 0)) rfl rfl) ?_
  refine Eq.trans (zd_istore_n zh19 (ls' := [some (.ref a0), some (.int x1), some (.int f1), some (.int (nI 0))]) (Nat.le_of_ble_eq_true rfl) rfl rfl) ?_
  exact rfl
theorem b19_8 {scr : List Int32} {w : zAW} {a0 : Nat} {x1 : Int32} {x2 : Int32} {x3 : Int32}  : zd scr 19 8 [some (.ref a0), some (.int x1), some (.int x2), some (.int x3)] [] w = if x3 < x2 then zd scr 19 13 [some (.ref a0), some (.int x1), some (.int x2), some (.int x3)] [] w else zd scr 19 41 [some (.ref a0), some (.int x1), some (.int x2), some (.int x3)] [] w := by
  refine Eq.trans (zd_iload_n zh19 rfl rfl) ?_
  refine Eq.trans (zd_iload_n zh19 rfl rfl) ?_
  exact zd_icmpge zh19 (t := 41) (by decide) rfl
theorem b19_45 {scr : List Int32} {w : zAW} {a0 : Nat} {x1 : Int32} {x2 : Int32} {x3 : Int32}  : zd scr 19 45 [some (.ref a0), some (.int x1), some (.int x2), some (.int x3)] [] w = if x3 ≤ (nI 6) then zd scr 19 51 [some (.ref a0), some (.int x1), some (.int x2), some (.int x3)] [] w else zd scr 19 67 [some (.ref a0), some (.int x1), some (.int x2), some (.int x3)] [] w := by
  refine Eq.trans (zd_iload_n zh19 rfl rfl) ?_
  refine Eq.trans (zd_bipush zh19 (v := (nI 6)) rfl rfl) ?_
  exact zd_icmpgt zh19 (t := 67) (by decide) rfl
theorem b19_71 {scr : List Int32} {w : zAW} {a0 : Nat} {x1 : Int32} {x2 : Int32} {x3 : Int32}  : zd scr 19 71 [some (.ref a0), some (.int x1), some (.int x2), some (.int x3)] [] w = if x3 < (nI 6) then zd scr 19 77 [some (.ref a0), some (.int x1), some (.int x2), some (.int x3)] [] w else zd scr 19 97 [some (.ref a0), some (.int x1), some (.int x2), some (.int x3)] [] w := by
  refine Eq.trans (zd_iload_n zh19 rfl rfl) ?_
  refine Eq.trans (zd_bipush zh19 (v := (nI 6)) rfl rfl) ?_
  exact zd_icmpge zh19 (t := 97) (by decide) rfl
set_option maxRecDepth 20000 in
theorem b19_13 {scr : List Int32} {w : zAW} {a0 : Nat} {x1 : Int32} {x2 : Int32} {x3 : Int32} {g1 : Nat} (h1 : zgf w a0 1 0 = some (.ref g1)) {g2 : Nat} (h2 : zgf w a0 1 1 = some (.ref g2)) {f3 : Int32} (h3 : zal w g2 x1 = some f3) {g4 : Nat} (h4 : zgf w a0 1 1 = some (.ref g4)) {f5 : Int32} (h5 : zal w g4 (nI 7) = some f5) {w1 : zAW} (h6 : zC scr 83 [.ref g1, .int f3, .int (f5 - (nI 1))] w = some (none, w1)) : zd scr 19 13 [some (.ref a0), some (.int x1), some (.int x2), some (.int x3)] [] w = zd scr 19 8 [some (.ref a0), some (.int x1), some (.int x2), some (.int (x3 + (nI 1)))] [] w1 := by
  refine Eq.trans (zd_aload_n zh19 rfl rfl) ?_
  refine Eq.trans (zd_getfield zh19 (ci := 1) (k := 0) rfl h1 rfl) ?_
  refine Eq.trans (zd_aload_n zh19 rfl rfl) ?_
  refine Eq.trans (zd_getfield zh19 (ci := 1) (k := 1) rfl h2 rfl) ?_
  refine Eq.trans (zd_iload_n zh19 rfl rfl) ?_
  refine Eq.trans (zd_iaload zh19 h3 rfl) ?_
  refine Eq.trans (zd_aload_n zh19 rfl rfl) ?_
  refine Eq.trans (zd_getfield zh19 (ci := 1) (k := 1) rfl h4 rfl) ?_
  refine Eq.trans (zd_bipush zh19 (v := (nI 7)) rfl rfl) ?_
  refine Eq.trans (zd_iaload zh19 h5 rfl) ?_
  refine Eq.trans (zd_iconst zh19 (v := (nI 1)) rfl rfl) ?_
  refine Eq.trans (zd_isub zh19 rfl) ?_
  refine Eq.trans (zd_invTv zh19 zh83 rfl rfl ⟨Nat.le_of_ble_eq_true rfl, Nat.le_of_ble_eq_true rfl, Nat.le_of_ble_eq_true rfl, Or.inl (Nat.le_of_ble_eq_true rfl), Nat.le_of_ble_eq_true rfl⟩ rfl h6 rfl) ?_
  refine Eq.trans (zd_iinc zh19 (ls' := [some (.ref a0), some (.int x1), some (.int x2), some (.int (x3 + (nI 1)))]) (v := (x3 + (nI 1))) rfl rfl rfl rfl) ?_
  refine Eq.trans (zd_goto zh19 (t := 8) (by decide) rfl) ?_
  exact rfl
theorem b19_41 {scr : List Int32} {w : zAW} {a0 : Nat} {x1 : Int32} {x2 : Int32} {x3 : Int32}  : zd scr 19 41 [some (.ref a0), some (.int x1), some (.int x2), some (.int x3)] [] w = zd scr 19 45 [some (.ref a0), some (.int x1), some (.int x2), some (.int (x1 + (nI 1)))] [] w := by
  refine Eq.trans (zd_iload_n zh19 rfl rfl) ?_
  refine Eq.trans (zd_iconst zh19 (v := (nI 1)) rfl rfl) ?_
  refine Eq.trans (zd_iadd zh19 rfl) ?_
  refine Eq.trans (zd_istore_n zh19 (ls' := [some (.ref a0), some (.int x1), some (.int x2), some (.int (x1 + (nI 1)))]) (Nat.le_of_ble_eq_true rfl) rfl rfl) ?_
  exact rfl
theorem b19_51 {scr : List Int32} {w : zAW} {a0 : Nat} {x1 : Int32} {x2 : Int32} {x3 : Int32} {g1 : Nat} (h1 : zgf w a0 1 1 = some (.ref g1)) {f2 : Int32} (h2 : zal w g1 x3 = some f2) {w1 : zAW} (h3 : zas w g1 x3 (f2 - x2) = some w1) : zd scr 19 51 [some (.ref a0), some (.int x1), some (.int x2), some (.int x3)] [] w = zd scr 19 45 [some (.ref a0), some (.int x1), some (.int x2), some (.int (x3 + (nI 1)))] [] w1 := by
  refine Eq.trans (zd_aload_n zh19 rfl rfl) ?_
  refine Eq.trans (zd_getfield zh19 (ci := 1) (k := 1) rfl h1 rfl) ?_
  refine Eq.trans (zd_iload_n zh19 rfl rfl) ?_
  refine Eq.trans (zd_dup2 zh19 rfl) ?_
  refine Eq.trans (zd_iaload zh19 h2 rfl) ?_
  refine Eq.trans (zd_iload_n zh19 rfl rfl) ?_
  refine Eq.trans (zd_isub zh19 rfl) ?_
  refine Eq.trans (zd_iastore zh19 h3 rfl) ?_
  refine Eq.trans (zd_iinc zh19 (ls' := [some (.ref a0), some (.int x1), some (.int x2), some (.int (x3 + (nI 1)))]) (v := (x3 + (nI 1))) rfl rfl rfl rfl) ?_
  refine Eq.trans (zd_goto zh19 (t := 45) (by decide) rfl) ?_
  exact rfl
theorem b19_67 {scr : List Int32} {w : zAW} {a0 : Nat} {x1 : Int32} {x2 : Int32} {x3 : Int32}  : zd scr 19 67 [some (.ref a0), some (.int x1), some (.int x2), some (.int x3)] [] w = zd scr 19 71 [some (.ref a0), some (.int x1), some (.int x2), some (.int (x1 + (nI 1)))] [] w := by
  refine Eq.trans (zd_iload_n zh19 rfl rfl) ?_
  refine Eq.trans (zd_iconst zh19 (v := (nI 1)) rfl rfl) ?_
  refine Eq.trans (zd_iadd zh19 rfl) ?_
  refine Eq.trans (zd_istore_n zh19 (ls' := [some (.ref a0), some (.int x1), some (.int x2), some (.int (x1 + (nI 1)))]) (Nat.le_of_ble_eq_true rfl) rfl rfl) ?_
  exact rfl
theorem b19_77 {scr : List Int32} {w : zAW} {a0 : Nat} {x1 : Int32} {x2 : Int32} {x3 : Int32} {g1 : Nat} (h1 : zgf w a0 1 1 = some (.ref g1)) {g2 : Nat} (h2 : zgf w a0 1 1 = some (.ref g2)) {f3 : Int32} (h3 : zal w g2 (x3 + (nI 1)) = some f3) {w1 : zAW} (h4 : zas w g1 x3 f3 = some w1) : zd scr 19 77 [some (.ref a0), some (.int x1), some (.int x2), some (.int x3)] [] w = zd scr 19 71 [some (.ref a0), some (.int x1), some (.int x2), some (.int (x3 + (nI 1)))] [] w1 := by
  refine Eq.trans (zd_aload_n zh19 rfl rfl) ?_
  refine Eq.trans (zd_getfield zh19 (ci := 1) (k := 1) rfl h1 rfl) ?_
  refine Eq.trans (zd_iload_n zh19 rfl rfl) ?_
  refine Eq.trans (zd_aload_n zh19 rfl rfl) ?_
  refine Eq.trans (zd_getfield zh19 (ci := 1) (k := 1) rfl h2 rfl) ?_
  refine Eq.trans (zd_iload_n zh19 rfl rfl) ?_
  refine Eq.trans (zd_iconst zh19 (v := (nI 1)) rfl rfl) ?_
  refine Eq.trans (zd_iadd zh19 rfl) ?_
  refine Eq.trans (zd_iaload zh19 h3 rfl) ?_
  refine Eq.trans (zd_iastore zh19 h4 rfl) ?_
  refine Eq.trans (zd_iinc zh19 (ls' := [some (.ref a0), some (.int x1), some (.int x2), some (.int (x3 + (nI 1)))]) (v := (x3 + (nI 1))) rfl rfl rfl rfl) ?_
  refine Eq.trans (zd_goto zh19 (t := 71) (by decide) rfl) ?_
  exact rfl
theorem b19_97 {scr : List Int32} {w : zAW} {a0 : Nat} {x1 : Int32} {x2 : Int32} {x3 : Int32}  : zd scr 19 97 [some (.ref a0), some (.int x1), some (.int x2), some (.int x3)] [] w = some (none, w) := by
  exact zd_vret zh19 rfl rfl
/-! yX2_init: 20, MarbleHeirs$Past.<init>()V -/
theorem b20_19 {scr : List Int32} {w : zAW} {a0 : Nat} {x1 : Int32}  : zd scr 20 19 [some (.ref a0), some (.int x1)] [] w = if x1 < (nI 5) then zd scr 20 24 [some (.ref a0), some (.int x1)] [] w else zd scr 20 43 [some (.ref a0), some (.int x1)] [] w := by
  refine Eq.trans (zd_iload_n zh20 rfl rfl) ?_
  refine Eq.trans (zd_iconst zh20 (v := (nI 5)) rfl rfl) ?_
  exact zd_icmpge zh20 (t := 43) (by decide) rfl
theorem b20_43 {scr : List Int32} {w : zAW} {a0 : Nat} {x1 : Int32}  : zd scr 20 43 [some (.ref a0), some (.int x1)] [] w = some (none, w) := by
  exact zd_vret zh20 rfl rfl
/-! yX2_keep: 21, MarbleHeirs$Past.keep(LMarbleHeirs$State;)V -/
theorem b21_0 {scr : List Int32} {w : zAW} {a0 : Nat} {a1 : Nat} {f1 : Int32} (h1 : zgf w a0 2 1 = some (.int f1)) : zd scr 21 0 [some (.ref a0), some (.ref a1)] [] w = if f1 < (nI 5) then zd scr 21 12 [some (.ref a0), some (.ref a1)] [] w else zd scr 21 8 [some (.ref a0), some (.ref a1)] [] w := by
  refine Eq.trans (zd_aload_n zh21 rfl rfl) ?_
  refine Eq.trans (zd_getfield zh21 (ci := 2) (k := 1) rfl h1 rfl) ?_
  refine Eq.trans (zd_iconst zh21 (v := (nI 5)) rfl rfl) ?_
  exact zd_icmplt zh21 (t := 12) (by decide) rfl
set_option maxRecDepth 20000 in
theorem b21_12 {scr : List Int32} {w : zAW} {a0 : Nat} {a1 : Nat} {g1 : Nat} (h1 : zgf w a0 2 0 = some (.ref g1)) {f2 : Int32} (h2 : zgf w a0 2 1 = some (.int f2)) {g3 : Nat} (h3 : zql w g1 f2 = some g3) (h4 : zob w g3 3 = true) {w1 : zAW} (h5 : zC scr 25 [.ref g3, .ref a1] w = some (none, w1)) {f4 : Int32} (h6 : zgf w1 a0 2 1 = some (.int f4)) {w2 : zAW} (h7 : zpf w1 a0 2 1 (.int (f4 + (nI 1))) = some w2) : zd scr 21 12 [some (.ref a0), some (.ref a1)] [] w = some (none, w2) := by
  refine Eq.trans (zd_aload_n zh21 rfl rfl) ?_
  refine Eq.trans (zd_getfield zh21 (ci := 2) (k := 0) rfl h1 rfl) ?_
  refine Eq.trans (zd_aload_n zh21 rfl rfl) ?_
  refine Eq.trans (zd_getfield zh21 (ci := 2) (k := 1) rfl h2 rfl) ?_
  refine Eq.trans (zd_aaload zh21 h3 rfl) ?_
  refine Eq.trans (zd_aload_n zh21 rfl rfl) ?_
  refine Eq.trans (zd_invVv zh21 zh25 rfl rfl ⟨Nat.le_of_ble_eq_true rfl, Nat.le_of_ble_eq_true rfl, Nat.le_of_ble_eq_true rfl, Nat.le_of_ble_eq_true rfl⟩ rfl h4 h5 rfl) ?_
  refine Eq.trans (zd_aload_n zh21 rfl rfl) ?_
  refine Eq.trans (zd_dup zh21 rfl) ?_
  refine Eq.trans (zd_getfield zh21 (ci := 2) (k := 1) rfl h6 rfl) ?_
  refine Eq.trans (zd_iconst zh21 (v := (nI 1)) rfl rfl) ?_
  refine Eq.trans (zd_iadd zh21 rfl) ?_
  refine Eq.trans (zd_putfield zh21 (ci := 2) (k := 1) rfl rfl h7 rfl) ?_
  exact zd_vret zh21 rfl rfl
set_option maxRecDepth 20000 in
theorem b21_8 {scr : List Int32} {w : zAW} {a0 : Nat} {a1 : Nat} (h1 : zob w a0 2 = true) {w1 : zAW} (h2 : zC scr 22 [.ref a0] w = some (none, w1)) {g1 : Nat} (h3 : zgf w1 a0 2 0 = some (.ref g1)) {f2 : Int32} (h4 : zgf w1 a0 2 1 = some (.int f2)) {g3 : Nat} (h5 : zql w1 g1 f2 = some g3) (h6 : zob w1 g3 3 = true) {w2 : zAW} (h7 : zC scr 25 [.ref g3, .ref a1] w1 = some (none, w2)) {f4 : Int32} (h8 : zgf w2 a0 2 1 = some (.int f4)) {w3 : zAW} (h9 : zpf w2 a0 2 1 (.int (f4 + (nI 1))) = some w3) : zd scr 21 8 [some (.ref a0), some (.ref a1)] [] w = some (none, w3) := by
  refine Eq.trans (zd_aload_n zh21 rfl rfl) ?_
  refine Eq.trans (zd_invVv zh21 zh22 rfl rfl ⟨Nat.le_of_ble_eq_true rfl, Nat.le_of_ble_eq_true rfl, Nat.le_of_ble_eq_true rfl, Nat.le_of_ble_eq_true rfl⟩ rfl h1 h2 rfl) ?_
  refine Eq.trans (zd_aload_n zh21 rfl rfl) ?_
  refine Eq.trans (zd_getfield zh21 (ci := 2) (k := 0) rfl h3 rfl) ?_
  refine Eq.trans (zd_aload_n zh21 rfl rfl) ?_
  refine Eq.trans (zd_getfield zh21 (ci := 2) (k := 1) rfl h4 rfl) ?_
  refine Eq.trans (zd_aaload zh21 h5 rfl) ?_
  refine Eq.trans (zd_aload_n zh21 rfl rfl) ?_
  refine Eq.trans (zd_invVv zh21 zh25 rfl rfl ⟨Nat.le_of_ble_eq_true rfl, Nat.le_of_ble_eq_true rfl, Nat.le_of_ble_eq_true rfl, Nat.le_of_ble_eq_true rfl⟩ rfl h6 h7 rfl) ?_
  refine Eq.trans (zd_aload_n zh21 rfl rfl) ?_
  refine Eq.trans (zd_dup zh21 rfl) ?_
  refine Eq.trans (zd_getfield zh21 (ci := 2) (k := 1) rfl h8 rfl) ?_
  refine Eq.trans (zd_iconst zh21 (v := (nI 1)) rfl rfl) ?_
  refine Eq.trans (zd_iadd zh21 rfl) ?_
  refine Eq.trans (zd_putfield zh21 (ci := 2) (k := 1) rfl rfl h9 rfl) ?_
  exact zd_vret zh21 rfl rfl
/-! yX2_discardOldest: 22, MarbleHeirs$Past.discardOldest()V -/
theorem b22_0 {scr : List Int32} {w : zAW} {a0 : Nat} {g1 : Nat} (h1 : zgf w a0 2 0 = some (.ref g1)) {g2 : Nat} (h2 : zql w g1 (nI 0) = some g2) : zd scr 22 0 [some (.ref a0), none, none] [] w = zd scr 22 9 [some (.ref a0), some (.ref g2), some (.int (nI 1))] [] w := by
  refine Eq.trans (zd_aload_n zh22 rfl rfl) ?_
  refine Eq.trans (zd_getfield zh22 (ci := 2) (k := 0) rfl h1 rfl) ?_
  refine Eq.trans (zd_iconst zh22 (v := (nI 0)) rfl rfl) ?_
  refine Eq.trans (zd_aaload zh22 h2 rfl) ?_
  refine Eq.trans (zd_astore_n zh22 (ls' := [some (.ref a0), some (.ref g2), none]) (Nat.le_of_ble_eq_true rfl) rfl rfl) ?_
  refine Eq.trans (zd_iconst zh22 (v := (nI 1)) rfl rfl) ?_
  refine Eq.trans (zd_istore_n zh22 (ls' := [some (.ref a0), some (.ref g2), some (.int (nI 1))]) (Nat.le_of_ble_eq_true rfl) rfl rfl) ?_
  exact rfl
theorem b22_9 {scr : List Int32} {w : zAW} {a0 : Nat} {a1 : Nat} {x2 : Int32}  : zd scr 22 9 [some (.ref a0), some (.ref a1), some (.int x2)] [] w = if x2 < (nI 5) then zd scr 22 14 [some (.ref a0), some (.ref a1), some (.int x2)] [] w else zd scr 22 34 [some (.ref a0), some (.ref a1), some (.int x2)] [] w := by
  refine Eq.trans (zd_iload_n zh22 rfl rfl) ?_
  refine Eq.trans (zd_iconst zh22 (v := (nI 5)) rfl rfl) ?_
  exact zd_icmpge zh22 (t := 34) (by decide) rfl
theorem b22_14 {scr : List Int32} {w : zAW} {a0 : Nat} {a1 : Nat} {x2 : Int32} {g1 : Nat} (h1 : zgf w a0 2 0 = some (.ref g1)) {g2 : Nat} (h2 : zgf w a0 2 0 = some (.ref g2)) {g3 : Nat} (h3 : zql w g2 x2 = some g3) {w1 : zAW} (h4 : zqs w g1 (x2 - (nI 1)) g3 = some w1) : zd scr 22 14 [some (.ref a0), some (.ref a1), some (.int x2)] [] w = zd scr 22 9 [some (.ref a0), some (.ref a1), some (.int (x2 + (nI 1)))] [] w1 := by
  refine Eq.trans (zd_aload_n zh22 rfl rfl) ?_
  refine Eq.trans (zd_getfield zh22 (ci := 2) (k := 0) rfl h1 rfl) ?_
  refine Eq.trans (zd_iload_n zh22 rfl rfl) ?_
  refine Eq.trans (zd_iconst zh22 (v := (nI 1)) rfl rfl) ?_
  refine Eq.trans (zd_isub zh22 rfl) ?_
  refine Eq.trans (zd_aload_n zh22 rfl rfl) ?_
  refine Eq.trans (zd_getfield zh22 (ci := 2) (k := 0) rfl h2 rfl) ?_
  refine Eq.trans (zd_iload_n zh22 rfl rfl) ?_
  refine Eq.trans (zd_aaload zh22 h3 rfl) ?_
  refine Eq.trans (zd_aastore zh22 h4 rfl) ?_
  refine Eq.trans (zd_iinc zh22 (ls' := [some (.ref a0), some (.ref a1), some (.int (x2 + (nI 1)))]) (v := (x2 + (nI 1))) rfl rfl rfl rfl) ?_
  refine Eq.trans (zd_goto zh22 (t := 9) (by decide) rfl) ?_
  exact rfl
theorem b22_34 {scr : List Int32} {w : zAW} {a0 : Nat} {a1 : Nat} {x2 : Int32} {g1 : Nat} (h1 : zgf w a0 2 0 = some (.ref g1)) {w1 : zAW} (h2 : zqs w g1 (nI 4) a1 = some w1) {w2 : zAW} (h3 : zpf w1 a0 2 1 (.int (nI 4)) = some w2) : zd scr 22 34 [some (.ref a0), some (.ref a1), some (.int x2)] [] w = some (none, w2) := by
  refine Eq.trans (zd_aload_n zh22 rfl rfl) ?_
  refine Eq.trans (zd_getfield zh22 (ci := 2) (k := 0) rfl h1 rfl) ?_
  refine Eq.trans (zd_iconst zh22 (v := (nI 4)) rfl rfl) ?_
  refine Eq.trans (zd_aload_n zh22 rfl rfl) ?_
  refine Eq.trans (zd_aastore zh22 h2 rfl) ?_
  refine Eq.trans (zd_aload_n zh22 rfl rfl) ?_
  refine Eq.trans (zd_iconst zh22 (v := (nI 4)) rfl rfl) ?_
  refine Eq.trans (zd_putfield zh22 (ci := 2) (k := 1) rfl rfl h3 rfl) ?_
  exact zd_vret zh22 rfl rfl
/-! yX2_takeBack: 23, MarbleHeirs$Past.takeBack(LMarbleHeirs$State;)V -/
theorem b23_0 {scr : List Int32} {w : zAW} {a0 : Nat} {a1 : Nat} {f1 : Int32} (h1 : zgf w a0 2 1 = some (.int f1)) : zd scr 23 0 [some (.ref a0), some (.ref a1)] [] w = if 0 < f1 then zd scr 23 7 [some (.ref a0), some (.ref a1)] [] w else zd scr 23 30 [some (.ref a0), some (.ref a1)] [] w := by
  refine Eq.trans (zd_aload_n zh23 rfl rfl) ?_
  refine Eq.trans (zd_getfield zh23 (ci := 2) (k := 1) rfl h1 rfl) ?_
  exact zd_ifle zh23 (t := 30) (by decide) rfl
set_option maxRecDepth 20000 in
theorem b23_7 {scr : List Int32} {w : zAW} {a0 : Nat} {a1 : Nat} {f1 : Int32} (h1 : zgf w a0 2 1 = some (.int f1)) {w1 : zAW} (h2 : zpf w a0 2 1 (.int (f1 - (nI 1))) = some w1) {g2 : Nat} (h3 : zgf w1 a0 2 0 = some (.ref g2)) {f3 : Int32} (h4 : zgf w1 a0 2 1 = some (.int f3)) {g4 : Nat} (h5 : zql w1 g2 f3 = some g4) (h6 : zob w1 a1 3 = true) {w2 : zAW} (h7 : zC scr 25 [.ref a1, .ref g4] w1 = some (none, w2)) : zd scr 23 7 [some (.ref a0), some (.ref a1)] [] w = some (none, w2) := by
  refine Eq.trans (zd_aload_n zh23 rfl rfl) ?_
  refine Eq.trans (zd_dup zh23 rfl) ?_
  refine Eq.trans (zd_getfield zh23 (ci := 2) (k := 1) rfl h1 rfl) ?_
  refine Eq.trans (zd_iconst zh23 (v := (nI 1)) rfl rfl) ?_
  refine Eq.trans (zd_isub zh23 rfl) ?_
  refine Eq.trans (zd_putfield zh23 (ci := 2) (k := 1) rfl rfl h2 rfl) ?_
  refine Eq.trans (zd_aload_n zh23 rfl rfl) ?_
  refine Eq.trans (zd_aload_n zh23 rfl rfl) ?_
  refine Eq.trans (zd_getfield zh23 (ci := 2) (k := 0) rfl h3 rfl) ?_
  refine Eq.trans (zd_aload_n zh23 rfl rfl) ?_
  refine Eq.trans (zd_getfield zh23 (ci := 2) (k := 1) rfl h4 rfl) ?_
  refine Eq.trans (zd_aaload zh23 h5 rfl) ?_
  refine Eq.trans (zd_invVv zh23 zh25 rfl rfl ⟨Nat.le_of_ble_eq_true rfl, Nat.le_of_ble_eq_true rfl, Nat.le_of_ble_eq_true rfl, Nat.le_of_ble_eq_true rfl⟩ rfl h6 h7 rfl) ?_
  exact zd_vret zh23 rfl rfl
theorem b23_30 {scr : List Int32} {w : zAW} {a0 : Nat} {a1 : Nat}  : zd scr 23 30 [some (.ref a0), some (.ref a1)] [] w = some (none, w) := by
  exact zd_vret zh23 rfl rfl
/-! yX3_init: 24, MarbleHeirs$State.<init>()V -/
theorem b24_78 {scr : List Int32} {w : zAW} {a0 : Nat} {x1 : Int32}  : zd scr 24 78 [some (.ref a0), some (.int x1)] [] w = if x1 < (nI 4) then zd scr 24 83 [some (.ref a0), some (.int x1)] [] w else zd scr 24 96 [some (.ref a0), some (.int x1)] [] w := by
  refine Eq.trans (zd_iload_n zh24 rfl rfl) ?_
  refine Eq.trans (zd_iconst zh24 (v := (nI 4)) rfl rfl) ?_
  exact zd_icmpge zh24 (t := 96) (by decide) rfl
theorem b24_83 {scr : List Int32} {w : zAW} {a0 : Nat} {x1 : Int32} {g1 : Nat} (h1 : zgf w a0 3 5 = some (.ref g1)) {w1 : zAW} (h2 : zas w g1 x1 (nI 2) = some w1) : zd scr 24 83 [some (.ref a0), some (.int x1)] [] w = zd scr 24 78 [some (.ref a0), some (.int (x1 + (nI 1)))] [] w1 := by
  refine Eq.trans (zd_aload_n zh24 rfl rfl) ?_
  refine Eq.trans (zd_getfield zh24 (ci := 3) (k := 5) rfl h1 rfl) ?_
  refine Eq.trans (zd_iload_n zh24 rfl rfl) ?_
  refine Eq.trans (zd_iconst zh24 (v := (nI 2)) rfl rfl) ?_
  refine Eq.trans (zd_iastore zh24 h2 rfl) ?_
  refine Eq.trans (zd_iinc zh24 (ls' := [some (.ref a0), some (.int (x1 + (nI 1)))]) (v := (x1 + (nI 1))) rfl rfl rfl rfl) ?_
  refine Eq.trans (zd_goto zh24 (t := 78) (by decide) rfl) ?_
  exact rfl
theorem b24_96 {scr : List Int32} {w : zAW} {a0 : Nat} {x1 : Int32}  : zd scr 24 96 [some (.ref a0), some (.int x1)] [] w = some (none, w) := by
  exact zd_vret zh24 rfl rfl
/-! yX3_copyFrom: 25, MarbleHeirs$State.copyFrom(LMarbleHeirs$State;)V -/
set_option maxRecDepth 20000 in
theorem b25_0 {scr : List Int32} {w : zAW} {a0 : Nat} {a1 : Nat} {g1 : Nat} (h1 : zgf w a0 3 0 = some (.ref g1)) {g2 : Nat} (h2 : zgf w a1 3 0 = some (.ref g2)) (h3 : zob w g1 1 = true) {w1 : zAW} (h4 : zC scr 7 [.ref g1, .ref g2] w = some (none, w1)) {f3 : Int32} (h5 : zgf w1 a1 3 1 = some (.int f3)) {w2 : zAW} (h6 : zpf w1 a0 3 1 (.int f3) = some w2) {g4 : Nat} (h7 : zgf w2 a1 3 2 = some (.ref g4)) {g5 : Nat} (h8 : zgf w2 a0 3 2 = some (.ref g5)) {w3 : zAW} (h9 : zcp w2 g4 (nI 0) g5 (nI 0) (nI 6) = some w3) {g6 : Nat} (h10 : zgf w3 a1 3 3 = some (.ref g6)) {g7 : Nat} (h11 : zgf w3 a0 3 3 = some (.ref g7)) {w4 : zAW} (h12 : zcp w3 g6 (nI 0) g7 (nI 0) (nI 6) = some w4) {g8 : Nat} (h13 : zgf w4 a1 3 4 = some (.ref g8)) {g9 : Nat} (h14 : zgf w4 a0 3 4 = some (.ref g9)) {w5 : zAW} (h15 : zcp w4 g8 (nI 0) g9 (nI 0) (nI 6) = some w5) {g10 : Nat} (h16 : zgf w5 a1 3 5 = some (.ref g10)) {g11 : Nat} (h17 : zgf w5 a0 3 5 = some (.ref g11)) {w6 : zAW} (h18 : zcp w5 g10 (nI 0) g11 (nI 0) (nI 4) = some w6) {f12 : Int32} (h19 : zgf w6 a1 3 6 = some (.int f12)) {w7 : zAW} (h20 : zpf w6 a0 3 6 (.int f12) = some w7) {f13 : Int32} (h21 : zgf w7 a1 3 7 = some (.int f13)) {w8 : zAW} (h22 : zpf w7 a0 3 7 (.int f13) = some w8) {f14 : Int32} (h23 : zgf w8 a1 3 8 = some (.int f14)) {w9 : zAW} (h24 : zpf w8 a0 3 8 (.int f14) = some w9) {f15 : Int32} (h25 : zgf w9 a1 3 9 = some (.int f15)) {w10 : zAW} (h26 : zpf w9 a0 3 9 (.int f15) = some w10) {f16 : Int32} (h27 : zgf w10 a1 3 10 = some (.int f16)) {w11 : zAW} (h28 : zpf w10 a0 3 10 (.int f16) = some w11) : zd scr 25 0 [some (.ref a0), some (.ref a1)] [] w = some (none, w11) := by
  refine Eq.trans (zd_aload_n zh25 rfl rfl) ?_
  refine Eq.trans (zd_getfield zh25 (ci := 3) (k := 0) rfl h1 rfl) ?_
  refine Eq.trans (zd_aload_n zh25 rfl rfl) ?_
  refine Eq.trans (zd_getfield zh25 (ci := 3) (k := 0) rfl h2 rfl) ?_
  refine Eq.trans (zd_invVv zh25 zh7 rfl rfl ⟨Nat.le_of_ble_eq_true rfl, Nat.le_of_ble_eq_true rfl, Nat.le_of_ble_eq_true rfl, Nat.le_of_ble_eq_true rfl⟩ rfl h3 h4 rfl) ?_
  refine Eq.trans (zd_aload_n zh25 rfl rfl) ?_
  refine Eq.trans (zd_aload_n zh25 rfl rfl) ?_
  refine Eq.trans (zd_getfield zh25 (ci := 3) (k := 1) rfl h5 rfl) ?_
  refine Eq.trans (zd_putfield zh25 (ci := 3) (k := 1) rfl rfl h6 rfl) ?_
  refine Eq.trans (zd_aload_n zh25 rfl rfl) ?_
  refine Eq.trans (zd_getfield zh25 (ci := 3) (k := 2) rfl h7 rfl) ?_
  refine Eq.trans (zd_iconst zh25 (v := (nI 0)) rfl rfl) ?_
  refine Eq.trans (zd_aload_n zh25 rfl rfl) ?_
  refine Eq.trans (zd_getfield zh25 (ci := 3) (k := 2) rfl h8 rfl) ?_
  refine Eq.trans (zd_iconst zh25 (v := (nI 0)) rfl rfl) ?_
  refine Eq.trans (zd_bipush zh25 (v := (nI 6)) rfl rfl) ?_
  refine Eq.trans (zd_copy zh25 rfl ⟨Nat.le_of_ble_eq_true rfl, Nat.le_of_ble_eq_true rfl⟩ h9 rfl) ?_
  refine Eq.trans (zd_aload_n zh25 rfl rfl) ?_
  refine Eq.trans (zd_getfield zh25 (ci := 3) (k := 3) rfl h10 rfl) ?_
  refine Eq.trans (zd_iconst zh25 (v := (nI 0)) rfl rfl) ?_
  refine Eq.trans (zd_aload_n zh25 rfl rfl) ?_
  refine Eq.trans (zd_getfield zh25 (ci := 3) (k := 3) rfl h11 rfl) ?_
  refine Eq.trans (zd_iconst zh25 (v := (nI 0)) rfl rfl) ?_
  refine Eq.trans (zd_bipush zh25 (v := (nI 6)) rfl rfl) ?_
  refine Eq.trans (zd_copy zh25 rfl ⟨Nat.le_of_ble_eq_true rfl, Nat.le_of_ble_eq_true rfl⟩ h12 rfl) ?_
  refine Eq.trans (zd_aload_n zh25 rfl rfl) ?_
  refine Eq.trans (zd_getfield zh25 (ci := 3) (k := 4) rfl h13 rfl) ?_
  refine Eq.trans (zd_iconst zh25 (v := (nI 0)) rfl rfl) ?_
  refine Eq.trans (zd_aload_n zh25 rfl rfl) ?_
  refine Eq.trans (zd_getfield zh25 (ci := 3) (k := 4) rfl h14 rfl) ?_
  refine Eq.trans (zd_iconst zh25 (v := (nI 0)) rfl rfl) ?_
  refine Eq.trans (zd_bipush zh25 (v := (nI 6)) rfl rfl) ?_
  refine Eq.trans (zd_copy zh25 rfl ⟨Nat.le_of_ble_eq_true rfl, Nat.le_of_ble_eq_true rfl⟩ h15 rfl) ?_
  refine Eq.trans (zd_aload_n zh25 rfl rfl) ?_
  refine Eq.trans (zd_getfield zh25 (ci := 3) (k := 5) rfl h16 rfl) ?_
  refine Eq.trans (zd_iconst zh25 (v := (nI 0)) rfl rfl) ?_
  refine Eq.trans (zd_aload_n zh25 rfl rfl) ?_
  refine Eq.trans (zd_getfield zh25 (ci := 3) (k := 5) rfl h17 rfl) ?_
  refine Eq.trans (zd_iconst zh25 (v := (nI 0)) rfl rfl) ?_
  refine Eq.trans (zd_iconst zh25 (v := (nI 4)) rfl rfl) ?_
  refine Eq.trans (zd_copy zh25 rfl ⟨Nat.le_of_ble_eq_true rfl, Nat.le_of_ble_eq_true rfl⟩ h18 rfl) ?_
  refine Eq.trans (zd_aload_n zh25 rfl rfl) ?_
  refine Eq.trans (zd_aload_n zh25 rfl rfl) ?_
  refine Eq.trans (zd_getfield zh25 (ci := 3) (k := 6) rfl h19 rfl) ?_
  refine Eq.trans (zd_putfield zh25 (ci := 3) (k := 6) rfl rfl h20 rfl) ?_
  refine Eq.trans (zd_aload_n zh25 rfl rfl) ?_
  refine Eq.trans (zd_aload_n zh25 rfl rfl) ?_
  refine Eq.trans (zd_getfield zh25 (ci := 3) (k := 7) rfl h21 rfl) ?_
  refine Eq.trans (zd_putfield zh25 (ci := 3) (k := 7) rfl rfl h22 rfl) ?_
  refine Eq.trans (zd_aload_n zh25 rfl rfl) ?_
  refine Eq.trans (zd_aload_n zh25 rfl rfl) ?_
  refine Eq.trans (zd_getfield zh25 (ci := 3) (k := 8) rfl h23 rfl) ?_
  refine Eq.trans (zd_putfield zh25 (ci := 3) (k := 8) rfl rfl h24 rfl) ?_
  refine Eq.trans (zd_aload_n zh25 rfl rfl) ?_
  refine Eq.trans (zd_aload_n zh25 rfl rfl) ?_
  refine Eq.trans (zd_getfield zh25 (ci := 3) (k := 9) rfl h25 rfl) ?_
  refine Eq.trans (zd_putfield zh25 (ci := 3) (k := 9) rfl rfl h26 rfl) ?_
  refine Eq.trans (zd_aload_n zh25 rfl rfl) ?_
  refine Eq.trans (zd_aload_n zh25 rfl rfl) ?_
  refine Eq.trans (zd_getfield zh25 (ci := 3) (k := 10) rfl h27 rfl) ?_
  refine Eq.trans (zd_putfield zh25 (ci := 3) (k := 10) rfl rfl h28 rfl) ?_
  exact zd_vret zh25 rfl rfl
/-! yX3_hasHeir: 26, MarbleHeirs$State.hasHeir(I)Z -/
theorem b26_0 {scr : List Int32} {w : zAW} {a0 : Nat} {x1 : Int32}  : zd scr 26 0 [some (.ref a0), some (.int x1)] [] w = if x1 < 0 then zd scr 26 16 [some (.ref a0), some (.int x1)] [] w else zd scr 26 4 [some (.ref a0), some (.int x1)] [] w := by
  refine Eq.trans (zd_iload_n zh26 rfl rfl) ?_
  exact zd_iflt zh26 (t := 16) (by decide) rfl
theorem b26_16 {scr : List Int32} {w : zAW} {a0 : Nat} {x1 : Int32}  : zd scr 26 16 [some (.ref a0), some (.int x1)] [] w = some (some (.int (nI 0)), w) := by
  refine Eq.trans (zd_iconst zh26 (v := (nI 0)) rfl rfl) ?_
  exact zd_iret zh26 rfl rfl
theorem b26_4 {scr : List Int32} {w : zAW} {a0 : Nat} {x1 : Int32} {f1 : Int32} (h1 : zgf w a0 3 1 = some (.int f1)) : zd scr 26 4 [some (.ref a0), some (.int x1)] [] w = if x1 < f1 then zd scr 26 12 [some (.ref a0), some (.int x1)] [] w else zd scr 26 16 [some (.ref a0), some (.int x1)] [] w := by
  refine Eq.trans (zd_iload_n zh26 rfl rfl) ?_
  refine Eq.trans (zd_aload_n zh26 rfl rfl) ?_
  refine Eq.trans (zd_getfield zh26 (ci := 3) (k := 1) rfl h1 rfl) ?_
  exact zd_icmpge zh26 (t := 16) (by decide) rfl
theorem b26_12 {scr : List Int32} {w : zAW} {a0 : Nat} {x1 : Int32}  : zd scr 26 12 [some (.ref a0), some (.int x1)] [] w = some (some (.int (nI 1)), w) := by
  refine Eq.trans (zd_iconst zh26 (v := (nI 1)) rfl rfl) ?_
  refine Eq.trans (zd_goto zh26 (t := 17) (by decide) rfl) ?_
  exact zd_iret zh26 rfl rfl
/-! yX3_hasMarble: 27, MarbleHeirs$State.hasMarble(II)Z -/
set_option maxRecDepth 20000 in
theorem b27_0 {scr : List Int32} {w : zAW} {a0 : Nat} {x1 : Int32} {x2 : Int32} (h1 : zob w a0 3 = true) {f1 : Int32} {w1 : zAW} (h2 : zC scr 26 [.ref a0, .int x1] w = some (some (.int f1), w1)) : zd scr 27 0 [some (.ref a0), some (.int x1), some (.int x2)] [] w = if f1 = 0 then zd scr 27 24 [some (.ref a0), some (.int x1), some (.int x2)] [] w1 else zd scr 27 8 [some (.ref a0), some (.int x1), some (.int x2)] [] w1 := by
  refine Eq.trans (zd_aload_n zh27 rfl rfl) ?_
  refine Eq.trans (zd_iload_n zh27 rfl rfl) ?_
  refine Eq.trans (zd_invVi zh27 zh26 rfl rfl ⟨Nat.le_of_ble_eq_true rfl, Nat.le_of_ble_eq_true rfl, Nat.le_of_ble_eq_true rfl, Nat.le_of_ble_eq_true rfl⟩ rfl h1 h2 rfl) ?_
  exact zd_ifeq zh27 (t := 24) (by decide) rfl
theorem b27_24 {scr : List Int32} {w : zAW} {a0 : Nat} {x1 : Int32} {x2 : Int32}  : zd scr 27 24 [some (.ref a0), some (.int x1), some (.int x2)] [] w = some (some (.int (nI 0)), w) := by
  refine Eq.trans (zd_iconst zh27 (v := (nI 0)) rfl rfl) ?_
  exact zd_iret zh27 rfl rfl
set_option maxRecDepth 20000 in
theorem b27_8 {scr : List Int32} {w : zAW} {a0 : Nat} {x1 : Int32} {x2 : Int32} {g1 : Nat} (h1 : zgf w a0 3 0 = some (.ref g1)) (h2 : zob w g1 1 = true) {f2 : Int32} {w1 : zAW} (h3 : zC scr 9 [.ref g1, .int x1, .int x2] w = some (some (.int f2), w1)) : zd scr 27 8 [some (.ref a0), some (.int x1), some (.int x2)] [] w = if f2 = 0 then zd scr 27 24 [some (.ref a0), some (.int x1), some (.int x2)] [] w1 else zd scr 27 20 [some (.ref a0), some (.int x1), some (.int x2)] [] w1 := by
  refine Eq.trans (zd_aload_n zh27 rfl rfl) ?_
  refine Eq.trans (zd_getfield zh27 (ci := 3) (k := 0) rfl h1 rfl) ?_
  refine Eq.trans (zd_iload_n zh27 rfl rfl) ?_
  refine Eq.trans (zd_iload_n zh27 rfl rfl) ?_
  refine Eq.trans (zd_invVi zh27 zh9 rfl rfl ⟨Nat.le_of_ble_eq_true rfl, Nat.le_of_ble_eq_true rfl, Nat.le_of_ble_eq_true rfl, Nat.le_of_ble_eq_true rfl⟩ rfl h2 h3 rfl) ?_
  exact zd_ifeq zh27 (t := 24) (by decide) rfl
theorem b27_20 {scr : List Int32} {w : zAW} {a0 : Nat} {x1 : Int32} {x2 : Int32}  : zd scr 27 20 [some (.ref a0), some (.int x1), some (.int x2)] [] w = some (some (.int (nI 1)), w) := by
  refine Eq.trans (zd_iconst zh27 (v := (nI 1)) rfl rfl) ?_
  refine Eq.trans (zd_goto zh27 (t := 25) (by decide) rfl) ?_
  exact zd_iret zh27 rfl rfl
/-! yX3_addHeir: 28, MarbleHeirs$State.addHeir(II)I -/
theorem b28_0 {scr : List Int32} {w : zAW} {a0 : Nat} {x1 : Int32} {x2 : Int32} {f1 : Int32} (h1 : zgf w a0 3 1 = some (.int f1)) {g2 : Nat} (h2 : zgf w a0 3 2 = some (.ref g2)) {w1 : zAW} (h3 : zas w g2 f1 x1 = some w1) {g3 : Nat} (h4 : zgf w1 a0 3 3 = some (.ref g3)) {w2 : zAW} (h5 : zas w1 g3 f1 x2 = some w2) {g4 : Nat} (h6 : zgf w2 a0 3 4 = some (.ref g4)) {w3 : zAW} (h7 : zas w2 g4 f1 f1 = some w3) {f5 : Int32} (h8 : zgf w3 a0 3 1 = some (.int f5)) {w4 : zAW} (h9 : zpf w3 a0 3 1 (.int (f5 + (nI 1))) = some w4) : zd scr 28 0 [some (.ref a0), some (.int x1), some (.int x2), none] [] w = some (some (.int f1), w4) := by
  refine Eq.trans (zd_aload_n zh28 rfl rfl) ?_
  refine Eq.trans (zd_getfield zh28 (ci := 3) (k := 1) rfl h1 rfl) ?_
  refine Eq.trans (zd_istore_n zh28 (ls' := [some (.ref a0), some (.int x1), some (.int x2), some (.int f1)]) (Nat.le_of_ble_eq_true rfl) rfl rfl) ?_
  refine Eq.trans (zd_aload_n zh28 rfl rfl) ?_
  refine Eq.trans (zd_getfield zh28 (ci := 3) (k := 2) rfl h2 rfl) ?_
  refine Eq.trans (zd_iload_n zh28 rfl rfl) ?_
  refine Eq.trans (zd_iload_n zh28 rfl rfl) ?_
  refine Eq.trans (zd_iastore zh28 h3 rfl) ?_
  refine Eq.trans (zd_aload_n zh28 rfl rfl) ?_
  refine Eq.trans (zd_getfield zh28 (ci := 3) (k := 3) rfl h4 rfl) ?_
  refine Eq.trans (zd_iload_n zh28 rfl rfl) ?_
  refine Eq.trans (zd_iload_n zh28 rfl rfl) ?_
  refine Eq.trans (zd_iastore zh28 h5 rfl) ?_
  refine Eq.trans (zd_aload_n zh28 rfl rfl) ?_
  refine Eq.trans (zd_getfield zh28 (ci := 3) (k := 4) rfl h6 rfl) ?_
  refine Eq.trans (zd_iload_n zh28 rfl rfl) ?_
  refine Eq.trans (zd_iload_n zh28 rfl rfl) ?_
  refine Eq.trans (zd_iastore zh28 h7 rfl) ?_
  refine Eq.trans (zd_aload_n zh28 rfl rfl) ?_
  refine Eq.trans (zd_dup zh28 rfl) ?_
  refine Eq.trans (zd_getfield zh28 (ci := 3) (k := 1) rfl h8 rfl) ?_
  refine Eq.trans (zd_iconst zh28 (v := (nI 1)) rfl rfl) ?_
  refine Eq.trans (zd_iadd zh28 rfl) ?_
  refine Eq.trans (zd_putfield zh28 (ci := 3) (k := 1) rfl rfl h9 rfl) ?_
  refine Eq.trans (zd_iload_n zh28 rfl rfl) ?_
  exact zd_iret zh28 rfl rfl
/-! yX3_removeHeir: 29, MarbleHeirs$State.removeHeir(I)V -/
set_option maxRecDepth 20000 in
theorem b29_0 {scr : List Int32} {w : zAW} {a0 : Nat} {x1 : Int32} {g1 : Nat} (h1 : zgf w a0 3 0 = some (.ref g1)) (h2 : zob w g1 1 = true) {w1 : zAW} (h3 : zC scr 19 [.ref g1, .int x1] w = some (none, w1)) {g2 : Nat} (h4 : zgf w1 a0 3 4 = some (.ref g2)) (h5 : zob w1 a0 3 = true) {f3 : Int32} {w2 : zAW} (h6 : zC scr 30 [.ref a0, .int x1] w1 = some (some (.int f3), w2)) {f4 : Int32} (h7 : zgf w2 a0 3 1 = some (.int f4)) {w3 : zAW} (h8 : zC scr 83 [.ref g2, .int f3, .int (f4 - (nI 1))] w2 = some (none, w3)) {g5 : Nat} (h9 : zgf w3 a0 3 2 = some (.ref g5)) {f6 : Int32} (h10 : zgf w3 a0 3 1 = some (.int f6)) {w4 : zAW} (h11 : zC scr 83 [.ref g5, .int x1, .int (f6 - (nI 1))] w3 = some (none, w4)) {g7 : Nat} (h12 : zgf w4 a0 3 3 = some (.ref g7)) {f8 : Int32} (h13 : zgf w4 a0 3 1 = some (.int f8)) {w5 : zAW} (h14 : zC scr 83 [.ref g7, .int x1, .int (f8 - (nI 1))] w4 = some (none, w5)) {f9 : Int32} (h15 : zgf w5 a0 3 1 = some (.int f9)) {w6 : zAW} (h16 : zpf w5 a0 3 1 (.int (f9 - (nI 1))) = some w6) : zd scr 29 0 [some (.ref a0), some (.int x1), none] [] w = zd scr 29 66 [some (.ref a0), some (.int x1), some (.int (nI 0))] [] w6 := by
  refine Eq.trans (zd_aload_n zh29 rfl rfl) ?_
  refine Eq.trans (zd_getfield zh29 (ci := 3) (k := 0) rfl h1 rfl) ?_
  refine Eq.trans (zd_iload_n zh29 rfl rfl) ?_
  refine Eq.trans (zd_invVv zh29 zh19 rfl rfl ⟨Nat.le_of_ble_eq_true rfl, Nat.le_of_ble_eq_true rfl, Nat.le_of_ble_eq_true rfl, Nat.le_of_ble_eq_true rfl⟩ rfl h2 h3 rfl) ?_
  refine Eq.trans (zd_aload_n zh29 rfl rfl) ?_
  refine Eq.trans (zd_getfield zh29 (ci := 3) (k := 4) rfl h4 rfl) ?_
  refine Eq.trans (zd_aload_n zh29 rfl rfl) ?_
  refine Eq.trans (zd_iload_n zh29 rfl rfl) ?_
  refine Eq.trans (zd_invVi zh29 zh30 rfl rfl ⟨Nat.le_of_ble_eq_true rfl, Nat.le_of_ble_eq_true rfl, Nat.le_of_ble_eq_true rfl, Nat.le_of_ble_eq_true rfl⟩ rfl h5 h6 rfl) ?_
  refine Eq.trans (zd_aload_n zh29 rfl rfl) ?_
  refine Eq.trans (zd_getfield zh29 (ci := 3) (k := 1) rfl h7 rfl) ?_
  refine Eq.trans (zd_iconst zh29 (v := (nI 1)) rfl rfl) ?_
  refine Eq.trans (zd_isub zh29 rfl) ?_
  refine Eq.trans (zd_invTv zh29 zh83 rfl rfl ⟨Nat.le_of_ble_eq_true rfl, Nat.le_of_ble_eq_true rfl, Nat.le_of_ble_eq_true rfl, Or.inl (Nat.le_of_ble_eq_true rfl), Nat.le_of_ble_eq_true rfl⟩ rfl h8 rfl) ?_
  refine Eq.trans (zd_aload_n zh29 rfl rfl) ?_
  refine Eq.trans (zd_getfield zh29 (ci := 3) (k := 2) rfl h9 rfl) ?_
  refine Eq.trans (zd_iload_n zh29 rfl rfl) ?_
  refine Eq.trans (zd_aload_n zh29 rfl rfl) ?_
  refine Eq.trans (zd_getfield zh29 (ci := 3) (k := 1) rfl h10 rfl) ?_
  refine Eq.trans (zd_iconst zh29 (v := (nI 1)) rfl rfl) ?_
  refine Eq.trans (zd_isub zh29 rfl) ?_
  refine Eq.trans (zd_invTv zh29 zh83 rfl rfl ⟨Nat.le_of_ble_eq_true rfl, Nat.le_of_ble_eq_true rfl, Nat.le_of_ble_eq_true rfl, Or.inl (Nat.le_of_ble_eq_true rfl), Nat.le_of_ble_eq_true rfl⟩ rfl h11 rfl) ?_
  refine Eq.trans (zd_aload_n zh29 rfl rfl) ?_
  refine Eq.trans (zd_getfield zh29 (ci := 3) (k := 3) rfl h12 rfl) ?_
  refine Eq.trans (zd_iload_n zh29 rfl rfl) ?_
  refine Eq.trans (zd_aload_n zh29 rfl rfl) ?_
  refine Eq.trans (zd_getfield zh29 (ci := 3) (k := 1) rfl h13 rfl) ?_
  refine Eq.trans (zd_iconst zh29 (v := (nI 1)) rfl rfl) ?_
  refine Eq.trans (zd_isub zh29 rfl) ?_
  refine Eq.trans (zd_invTv zh29 zh83 rfl rfl ⟨Nat.le_of_ble_eq_true rfl, Nat.le_of_ble_eq_true rfl, Nat.le_of_ble_eq_true rfl, Or.inl (Nat.le_of_ble_eq_true rfl), Nat.le_of_ble_eq_true rfl⟩ rfl h14 rfl) ?_
  refine Eq.trans (zd_aload_n zh29 rfl rfl) ?_
  refine Eq.trans (zd_dup zh29 rfl) ?_
  refine Eq.trans (zd_getfield zh29 (ci := 3) (k := 1) rfl h15 rfl) ?_
  refine Eq.trans (zd_iconst zh29 (v := (nI 1)) rfl rfl) ?_
  refine Eq.trans (zd_isub zh29 rfl) ?_
  refine Eq.trans (zd_putfield zh29 (ci := 3) (k := 1) rfl rfl h16 rfl) ?_
  refine Eq.trans (zd_iconst zh29 (v := (nI 0)) rfl rfl) ?_
  refine Eq.trans (zd_istore_n zh29 (ls' := [some (.ref a0), some (.int x1), some (.int (nI 0))]) (Nat.le_of_ble_eq_true rfl) rfl rfl) ?_
  exact rfl
theorem b29_66 {scr : List Int32} {w : zAW} {a0 : Nat} {x1 : Int32} {x2 : Int32} {f1 : Int32} (h1 : zgf w a0 3 1 = some (.int f1)) : zd scr 29 66 [some (.ref a0), some (.int x1), some (.int x2)] [] w = if x2 < f1 then zd scr 29 74 [some (.ref a0), some (.int x1), some (.int x2)] [] w else zd scr 29 100 [some (.ref a0), some (.int x1), some (.int x2)] [] w := by
  refine Eq.trans (zd_iload_n zh29 rfl rfl) ?_
  refine Eq.trans (zd_aload_n zh29 rfl rfl) ?_
  refine Eq.trans (zd_getfield zh29 (ci := 3) (k := 1) rfl h1 rfl) ?_
  exact zd_icmpge zh29 (t := 100) (by decide) rfl
theorem b29_74 {scr : List Int32} {w : zAW} {a0 : Nat} {x1 : Int32} {x2 : Int32} {g1 : Nat} (h1 : zgf w a0 3 4 = some (.ref g1)) {f2 : Int32} (h2 : zal w g1 x2 = some f2) : zd scr 29 74 [some (.ref a0), some (.int x1), some (.int x2)] [] w = if x1 < f2 then zd scr 29 84 [some (.ref a0), some (.int x1), some (.int x2)] [] w else zd scr 29 94 [some (.ref a0), some (.int x1), some (.int x2)] [] w := by
  refine Eq.trans (zd_aload_n zh29 rfl rfl) ?_
  refine Eq.trans (zd_getfield zh29 (ci := 3) (k := 4) rfl h1 rfl) ?_
  refine Eq.trans (zd_iload_n zh29 rfl rfl) ?_
  refine Eq.trans (zd_iaload zh29 h2 rfl) ?_
  refine Eq.trans (zd_iload_n zh29 rfl rfl) ?_
  exact zd_icmple zh29 (t := 94) (by decide) rfl
theorem b29_100 {scr : List Int32} {w : zAW} {a0 : Nat} {x1 : Int32} {x2 : Int32}  : zd scr 29 100 [some (.ref a0), some (.int x1), some (.int x2)] [] w = some (none, w) := by
  exact zd_vret zh29 rfl rfl
theorem b29_84 {scr : List Int32} {w : zAW} {a0 : Nat} {x1 : Int32} {x2 : Int32} {g1 : Nat} (h1 : zgf w a0 3 4 = some (.ref g1)) {f2 : Int32} (h2 : zal w g1 x2 = some f2) {w1 : zAW} (h3 : zas w g1 x2 (f2 - (nI 1)) = some w1) : zd scr 29 84 [some (.ref a0), some (.int x1), some (.int x2)] [] w = zd scr 29 66 [some (.ref a0), some (.int x1), some (.int (x2 + (nI 1)))] [] w1 := by
  refine Eq.trans (zd_aload_n zh29 rfl rfl) ?_
  refine Eq.trans (zd_getfield zh29 (ci := 3) (k := 4) rfl h1 rfl) ?_
  refine Eq.trans (zd_iload_n zh29 rfl rfl) ?_
  refine Eq.trans (zd_dup2 zh29 rfl) ?_
  refine Eq.trans (zd_iaload zh29 h2 rfl) ?_
  refine Eq.trans (zd_iconst zh29 (v := (nI 1)) rfl rfl) ?_
  refine Eq.trans (zd_isub zh29 rfl) ?_
  refine Eq.trans (zd_iastore zh29 h3 rfl) ?_
  refine Eq.trans (zd_iinc zh29 (ls' := [some (.ref a0), some (.int x1), some (.int (x2 + (nI 1)))]) (v := (x2 + (nI 1))) rfl rfl rfl rfl) ?_
  refine Eq.trans (zd_goto zh29 (t := 66) (by decide) rfl) ?_
  exact rfl
theorem b29_94 {scr : List Int32} {w : zAW} {a0 : Nat} {x1 : Int32} {x2 : Int32}  : zd scr 29 94 [some (.ref a0), some (.int x1), some (.int x2)] [] w = zd scr 29 66 [some (.ref a0), some (.int x1), some (.int (x2 + (nI 1)))] [] w := by
  refine Eq.trans (zd_iinc zh29 (ls' := [some (.ref a0), some (.int x1), some (.int (x2 + (nI 1)))]) (v := (x2 + (nI 1))) rfl rfl rfl rfl) ?_
  refine Eq.trans (zd_goto zh29 (t := 66) (by decide) rfl) ?_
  exact rfl
/-! yX3_placeOf: 30, MarbleHeirs$State.placeOf(I)I -/
theorem b30_0 {scr : List Int32} {w : zAW} {a0 : Nat} {x1 : Int32}  : zd scr 30 0 [some (.ref a0), some (.int x1), none] [] w = zd scr 30 2 [some (.ref a0), some (.int x1), some (.int (nI 0))] [] w := by
  refine Eq.trans (zd_iconst zh30 (v := (nI 0)) rfl rfl) ?_
  refine Eq.trans (zd_istore_n zh30 (ls' := [some (.ref a0), some (.int x1), some (.int (nI 0))]) (Nat.le_of_ble_eq_true rfl) rfl rfl) ?_
  exact rfl
theorem b30_2 {scr : List Int32} {w : zAW} {a0 : Nat} {x1 : Int32} {x2 : Int32} {f1 : Int32} (h1 : zgf w a0 3 1 = some (.int f1)) : zd scr 30 2 [some (.ref a0), some (.int x1), some (.int x2)] [] w = if x2 < (f1 - (nI 1)) then zd scr 30 12 [some (.ref a0), some (.int x1), some (.int x2)] [] w else zd scr 30 28 [some (.ref a0), some (.int x1), some (.int x2)] [] w := by
  refine Eq.trans (zd_iload_n zh30 rfl rfl) ?_
  refine Eq.trans (zd_aload_n zh30 rfl rfl) ?_
  refine Eq.trans (zd_getfield zh30 (ci := 3) (k := 1) rfl h1 rfl) ?_
  refine Eq.trans (zd_iconst zh30 (v := (nI 1)) rfl rfl) ?_
  refine Eq.trans (zd_isub zh30 rfl) ?_
  exact zd_icmpge zh30 (t := 28) (by decide) rfl
theorem b30_12 {scr : List Int32} {w : zAW} {a0 : Nat} {x1 : Int32} {x2 : Int32} {g1 : Nat} (h1 : zgf w a0 3 4 = some (.ref g1)) {f2 : Int32} (h2 : zal w g1 x2 = some f2) : zd scr 30 12 [some (.ref a0), some (.int x1), some (.int x2)] [] w = if f2 = x1 then zd scr 30 28 [some (.ref a0), some (.int x1), some (.int x2)] [] w else zd scr 30 22 [some (.ref a0), some (.int x1), some (.int x2)] [] w := by
  refine Eq.trans (zd_aload_n zh30 rfl rfl) ?_
  refine Eq.trans (zd_getfield zh30 (ci := 3) (k := 4) rfl h1 rfl) ?_
  refine Eq.trans (zd_iload_n zh30 rfl rfl) ?_
  refine Eq.trans (zd_iaload zh30 h2 rfl) ?_
  refine Eq.trans (zd_iload_n zh30 rfl rfl) ?_
  exact zd_icmpeq zh30 (t := 28) (by decide) rfl
theorem b30_28 {scr : List Int32} {w : zAW} {a0 : Nat} {x1 : Int32} {x2 : Int32}  : zd scr 30 28 [some (.ref a0), some (.int x1), some (.int x2)] [] w = some (some (.int x2), w) := by
  refine Eq.trans (zd_iload_n zh30 rfl rfl) ?_
  exact zd_iret zh30 rfl rfl
theorem b30_22 {scr : List Int32} {w : zAW} {a0 : Nat} {x1 : Int32} {x2 : Int32}  : zd scr 30 22 [some (.ref a0), some (.int x1), some (.int x2)] [] w = zd scr 30 2 [some (.ref a0), some (.int x1), some (.int (x2 + (nI 1)))] [] w := by
  refine Eq.trans (zd_iinc zh30 (ls' := [some (.ref a0), some (.int x1), some (.int (x2 + (nI 1)))]) (v := (x2 + (nI 1))) rfl rfl rfl rfl) ?_
  refine Eq.trans (zd_goto zh30 (t := 2) (by decide) rfl) ?_
  exact rfl
/-! yX3_playAllRounds: 31, MarbleHeirs$State.playAllRounds()I -/
set_option maxRecDepth 20000 in
theorem b31_0 {scr : List Int32} {w : zAW} {a0 : Nat} {g1 : Nat} (h1 : zgf w a0 3 0 = some (.ref g1)) (h2 : zob w g1 1 = true) {f2 : Int32} {w1 : zAW} (h3 : zC scr 8 [.ref g1, .int (nI 6)] w = some (some (.int f2), w1)) : zd scr 31 0 [some (.ref a0), none, none] [] w = zd scr 31 12 [some (.ref a0), some (.int (nI 0)), some (.int f2)] [] w1 := by
  refine Eq.trans (zd_iconst zh31 (v := (nI 0)) rfl rfl) ?_
  refine Eq.trans (zd_istore_n zh31 (ls' := [some (.ref a0), some (.int (nI 0)), none]) (Nat.le_of_ble_eq_true rfl) rfl rfl) ?_
  refine Eq.trans (zd_aload_n zh31 rfl rfl) ?_
  refine Eq.trans (zd_getfield zh31 (ci := 3) (k := 0) rfl h1 rfl) ?_
  refine Eq.trans (zd_bipush zh31 (v := (nI 6)) rfl rfl) ?_
  refine Eq.trans (zd_invVi zh31 zh8 rfl rfl ⟨Nat.le_of_ble_eq_true rfl, Nat.le_of_ble_eq_true rfl, Nat.le_of_ble_eq_true rfl, Nat.le_of_ble_eq_true rfl⟩ rfl h2 h3 rfl) ?_
  refine Eq.trans (zd_istore_n zh31 (ls' := [some (.ref a0), some (.int (nI 0)), some (.int f2)]) (Nat.le_of_ble_eq_true rfl) rfl rfl) ?_
  exact rfl
theorem b31_12 {scr : List Int32} {w : zAW} {a0 : Nat} {x1 : Int32} {x2 : Int32}  : zd scr 31 12 [some (.ref a0), some (.int x1), some (.int x2)] [] w = if 0 < x2 then zd scr 31 16 [some (.ref a0), some (.int x1), some (.int x2)] [] w else zd scr 31 32 [some (.ref a0), some (.int x1), some (.int x2)] [] w := by
  refine Eq.trans (zd_iload_n zh31 rfl rfl) ?_
  exact zd_ifle zh31 (t := 32) (by decide) rfl
set_option maxRecDepth 20000 in
theorem b31_16 {scr : List Int32} {w : zAW} {a0 : Nat} {x1 : Int32} {x2 : Int32} (h1 : zob w a0 3 = true) {f1 : Int32} {w1 : zAW} (h2 : zC scr 32 [.ref a0] w = some (some (.int f1), w1)) : zd scr 31 16 [some (.ref a0), some (.int x1), some (.int x2)] [] w = if 0 < f1 then zd scr 31 23 [some (.ref a0), some (.int x1), some (.int x2)] [] w1 else zd scr 31 32 [some (.ref a0), some (.int x1), some (.int x2)] [] w1 := by
  refine Eq.trans (zd_aload_n zh31 rfl rfl) ?_
  refine Eq.trans (zd_invVi zh31 zh32 rfl rfl ⟨Nat.le_of_ble_eq_true rfl, Nat.le_of_ble_eq_true rfl, Nat.le_of_ble_eq_true rfl, Nat.le_of_ble_eq_true rfl⟩ rfl h1 h2 rfl) ?_
  exact zd_ifle zh31 (t := 32) (by decide) rfl
theorem b31_32 {scr : List Int32} {w : zAW} {a0 : Nat} {x1 : Int32} {x2 : Int32}  : zd scr 31 32 [some (.ref a0), some (.int x1), some (.int x2)] [] w = some (some (.int x1), w) := by
  refine Eq.trans (zd_iload_n zh31 rfl rfl) ?_
  exact zd_iret zh31 rfl rfl
theorem b31_23 {scr : List Int32} {w : zAW} {a0 : Nat} {x1 : Int32} {x2 : Int32}  : zd scr 31 23 [some (.ref a0), some (.int x1), some (.int x2)] [] w = zd scr 31 12 [some (.ref a0), some (.int (x1 + (nI 1))), some (.int (x2 - (nI 1)))] [] w := by
  refine Eq.trans (zd_iinc zh31 (ls' := [some (.ref a0), some (.int (x1 + (nI 1))), some (.int x2)]) (v := (x1 + (nI 1))) rfl rfl rfl rfl) ?_
  refine Eq.trans (zd_iinc zh31 (ls' := [some (.ref a0), some (.int (x1 + (nI 1))), some (.int (x2 - (nI 1)))]) (v := (x2 - (nI 1))) rfl (zdecr _) rfl rfl) ?_
  refine Eq.trans (zd_goto zh31 (t := 12) (by decide) rfl) ?_
  exact rfl
