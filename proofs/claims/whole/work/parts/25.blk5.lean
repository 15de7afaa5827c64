/-! yX6_heir: 133, MarbleHeirsModel.heir(II)I -/
set_option maxRecDepth 20000 in
theorem b133_0 {scr : List Int32} {w : zAW} {a0 : Nat} {x1 : Int32} {x2 : Int32} (h1 : zob w a0 6 = true) {f1 : Int32} {w1 : zAW} (h2 : zC scr 88 [.ref a0, .int x1] w = some (some (.int f1), w1)) : zd scr 133 0 [some (.ref a0), some (.int x1), some (.int x2)] [] w = if f1 = 0 then zd scr 133 8 [some (.ref a0), some (.int x1), some (.int x2)] [] w1 else zd scr 133 10 [some (.ref a0), some (.int x1), some (.int x2)] [] w1 := by
  refine Eq.trans (zd_aload_n zh133 rfl rfl) ?_
  refine Eq.trans (zd_iload_n zh133 rfl rfl) ?_
  refine Eq.trans (zd_invVi zh133 zh88 rfl rfl ⟨Nat.le_of_ble_eq_true rfl, Nat.le_of_ble_eq_true rfl, Nat.le_of_ble_eq_true rfl, Nat.le_of_ble_eq_true rfl⟩ rfl h1 h2 rfl) ?_
  exact zd_ifne zh133 (t := 10) (by decide) rfl
theorem b133_8 {scr : List Int32} {w : zAW} {a0 : Nat} {x1 : Int32} {x2 : Int32}  : zd scr 133 8 [some (.ref a0), some (.int x1), some (.int x2)] [] w = some (some (.int (-1)), w) := by
  refine Eq.trans (zd_iconst zh133 (v := (-1)) rfl rfl) ?_
  exact zd_iret zh133 rfl rfl
theorem b133_10_c0 {scr : List Int32} {w : zAW} {a0 : Nat} {x1 : Int32} {x2 : Int32}  (hx : x2 = (nI 0)) : zd scr 133 10 [some (.ref a0), some (.int x1), some (.int x2)] [] w = zd scr 133 48 [some (.ref a0), some (.int x1), some (.int x2)] [] w := by
  refine Eq.trans (zd_iload_n zh133 rfl rfl) ?_
  exact zd_tabIn zh133 (off := 37) (by rw [hx]; decide) (by rw [hx]; rfl) (by decide) rfl
theorem b133_10_c1 {scr : List Int32} {w : zAW} {a0 : Nat} {x1 : Int32} {x2 : Int32}  (hx : x2 = (nI 1)) : zd scr 133 10 [some (.ref a0), some (.int x1), some (.int x2)] [] w = zd scr 133 48 [some (.ref a0), some (.int x1), some (.int x2)] [] w := by
  refine Eq.trans (zd_iload_n zh133 rfl rfl) ?_
  exact zd_tabIn zh133 (off := 37) (by rw [hx]; decide) (by rw [hx]; rfl) (by decide) rfl
theorem b133_10_c2 {scr : List Int32} {w : zAW} {a0 : Nat} {x1 : Int32} {x2 : Int32}  (hx : x2 = (nI 2)) : zd scr 133 10 [some (.ref a0), some (.int x1), some (.int x2)] [] w = zd scr 133 55 [some (.ref a0), some (.int x1), some (.int x2)] [] w := by
  refine Eq.trans (zd_iload_n zh133 rfl rfl) ?_
  exact zd_tabIn zh133 (off := 44) (by rw [hx]; decide) (by rw [hx]; rfl) (by decide) rfl
theorem b133_10_c3 {scr : List Int32} {w : zAW} {a0 : Nat} {x1 : Int32} {x2 : Int32}  (hx : x2 = (nI 3)) : zd scr 133 10 [some (.ref a0), some (.int x1), some (.int x2)] [] w = zd scr 133 61 [some (.ref a0), some (.int x1), some (.int x2)] [] w := by
  refine Eq.trans (zd_iload_n zh133 rfl rfl) ?_
  exact zd_tabIn zh133 (off := 50) (by rw [hx]; decide) (by rw [hx]; rfl) (by decide) rfl
theorem b133_10_c4 {scr : List Int32} {w : zAW} {a0 : Nat} {x1 : Int32} {x2 : Int32}  (hx : x2 = (nI 4)) : zd scr 133 10 [some (.ref a0), some (.int x1), some (.int x2)] [] w = zd scr 133 67 [some (.ref a0), some (.int x1), some (.int x2)] [] w := by
  refine Eq.trans (zd_iload_n zh133 rfl rfl) ?_
  exact zd_tabIn zh133 (off := 56) (by rw [hx]; decide) (by rw [hx]; rfl) (by decide) rfl
theorem b133_10_c5 {scr : List Int32} {w : zAW} {a0 : Nat} {x1 : Int32} {x2 : Int32}  (hx : x2 = (nI 5)) : zd scr 133 10 [some (.ref a0), some (.int x1), some (.int x2)] [] w = zd scr 133 79 [some (.ref a0), some (.int x1), some (.int x2)] [] w := by
  refine Eq.trans (zd_iload_n zh133 rfl rfl) ?_
  exact zd_tabIn zh133 (off := 68) (by rw [hx]; decide) (by rw [hx]; rfl) (by decide) rfl
theorem b133_10_d {scr : List Int32} {w : zAW} {a0 : Nat} {x1 : Int32} {x2 : Int32}  (hx : (x2).toInt < 0 ∨ 5 < (x2).toInt) : zd scr 133 10 [some (.ref a0), some (.int x1), some (.int x2)] [] w = zd scr 133 85 [some (.ref a0), some (.int x1), some (.int x2)] [] w := by
  refine Eq.trans (zd_iload_n zh133 rfl rfl) ?_
  exact zd_tabOut zh133 hx (by decide) rfl
set_option maxRecDepth 20000 in
theorem b133_48 {scr : List Int32} {w : zAW} {a0 : Nat} {x1 : Int32} {x2 : Int32} (h1 : zob w a0 6 = true) {f1 : Int32} {w1 : zAW} (h2 : zC scr 91 [.ref a0, .int x1, .int x2] w = some (some (.int f1), w1)) : zd scr 133 48 [some (.ref a0), some (.int x1), some (.int x2)] [] w = some (some (.int f1), w1) := by
  refine Eq.trans (zd_aload_n zh133 rfl rfl) ?_
  refine Eq.trans (zd_iload_n zh133 rfl rfl) ?_
  refine Eq.trans (zd_iload_n zh133 rfl rfl) ?_
  refine Eq.trans (zd_invVi zh133 zh91 rfl rfl ⟨Nat.le_of_ble_eq_true rfl, Nat.le_of_ble_eq_true rfl, Nat.le_of_ble_eq_true rfl, Nat.le_of_ble_eq_true rfl⟩ rfl h1 h2 rfl) ?_
  exact zd_iret zh133 rfl rfl
set_option maxRecDepth 20000 in
theorem b133_55 {scr : List Int32} {w : zAW} {a0 : Nat} {x1 : Int32} {x2 : Int32} (h1 : zob w a0 6 = true) {f1 : Int32} {w1 : zAW} (h2 : zC scr 98 [.ref a0, .int x1] w = some (some (.int f1), w1)) : zd scr 133 55 [some (.ref a0), some (.int x1), some (.int x2)] [] w = some (some (.int f1), w1) := by
  refine Eq.trans (zd_aload_n zh133 rfl rfl) ?_
  refine Eq.trans (zd_iload_n zh133 rfl rfl) ?_
  refine Eq.trans (zd_invVi zh133 zh98 rfl rfl ⟨Nat.le_of_ble_eq_true rfl, Nat.le_of_ble_eq_true rfl, Nat.le_of_ble_eq_true rfl, Nat.le_of_ble_eq_true rfl⟩ rfl h1 h2 rfl) ?_
  exact zd_iret zh133 rfl rfl
set_option maxRecDepth 20000 in
theorem b133_61 {scr : List Int32} {w : zAW} {a0 : Nat} {x1 : Int32} {x2 : Int32} (h1 : zob w a0 6 = true) {f1 : Int32} {w1 : zAW} (h2 : zC scr 99 [.ref a0, .int x1] w = some (some (.int f1), w1)) : zd scr 133 61 [some (.ref a0), some (.int x1), some (.int x2)] [] w = some (some (.int f1), w1) := by
  refine Eq.trans (zd_aload_n zh133 rfl rfl) ?_
  refine Eq.trans (zd_iload_n zh133 rfl rfl) ?_
  refine Eq.trans (zd_invVi zh133 zh99 rfl rfl ⟨Nat.le_of_ble_eq_true rfl, Nat.le_of_ble_eq_true rfl, Nat.le_of_ble_eq_true rfl, Nat.le_of_ble_eq_true rfl⟩ rfl h1 h2 rfl) ?_
  exact zd_iret zh133 rfl rfl
set_option maxRecDepth 20000 in
theorem b133_67 {scr : List Int32} {w : zAW} {a0 : Nat} {x1 : Int32} {x2 : Int32} (h1 : zob w a0 6 = true) {f1 : Int32} {w1 : zAW} (h2 : zC scr 91 [.ref a0, .int x1, .int (nI 1)] w = some (some (.int f1), w1)) (h3 : zob w1 a0 6 = true) {f2 : Int32} {w2 : zAW} (h4 : zC scr 100 [.ref a0, .int x1, .int f1] w1 = some (some (.int f2), w2)) : zd scr 133 67 [some (.ref a0), some (.int x1), some (.int x2)] [] w = some (some (.int f2), w2) := by
  refine Eq.trans (zd_aload_n zh133 rfl rfl) ?_
  refine Eq.trans (zd_iload_n zh133 rfl rfl) ?_
  refine Eq.trans (zd_aload_n zh133 rfl rfl) ?_
  refine Eq.trans (zd_iload_n zh133 rfl rfl) ?_
  refine Eq.trans (zd_iconst zh133 (v := (nI 1)) rfl rfl) ?_
  refine Eq.trans (zd_invVi zh133 zh91 rfl rfl ⟨Nat.le_of_ble_eq_true rfl, Nat.le_of_ble_eq_true rfl, Nat.le_of_ble_eq_true rfl, Nat.le_of_ble_eq_true rfl⟩ rfl h1 h2 rfl) ?_
  refine Eq.trans (zd_invVi zh133 zh100 rfl rfl ⟨Nat.le_of_ble_eq_true rfl, Nat.le_of_ble_eq_true rfl, Nat.le_of_ble_eq_true rfl, Nat.le_of_ble_eq_true rfl⟩ rfl h3 h4 rfl) ?_
  exact zd_iret zh133 rfl rfl
set_option maxRecDepth 20000 in
theorem b133_79 {scr : List Int32} {w : zAW} {a0 : Nat} {x1 : Int32} {x2 : Int32} (h1 : zob w a0 6 = true) {f1 : Int32} {w1 : zAW} (h2 : zC scr 132 [.ref a0, .int x1] w = some (some (.int f1), w1)) : zd scr 133 79 [some (.ref a0), some (.int x1), some (.int x2)] [] w = some (some (.int f1), w1) := by
  refine Eq.trans (zd_aload_n zh133 rfl rfl) ?_
  refine Eq.trans (zd_iload_n zh133 rfl rfl) ?_
  refine Eq.trans (zd_invVi zh133 zh132 rfl rfl ⟨Nat.le_of_ble_eq_true rfl, Nat.le_of_ble_eq_true rfl, Nat.le_of_ble_eq_true rfl, Nat.le_of_ble_eq_true rfl⟩ rfl h1 h2 rfl) ?_
  exact zd_iret zh133 rfl rfl
theorem b133_85 {scr : List Int32} {w : zAW} {a0 : Nat} {x1 : Int32} {x2 : Int32}  : zd scr 133 85 [some (.ref a0), some (.int x1), some (.int x2)] [] w = some (some (.int (-2)), w) := by
  refine Eq.trans (zd_bipush zh133 (v := (-2)) rfl rfl) ?_
  exact zd_iret zh133 rfl rfl
/-! yX6_bag: 134, MarbleHeirsModel.bag(III)I -/
set_option maxRecDepth 20000 in
theorem b134_0 {scr : List Int32} {w : zAW} {a0 : Nat} {x1 : Int32} {x2 : Int32} {x3 : Int32} (h1 : zob w a0 6 = true) {f1 : Int32} {w1 : zAW} (h2 : zC scr 101 [.ref a0, .int x1, .int x2] w = some (some (.int f1), w1)) : zd scr 134 0 [some (.ref a0), some (.int x1), some (.int x2), some (.int x3), none] [] w = if f1 = (-6) then zd scr 134 15 [some (.ref a0), some (.int x1), some (.int x2), some (.int x3), some (.int f1)] [] w1 else zd scr 134 17 [some (.ref a0), some (.int x1), some (.int x2), some (.int x3), some (.int f1)] [] w1 := by
  refine Eq.trans (zd_aload_n zh134 rfl rfl) ?_
  refine Eq.trans (zd_iload_n zh134 rfl rfl) ?_
  refine Eq.trans (zd_iload_n zh134 rfl rfl) ?_
  refine Eq.trans (zd_invVi zh134 zh101 rfl rfl ⟨Nat.le_of_ble_eq_true rfl, Nat.le_of_ble_eq_true rfl, Nat.le_of_ble_eq_true rfl, Nat.le_of_ble_eq_true rfl⟩ rfl h1 h2 rfl) ?_
  refine Eq.trans (zd_istore zh134 (ls' := [some (.ref a0), some (.int x1), some (.int x2), some (.int x3), some (.int f1)]) (Nat.le_of_ble_eq_true rfl) rfl rfl) ?_
  refine Eq.trans (zd_iload zh134 rfl rfl) ?_
  refine Eq.trans (zd_bipush zh134 (v := (-6)) rfl rfl) ?_
  exact zd_icmpne zh134 (t := 17) (by decide) rfl
theorem b134_15 {scr : List Int32} {w : zAW} {a0 : Nat} {x1 : Int32} {x2 : Int32} {x3 : Int32} {x4 : Int32}  : zd scr 134 15 [some (.ref a0), some (.int x1), some (.int x2), some (.int x3), some (.int x4)] [] w = some (some (.int (-1)), w) := by
  refine Eq.trans (zd_iconst zh134 (v := (-1)) rfl rfl) ?_
  exact zd_iret zh134 rfl rfl
theorem b134_17 {scr : List Int32} {w : zAW} {a0 : Nat} {x1 : Int32} {x2 : Int32} {x3 : Int32} {x4 : Int32}  : zd scr 134 17 [some (.ref a0), some (.int x1), some (.int x2), some (.int x3), some (.int x4)] [] w = if x3 = 0 then zd scr 134 21 [some (.ref a0), some (.int x1), some (.int x2), some (.int x3), some (.int x4)] [] w else zd scr 134 30 [some (.ref a0), some (.int x1), some (.int x2), some (.int x3), some (.int x4)] [] w := by
  refine Eq.trans (zd_iload_n zh134 rfl rfl) ?_
  exact zd_ifne zh134 (t := 30) (by decide) rfl
set_option maxRecDepth 20000 in
theorem b134_21 {scr : List Int32} {w : zAW} {a0 : Nat} {x1 : Int32} {x2 : Int32} {x3 : Int32} {x4 : Int32} (h1 : zob w a0 6 = true) {f1 : Int32} {w1 : zAW} (h2 : zC scr 96 [.ref a0, .int x4] w = some (some (.int f1), w1)) : zd scr 134 21 [some (.ref a0), some (.int x1), some (.int x2), some (.int x3), some (.int x4)] [] w = some (some (.int f1), w1) := by
  refine Eq.trans (zd_aload_n zh134 rfl rfl) ?_
  refine Eq.trans (zd_iload zh134 rfl rfl) ?_
  refine Eq.trans (zd_invVi zh134 zh96 rfl rfl ⟨Nat.le_of_ble_eq_true rfl, Nat.le_of_ble_eq_true rfl, Nat.le_of_ble_eq_true rfl, Nat.le_of_ble_eq_true rfl⟩ rfl h1 h2 rfl) ?_
  refine Eq.trans (zd_goto zh134 (t := 46) (by decide) rfl) ?_
  exact zd_iret zh134 rfl rfl
theorem b134_30 {scr : List Int32} {w : zAW} {a0 : Nat} {x1 : Int32} {x2 : Int32} {x3 : Int32} {x4 : Int32}  : zd scr 134 30 [some (.ref a0), some (.int x1), some (.int x2), some (.int x3), some (.int x4)] [] w = if x3 = (nI 1) then zd scr 134 35 [some (.ref a0), some (.int x1), some (.int x2), some (.int x3), some (.int x4)] [] w else zd scr 134 44 [some (.ref a0), some (.int x1), some (.int x2), some (.int x3), some (.int x4)] [] w := by
  refine Eq.trans (zd_iload_n zh134 rfl rfl) ?_
  refine Eq.trans (zd_iconst zh134 (v := (nI 1)) rfl rfl) ?_
  exact zd_icmpne zh134 (t := 44) (by decide) rfl
set_option maxRecDepth 20000 in
theorem b134_35 {scr : List Int32} {w : zAW} {a0 : Nat} {x1 : Int32} {x2 : Int32} {x3 : Int32} {x4 : Int32} (h1 : zob w a0 6 = true) {f1 : Int32} {w1 : zAW} (h2 : zC scr 97 [.ref a0, .int x4] w = some (some (.int f1), w1)) : zd scr 134 35 [some (.ref a0), some (.int x1), some (.int x2), some (.int x3), some (.int x4)] [] w = some (some (.int f1), w1) := by
  refine Eq.trans (zd_aload_n zh134 rfl rfl) ?_
  refine Eq.trans (zd_iload zh134 rfl rfl) ?_
  refine Eq.trans (zd_invVi zh134 zh97 rfl rfl ⟨Nat.le_of_ble_eq_true rfl, Nat.le_of_ble_eq_true rfl, Nat.le_of_ble_eq_true rfl, Nat.le_of_ble_eq_true rfl⟩ rfl h1 h2 rfl) ?_
  refine Eq.trans (zd_goto zh134 (t := 46) (by decide) rfl) ?_
  exact zd_iret zh134 rfl rfl
theorem b134_44 {scr : List Int32} {w : zAW} {a0 : Nat} {x1 : Int32} {x2 : Int32} {x3 : Int32} {x4 : Int32}  : zd scr 134 44 [some (.ref a0), some (.int x1), some (.int x2), some (.int x3), some (.int x4)] [] w = some (some (.int (-2)), w) := by
  refine Eq.trans (zd_bipush zh134 (v := (-2)) rfl rfl) ?_
  exact zd_iret zh134 rfl rfl
/-! yX6_hopper: 135, MarbleHeirsModel.hopper(II)I -/
set_option maxRecDepth 20000 in
theorem b135_0 {scr : List Int32} {w : zAW} {a0 : Nat} {x1 : Int32} {x2 : Int32} {g1 : Nat} (h1 : zgf w a0 6 0 = some (.ref g1)) {f2 : Int32} (h2 : zal w g1 (nI 6) = some f2) {f3 : Int32} {w1 : zAW} (h3 : zC scr 87 [.int x1, .int (nI 0), .int (f2 - (nI 1))] w = some (some (.int f3), w1)) : zd scr 135 0 [some (.ref a0), some (.int x1), some (.int x2)] [] w = if f3 = 0 then zd scr 135 17 [some (.ref a0), some (.int x1), some (.int x2)] [] w1 else zd scr 135 19 [some (.ref a0), some (.int x1), some (.int x2)] [] w1 := by
  refine Eq.trans (zd_iload_n zh135 rfl rfl) ?_
  refine Eq.trans (zd_iconst zh135 (v := (nI 0)) rfl rfl) ?_
  refine Eq.trans (zd_aload_n zh135 rfl rfl) ?_
  refine Eq.trans (zd_getfield zh135 (ci := 6) (k := 0) rfl h1 rfl) ?_
  refine Eq.trans (zd_bipush zh135 (v := (nI 6)) rfl rfl) ?_
  refine Eq.trans (zd_iaload zh135 h2 rfl) ?_
  refine Eq.trans (zd_iconst zh135 (v := (nI 1)) rfl rfl) ?_
  refine Eq.trans (zd_isub zh135 rfl) ?_
  refine Eq.trans (zd_invSi zh135 zh87 rfl rfl ⟨Nat.le_of_ble_eq_true rfl, Nat.le_of_ble_eq_true rfl, Nat.le_of_ble_eq_true rfl, Nat.le_of_ble_eq_true rfl, Nat.le_of_ble_eq_true rfl⟩ rfl h3 rfl) ?_
  exact zd_ifne zh135 (t := 19) (by decide) rfl
theorem b135_17 {scr : List Int32} {w : zAW} {a0 : Nat} {x1 : Int32} {x2 : Int32}  : zd scr 135 17 [some (.ref a0), some (.int x1), some (.int x2)] [] w = some (some (.int (-1)), w) := by
  refine Eq.trans (zd_iconst zh135 (v := (-1)) rfl rfl) ?_
  exact zd_iret zh135 rfl rfl
theorem b135_19 {scr : List Int32} {w : zAW} {a0 : Nat} {x1 : Int32} {x2 : Int32}  : zd scr 135 19 [some (.ref a0), some (.int x1), some (.int x2)] [] w = if x2 = 0 then zd scr 135 23 [some (.ref a0), some (.int x1), some (.int x2)] [] w else zd scr 135 38 [some (.ref a0), some (.int x1), some (.int x2)] [] w := by
  refine Eq.trans (zd_iload_n zh135 rfl rfl) ?_
  exact zd_ifne zh135 (t := 38) (by decide) rfl
theorem b135_23 {scr : List Int32} {w : zAW} {a0 : Nat} {x1 : Int32} {x2 : Int32} {g1 : Nat} (h1 : zgf w a0 6 0 = some (.ref g1)) {f2 : Int32} (h2 : zal w g1 ((nI 30) + x1) = some f2) : zd scr 135 23 [some (.ref a0), some (.int x1), some (.int x2)] [] w = some (some (.int (f2 / (nI 10))), w) := by
  refine Eq.trans (zd_aload_n zh135 rfl rfl) ?_
  refine Eq.trans (zd_getfield zh135 (ci := 6) (k := 0) rfl h1 rfl) ?_
  refine Eq.trans (zd_bipush zh135 (v := (nI 30)) rfl rfl) ?_
  refine Eq.trans (zd_iload_n zh135 rfl rfl) ?_
  refine Eq.trans (zd_iadd zh135 rfl) ?_
  refine Eq.trans (zd_iaload zh135 h2 rfl) ?_
  refine Eq.trans (zd_bipush zh135 (v := (nI 10)) rfl rfl) ?_
  refine Eq.trans (zd_idiv zh135 (by decide) rfl) ?_
  refine Eq.trans (zd_goto zh135 (t := 60) (by decide) rfl) ?_
  exact zd_iret zh135 rfl rfl
theorem b135_38 {scr : List Int32} {w : zAW} {a0 : Nat} {x1 : Int32} {x2 : Int32}  : zd scr 135 38 [some (.ref a0), some (.int x1), some (.int x2)] [] w = if x2 = (nI 1) then zd scr 135 43 [some (.ref a0), some (.int x1), some (.int x2)] [] w else zd scr 135 58 [some (.ref a0), some (.int x1), some (.int x2)] [] w := by
  refine Eq.trans (zd_iload_n zh135 rfl rfl) ?_
  refine Eq.trans (zd_iconst zh135 (v := (nI 1)) rfl rfl) ?_
  exact zd_icmpne zh135 (t := 58) (by decide) rfl
theorem b135_43 {scr : List Int32} {w : zAW} {a0 : Nat} {x1 : Int32} {x2 : Int32} {g1 : Nat} (h1 : zgf w a0 6 0 = some (.ref g1)) {f2 : Int32} (h2 : zal w g1 ((nI 30) + x1) = some f2) : zd scr 135 43 [some (.ref a0), some (.int x1), some (.int x2)] [] w = some (some (.int (zrem f2 (nI 10))), w) := by
  refine Eq.trans (zd_aload_n zh135 rfl rfl) ?_
  refine Eq.trans (zd_getfield zh135 (ci := 6) (k := 0) rfl h1 rfl) ?_
  refine Eq.trans (zd_bipush zh135 (v := (nI 30)) rfl rfl) ?_
  refine Eq.trans (zd_iload_n zh135 rfl rfl) ?_
  refine Eq.trans (zd_iadd zh135 rfl) ?_
  refine Eq.trans (zd_iaload zh135 h2 rfl) ?_
  refine Eq.trans (zd_bipush zh135 (v := (nI 10)) rfl rfl) ?_
  refine Eq.trans (zd_irem zh135 (by decide) rfl) ?_
  refine Eq.trans (zd_goto zh135 (t := 60) (by decide) rfl) ?_
  exact zd_iret zh135 rfl rfl
theorem b135_58 {scr : List Int32} {w : zAW} {a0 : Nat} {x1 : Int32} {x2 : Int32}  : zd scr 135 58 [some (.ref a0), some (.int x1), some (.int x2)] [] w = some (some (.int (-2)), w) := by
  refine Eq.trans (zd_bipush zh135 (v := (-2)) rfl rfl) ?_
  exact zd_iret zh135 rfl rfl
/-! yX6_vetoes: 136, MarbleHeirsModel.vetoes(I)I -/
set_option maxRecDepth 20000 in
theorem b136_0 {scr : List Int32} {w : zAW} {a0 : Nat} {x1 : Int32} {f1 : Int32} {w1 : zAW} (h1 : zC scr 89 [.int x1] w = some (some (.int f1), w1)) : zd scr 136 0 [some (.ref a0), some (.int x1)] [] w = if f1 = 0 then zd scr 136 19 [some (.ref a0), some (.int x1)] [] w1 else zd scr 136 7 [some (.ref a0), some (.int x1)] [] w1 := by
  refine Eq.trans (zd_iload_n zh136 rfl rfl) ?_
  refine Eq.trans (zd_invSi zh136 zh89 rfl rfl ⟨Nat.le_of_ble_eq_true rfl, Nat.le_of_ble_eq_true rfl, Nat.le_of_ble_eq_true rfl, Nat.le_of_ble_eq_true rfl, Nat.le_of_ble_eq_true rfl⟩ rfl h1 rfl) ?_
  exact zd_ifeq zh136 (t := 19) (by decide) rfl
theorem b136_19 {scr : List Int32} {w : zAW} {a0 : Nat} {x1 : Int32}  : zd scr 136 19 [some (.ref a0), some (.int x1)] [] w = some (some (.int (-1)), w) := by
  refine Eq.trans (zd_iconst zh136 (v := (-1)) rfl rfl) ?_
  exact zd_iret zh136 rfl rfl
theorem b136_7 {scr : List Int32} {w : zAW} {a0 : Nat} {x1 : Int32} {g1 : Nat} (h1 : zgf w a0 6 0 = some (.ref g1)) {f2 : Int32} (h2 : zal w g1 ((nI 8) + x1) = some f2) : zd scr 136 7 [some (.ref a0), some (.int x1)] [] w = some (some (.int f2), w) := by
  refine Eq.trans (zd_aload_n zh136 rfl rfl) ?_
  refine Eq.trans (zd_getfield zh136 (ci := 6) (k := 0) rfl h1 rfl) ?_
  refine Eq.trans (zd_bipush zh136 (v := (nI 8)) rfl rfl) ?_
  refine Eq.trans (zd_iload_n zh136 rfl rfl) ?_
  refine Eq.trans (zd_iadd zh136 rfl) ?_
  refine Eq.trans (zd_iaload zh136 h2 rfl) ?_
  refine Eq.trans (zd_goto zh136 (t := 20) (by decide) rfl) ?_
  exact zd_iret zh136 rfl rfl
/-! yX6_at: 137, MarbleHeirsModel.at(I)I -/
set_option maxRecDepth 20000 in
theorem b137_0 {scr : List Int32} {w : zAW} {a0 : Nat} {x1 : Int32} {g1 : Nat} (h1 : zgf w a0 6 0 = some (.ref g1)) {f2 : Int32} (h2 : zal w g1 (nI 0) = some f2) {f3 : Int32} {w1 : zAW} (h3 : zC scr 87 [.int x1, .int (nI 0), .int (f2 - (nI 1))] w = some (some (.int f3), w1)) : zd scr 137 0 [some (.ref a0), some (.int x1)] [] w = if f3 = 0 then zd scr 137 28 [some (.ref a0), some (.int x1)] [] w1 else zd scr 137 16 [some (.ref a0), some (.int x1)] [] w1 := by
  refine Eq.trans (zd_iload_n zh137 rfl rfl) ?_
  refine Eq.trans (zd_iconst zh137 (v := (nI 0)) rfl rfl) ?_
  refine Eq.trans (zd_aload_n zh137 rfl rfl) ?_
  refine Eq.trans (zd_getfield zh137 (ci := 6) (k := 0) rfl h1 rfl) ?_
  refine Eq.trans (zd_iconst zh137 (v := (nI 0)) rfl rfl) ?_
  refine Eq.trans (zd_iaload zh137 h2 rfl) ?_
  refine Eq.trans (zd_iconst zh137 (v := (nI 1)) rfl rfl) ?_
  refine Eq.trans (zd_isub zh137 rfl) ?_
  refine Eq.trans (zd_invSi zh137 zh87 rfl rfl ⟨Nat.le_of_ble_eq_true rfl, Nat.le_of_ble_eq_true rfl, Nat.le_of_ble_eq_true rfl, Nat.le_of_ble_eq_true rfl, Nat.le_of_ble_eq_true rfl⟩ rfl h3 rfl) ?_
  exact zd_ifeq zh137 (t := 28) (by decide) rfl
theorem b137_28 {scr : List Int32} {w : zAW} {a0 : Nat} {x1 : Int32}  : zd scr 137 28 [some (.ref a0), some (.int x1)] [] w = some (some (.int (-1)), w) := by
  refine Eq.trans (zd_iconst zh137 (v := (-1)) rfl rfl) ?_
  exact zd_iret zh137 rfl rfl
theorem b137_16 {scr : List Int32} {w : zAW} {a0 : Nat} {x1 : Int32} {g1 : Nat} (h1 : zgf w a0 6 0 = some (.ref g1)) {f2 : Int32} (h2 : zal w g1 ((nI 24) + x1) = some f2) : zd scr 137 16 [some (.ref a0), some (.int x1)] [] w = some (some (.int f2), w) := by
  refine Eq.trans (zd_aload_n zh137 rfl rfl) ?_
  refine Eq.trans (zd_getfield zh137 (ci := 6) (k := 0) rfl h1 rfl) ?_
  refine Eq.trans (zd_bipush zh137 (v := (nI 24)) rfl rfl) ?_
  refine Eq.trans (zd_iload_n zh137 rfl rfl) ?_
  refine Eq.trans (zd_iadd zh137 rfl) ?_
  refine Eq.trans (zd_iaload zh137 h2 rfl) ?_
  refine Eq.trans (zd_goto zh137 (t := 29) (by decide) rfl) ?_
  exact zd_iret zh137 rfl rfl
/-! yX6_valuesIn: 138, MarbleHeirsModel.valuesIn(II)I -/
theorem b138_0 {scr : List Int32} {w : zAW} {a0 : Nat} {x1 : Int32} {x2 : Int32}  : zd scr 138 0 [some (.ref a0), some (.int x1), some (.int x2), none, none] [] w = zd scr 138 5 [some (.ref a0), some (.int x1), some (.int x2), some (.int (nI 0)), some (.int x1)] [] w := by
  refine Eq.trans (zd_iconst zh138 (v := (nI 0)) rfl rfl) ?_
  refine Eq.trans (zd_istore_n zh138 (ls' := [some (.ref a0), some (.int x1), some (.int x2), some (.int (nI 0)), none]) (Nat.le_of_ble_eq_true rfl) rfl rfl) ?_
  refine Eq.trans (zd_iload_n zh138 rfl rfl) ?_
  refine Eq.trans (zd_istore zh138 (ls' := [some (.ref a0), some (.int x1), some (.int x2), some (.int (nI 0)), some (.int x1)]) (Nat.le_of_ble_eq_true rfl) rfl rfl) ?_
  exact rfl
theorem b138_5 {scr : List Int32} {w : zAW} {a0 : Nat} {x1 : Int32} {x2 : Int32} {x3 : Int32} {x4 : Int32}  : zd scr 138 5 [some (.ref a0), some (.int x1), some (.int x2), some (.int x3), some (.int x4)] [] w = if x4 < (x1 + x2) then zd scr 138 13 [some (.ref a0), some (.int x1), some (.int x2), some (.int x3), some (.int x4)] [] w else zd scr 138 32 [some (.ref a0), some (.int x1), some (.int x2), some (.int x3), some (.int x4)] [] w := by
  refine Eq.trans (zd_iload zh138 rfl rfl) ?_
  refine Eq.trans (zd_iload_n zh138 rfl rfl) ?_
  refine Eq.trans (zd_iload_n zh138 rfl rfl) ?_
  refine Eq.trans (zd_iadd zh138 rfl) ?_
  exact zd_icmpge zh138 (t := 32) (by decide) rfl
theorem b138_13 {scr : List Int32} {w : zAW} {a0 : Nat} {x1 : Int32} {x2 : Int32} {x3 : Int32} {x4 : Int32} {g1 : Nat} (h1 : zgf w a0 6 0 = some (.ref g1)) {f2 : Int32} (h2 : zal w g1 x4 = some f2) : zd scr 138 13 [some (.ref a0), some (.int x1), some (.int x2), some (.int x3), some (.int x4)] [] w = zd scr 138 5 [some (.ref a0), some (.int x1), some (.int x2), some (.int (x3 + (zrem f2 (nI 10)))), some (.int (x4 + (nI 1)))] [] w := by
  refine Eq.trans (zd_iload_n zh138 rfl rfl) ?_
  refine Eq.trans (zd_aload_n zh138 rfl rfl) ?_
  refine Eq.trans (zd_getfield zh138 (ci := 6) (k := 0) rfl h1 rfl) ?_
  refine Eq.trans (zd_iload zh138 rfl rfl) ?_
  refine Eq.trans (zd_iaload zh138 h2 rfl) ?_
  refine Eq.trans (zd_bipush zh138 (v := (nI 10)) rfl rfl) ?_
  refine Eq.trans (zd_irem zh138 (by decide) rfl) ?_
  refine Eq.trans (zd_iadd zh138 rfl) ?_
  refine Eq.trans (zd_istore_n zh138 (ls' := [some (.ref a0), some (.int x1), some (.int x2), some (.int (x3 + (zrem f2 (nI 10)))), some (.int x4)]) (Nat.le_of_ble_eq_true rfl) rfl rfl) ?_
  refine Eq.trans (zd_iinc zh138 (ls' := [some (.ref a0), some (.int x1), some (.int x2), some (.int (x3 + (zrem f2 (nI 10)))), some (.int (x4 + (nI 1)))]) (v := (x4 + (nI 1))) rfl rfl rfl rfl) ?_
  refine Eq.trans (zd_goto zh138 (t := 5) (by decide) rfl) ?_
  exact rfl
theorem b138_32 {scr : List Int32} {w : zAW} {a0 : Nat} {x1 : Int32} {x2 : Int32} {x3 : Int32} {x4 : Int32}  : zd scr 138 32 [some (.ref a0), some (.int x1), some (.int x2), some (.int x3), some (.int x4)] [] w = some (some (.int x3), w) := by
  refine Eq.trans (zd_iload_n zh138 rfl rfl) ?_
  exact zd_iret zh138 rfl rfl
/-! yX6_total: 139, MarbleHeirsModel.total(I)I -/
theorem b139_0_c0 {scr : List Int32} {w : zAW} {a0 : Nat} {x1 : Int32}  (hx : x1 = (nI 0)) : zd scr 139 0 [some (.ref a0), some (.int x1)] [] w = zd scr 139 68 [some (.ref a0), some (.int x1)] [] w := by
  refine Eq.trans (zd_iload_n zh139 rfl rfl) ?_
  exact zd_tabIn zh139 (off := 67) (by rw [hx]; decide) (by rw [hx]; rfl) (by decide) rfl
theorem b139_0_c1 {scr : List Int32} {w : zAW} {a0 : Nat} {x1 : Int32}  (hx : x1 = (nI 1)) : zd scr 139 0 [some (.ref a0), some (.int x1)] [] w = zd scr 139 75 [some (.ref a0), some (.int x1)] [] w := by
  refine Eq.trans (zd_iload_n zh139 rfl rfl) ?_
  exact zd_tabIn zh139 (off := 74) (by rw [hx]; decide) (by rw [hx]; rfl) (by decide) rfl
theorem b139_0_c2 {scr : List Int32} {w : zAW} {a0 : Nat} {x1 : Int32}  (hx : x1 = (nI 2)) : zd scr 139 0 [some (.ref a0), some (.int x1)] [] w = zd scr 139 83 [some (.ref a0), some (.int x1)] [] w := by
  refine Eq.trans (zd_iload_n zh139 rfl rfl) ?_
  exact zd_tabIn zh139 (off := 82) (by rw [hx]; decide) (by rw [hx]; rfl) (by decide) rfl
theorem b139_0_c3 {scr : List Int32} {w : zAW} {a0 : Nat} {x1 : Int32}  (hx : x1 = (nI 3)) : zd scr 139 0 [some (.ref a0), some (.int x1)] [] w = zd scr 139 91 [some (.ref a0), some (.int x1)] [] w := by
  refine Eq.trans (zd_iload_n zh139 rfl rfl) ?_
  exact zd_tabIn zh139 (off := 90) (by rw [hx]; decide) (by rw [hx]; rfl) (by decide) rfl
theorem b139_0_c4 {scr : List Int32} {w : zAW} {a0 : Nat} {x1 : Int32}  (hx : x1 = (nI 4)) : zd scr 139 0 [some (.ref a0), some (.int x1)] [] w = zd scr 139 105 [some (.ref a0), some (.int x1)] [] w := by
  refine Eq.trans (zd_iload_n zh139 rfl rfl) ?_
  exact zd_tabIn zh139 (off := 104) (by rw [hx]; decide) (by rw [hx]; rfl) (by decide) rfl
theorem b139_0_c5 {scr : List Int32} {w : zAW} {a0 : Nat} {x1 : Int32}  (hx : x1 = (nI 5)) : zd scr 139 0 [some (.ref a0), some (.int x1)] [] w = zd scr 139 119 [some (.ref a0), some (.int x1)] [] w := by
  refine Eq.trans (zd_iload_n zh139 rfl rfl) ?_
  exact zd_tabIn zh139 (off := 118) (by rw [hx]; decide) (by rw [hx]; rfl) (by decide) rfl
theorem b139_0_c6 {scr : List Int32} {w : zAW} {a0 : Nat} {x1 : Int32}  (hx : x1 = (nI 6)) : zd scr 139 0 [some (.ref a0), some (.int x1)] [] w = zd scr 139 119 [some (.ref a0), some (.int x1)] [] w := by
  refine Eq.trans (zd_iload_n zh139 rfl rfl) ?_
  exact zd_tabIn zh139 (off := 118) (by rw [hx]; decide) (by rw [hx]; rfl) (by decide) rfl
theorem b139_0_c7 {scr : List Int32} {w : zAW} {a0 : Nat} {x1 : Int32}  (hx : x1 = (nI 7)) : zd scr 139 0 [some (.ref a0), some (.int x1)] [] w = zd scr 139 119 [some (.ref a0), some (.int x1)] [] w := by
  refine Eq.trans (zd_iload_n zh139 rfl rfl) ?_
  exact zd_tabIn zh139 (off := 118) (by rw [hx]; decide) (by rw [hx]; rfl) (by decide) rfl
theorem b139_0_c8 {scr : List Int32} {w : zAW} {a0 : Nat} {x1 : Int32}  (hx : x1 = (nI 8)) : zd scr 139 0 [some (.ref a0), some (.int x1)] [] w = zd scr 139 130 [some (.ref a0), some (.int x1)] [] w := by
  refine Eq.trans (zd_iload_n zh139 rfl rfl) ?_
  exact zd_tabIn zh139 (off := 129) (by rw [hx]; decide) (by rw [hx]; rfl) (by decide) rfl
theorem b139_0_c9 {scr : List Int32} {w : zAW} {a0 : Nat} {x1 : Int32}  (hx : x1 = (nI 9)) : zd scr 139 0 [some (.ref a0), some (.int x1)] [] w = zd scr 139 135 [some (.ref a0), some (.int x1)] [] w := by
  refine Eq.trans (zd_iload_n zh139 rfl rfl) ?_
  exact zd_tabIn zh139 (off := 134) (by rw [hx]; decide) (by rw [hx]; rfl) (by decide) rfl
theorem b139_0_c10 {scr : List Int32} {w : zAW} {a0 : Nat} {x1 : Int32}  (hx : x1 = (nI 10)) : zd scr 139 0 [some (.ref a0), some (.int x1)] [] w = zd scr 139 141 [some (.ref a0), some (.int x1)] [] w := by
  refine Eq.trans (zd_iload_n zh139 rfl rfl) ?_
  exact zd_tabIn zh139 (off := 140) (by rw [hx]; decide) (by rw [hx]; rfl) (by decide) rfl
theorem b139_0_c11 {scr : List Int32} {w : zAW} {a0 : Nat} {x1 : Int32}  (hx : x1 = (nI 11)) : zd scr 139 0 [some (.ref a0), some (.int x1)] [] w = zd scr 139 147 [some (.ref a0), some (.int x1)] [] w := by
  refine Eq.trans (zd_iload_n zh139 rfl rfl) ?_
  exact zd_tabIn zh139 (off := 146) (by rw [hx]; decide) (by rw [hx]; rfl) (by decide) rfl
theorem b139_0_c12 {scr : List Int32} {w : zAW} {a0 : Nat} {x1 : Int32}  (hx : x1 = (nI 12)) : zd scr 139 0 [some (.ref a0), some (.int x1)] [] w = zd scr 139 154 [some (.ref a0), some (.int x1)] [] w := by
  refine Eq.trans (zd_iload_n zh139 rfl rfl) ?_
  exact zd_tabIn zh139 (off := 153) (by rw [hx]; decide) (by rw [hx]; rfl) (by decide) rfl
theorem b139_0_d {scr : List Int32} {w : zAW} {a0 : Nat} {x1 : Int32}  (hx : (x1).toInt < 0 ∨ 12 < (x1).toInt) : zd scr 139 0 [some (.ref a0), some (.int x1)] [] w = zd scr 139 161 [some (.ref a0), some (.int x1)] [] w := by
  refine Eq.trans (zd_iload_n zh139 rfl rfl) ?_
  exact zd_tabOut zh139 hx (by decide) rfl
theorem b139_68 {scr : List Int32} {w : zAW} {a0 : Nat} {x1 : Int32} {g1 : Nat} (h1 : zgf w a0 6 0 = some (.ref g1)) {f2 : Int32} (h2 : zal w g1 (nI 0) = some f2) : zd scr 139 68 [some (.ref a0), some (.int x1)] [] w = some (some (.int f2), w) := by
  refine Eq.trans (zd_aload_n zh139 rfl rfl) ?_
  refine Eq.trans (zd_getfield zh139 (ci := 6) (k := 0) rfl h1 rfl) ?_
  refine Eq.trans (zd_iconst zh139 (v := (nI 0)) rfl rfl) ?_
  refine Eq.trans (zd_iaload zh139 h2 rfl) ?_
  exact zd_iret zh139 rfl rfl
theorem b139_75 {scr : List Int32} {w : zAW} {a0 : Nat} {x1 : Int32} {g1 : Nat} (h1 : zgf w a0 6 0 = some (.ref g1)) {f2 : Int32} (h2 : zal w g1 (nI 6) = some f2) : zd scr 139 75 [some (.ref a0), some (.int x1)] [] w = some (some (.int f2), w) := by
  refine Eq.trans (zd_aload_n zh139 rfl rfl) ?_
  refine Eq.trans (zd_getfield zh139 (ci := 6) (k := 0) rfl h1 rfl) ?_
  refine Eq.trans (zd_bipush zh139 (v := (nI 6)) rfl rfl) ?_
  refine Eq.trans (zd_iaload zh139 h2 rfl) ?_
  exact zd_iret zh139 rfl rfl
theorem b139_83 {scr : List Int32} {w : zAW} {a0 : Nat} {x1 : Int32} {g1 : Nat} (h1 : zgf w a0 6 0 = some (.ref g1)) {f2 : Int32} (h2 : zal w g1 (nI 7) = some f2) : zd scr 139 83 [some (.ref a0), some (.int x1)] [] w = some (some (.int f2), w) := by
  refine Eq.trans (zd_aload_n zh139 rfl rfl) ?_
  refine Eq.trans (zd_getfield zh139 (ci := 6) (k := 0) rfl h1 rfl) ?_
  refine Eq.trans (zd_bipush zh139 (v := (nI 7)) rfl rfl) ?_
  refine Eq.trans (zd_iaload zh139 h2 rfl) ?_
  exact zd_iret zh139 rfl rfl
set_option maxRecDepth 20000 in
theorem b139_91 {scr : List Int32} {w : zAW} {a0 : Nat} {x1 : Int32} {g1 : Nat} (h1 : zgf w a0 6 0 = some (.ref g1)) {f2 : Int32} (h2 : zal w g1 (nI 6) = some f2) (h3 : zob w a0 6 = true) {f3 : Int32} {w1 : zAW} (h4 : zC scr 138 [.ref a0, .int (nI 30), .int f2] w = some (some (.int f3), w1)) : zd scr 139 91 [some (.ref a0), some (.int x1)] [] w = some (some (.int f3), w1) := by
  refine Eq.trans (zd_aload_n zh139 rfl rfl) ?_
  refine Eq.trans (zd_bipush zh139 (v := (nI 30)) rfl rfl) ?_
  refine Eq.trans (zd_aload_n zh139 rfl rfl) ?_
  refine Eq.trans (zd_getfield zh139 (ci := 6) (k := 0) rfl h1 rfl) ?_
  refine Eq.trans (zd_bipush zh139 (v := (nI 6)) rfl rfl) ?_
  refine Eq.trans (zd_iaload zh139 h2 rfl) ?_
  refine Eq.trans (zd_invVi zh139 zh138 rfl rfl ⟨Nat.le_of_ble_eq_true rfl, Nat.le_of_ble_eq_true rfl, Nat.le_of_ble_eq_true rfl, Nat.le_of_ble_eq_true rfl⟩ rfl h3 h4 rfl) ?_
  exact zd_iret zh139 rfl rfl
set_option maxRecDepth 20000 in
theorem b139_105 {scr : List Int32} {w : zAW} {a0 : Nat} {x1 : Int32} {g1 : Nat} (h1 : zgf w a0 6 0 = some (.ref g1)) {f2 : Int32} (h2 : zal w g1 (nI 7) = some f2) (h3 : zob w a0 6 = true) {f3 : Int32} {w1 : zAW} (h4 : zC scr 138 [.ref a0, .int (nI 70), .int f2] w = some (some (.int f3), w1)) : zd scr 139 105 [some (.ref a0), some (.int x1)] [] w = some (some (.int f3), w1) := by
  refine Eq.trans (zd_aload_n zh139 rfl rfl) ?_
  refine Eq.trans (zd_bipush zh139 (v := (nI 70)) rfl rfl) ?_
  refine Eq.trans (zd_aload_n zh139 rfl rfl) ?_
  refine Eq.trans (zd_getfield zh139 (ci := 6) (k := 0) rfl h1 rfl) ?_
  refine Eq.trans (zd_bipush zh139 (v := (nI 7)) rfl rfl) ?_
  refine Eq.trans (zd_iaload zh139 h2 rfl) ?_
  refine Eq.trans (zd_invVi zh139 zh138 rfl rfl ⟨Nat.le_of_ble_eq_true rfl, Nat.le_of_ble_eq_true rfl, Nat.le_of_ble_eq_true rfl, Nat.le_of_ble_eq_true rfl⟩ rfl h3 h4 rfl) ?_
  exact zd_iret zh139 rfl rfl
theorem b139_119 {scr : List Int32} {w : zAW} {a0 : Nat} {x1 : Int32} {g1 : Nat} (h1 : zgf w a0 6 0 = some (.ref g1)) {f2 : Int32} (h2 : zal w g1 (((nI 3) + x1) - (nI 5)) = some f2) : zd scr 139 119 [some (.ref a0), some (.int x1)] [] w = some (some (.int f2), w) := by
  refine Eq.trans (zd_aload_n zh139 rfl rfl) ?_
  refine Eq.trans (zd_getfield zh139 (ci := 6) (k := 0) rfl h1 rfl) ?_
  refine Eq.trans (zd_iconst zh139 (v := (nI 3)) rfl rfl) ?_
  refine Eq.trans (zd_iload_n zh139 rfl rfl) ?_
  refine Eq.trans (zd_iadd zh139 rfl) ?_
  refine Eq.trans (zd_iconst zh139 (v := (nI 5)) rfl rfl) ?_
  refine Eq.trans (zd_isub zh139 rfl) ?_
  refine Eq.trans (zd_iaload zh139 h2 rfl) ?_
  exact zd_iret zh139 rfl rfl
set_option maxRecDepth 20000 in
theorem b139_130 {scr : List Int32} {w : zAW} {a0 : Nat} {x1 : Int32} (h1 : zob w a0 6 = true) {f1 : Int32} {w1 : zAW} (h2 : zC scr 102 [.ref a0] w = some (some (.int f1), w1)) : zd scr 139 130 [some (.ref a0), some (.int x1)] [] w = some (some (.int f1), w1) := by
  refine Eq.trans (zd_aload_n zh139 rfl rfl) ?_
  refine Eq.trans (zd_invVi zh139 zh102 rfl rfl ⟨Nat.le_of_ble_eq_true rfl, Nat.le_of_ble_eq_true rfl, Nat.le_of_ble_eq_true rfl, Nat.le_of_ble_eq_true rfl⟩ rfl h1 h2 rfl) ?_
  exact zd_iret zh139 rfl rfl
set_option maxRecDepth 20000 in
theorem b139_135 {scr : List Int32} {w : zAW} {a0 : Nat} {x1 : Int32} (h1 : zob w a0 6 = true) {f1 : Int32} {w1 : zAW} (h2 : zC scr 103 [.ref a0, .int (nI 0)] w = some (some (.int f1), w1)) : zd scr 139 135 [some (.ref a0), some (.int x1)] [] w = some (some (.int f1), w1) := by
  refine Eq.trans (zd_aload_n zh139 rfl rfl) ?_
  refine Eq.trans (zd_iconst zh139 (v := (nI 0)) rfl rfl) ?_
  refine Eq.trans (zd_invVi zh139 zh103 rfl rfl ⟨Nat.le_of_ble_eq_true rfl, Nat.le_of_ble_eq_true rfl, Nat.le_of_ble_eq_true rfl, Nat.le_of_ble_eq_true rfl⟩ rfl h1 h2 rfl) ?_
  exact zd_iret zh139 rfl rfl
set_option maxRecDepth 20000 in
theorem b139_141 {scr : List Int32} {w : zAW} {a0 : Nat} {x1 : Int32} (h1 : zob w a0 6 = true) {f1 : Int32} {w1 : zAW} (h2 : zC scr 103 [.ref a0, .int (nI 1)] w = some (some (.int f1), w1)) : zd scr 139 141 [some (.ref a0), some (.int x1)] [] w = some (some (.int f1), w1) := by
  refine Eq.trans (zd_aload_n zh139 rfl rfl) ?_
  refine Eq.trans (zd_iconst zh139 (v := (nI 1)) rfl rfl) ?_
  refine Eq.trans (zd_invVi zh139 zh103 rfl rfl ⟨Nat.le_of_ble_eq_true rfl, Nat.le_of_ble_eq_true rfl, Nat.le_of_ble_eq_true rfl, Nat.le_of_ble_eq_true rfl⟩ rfl h1 h2 rfl) ?_
  exact zd_iret zh139 rfl rfl
theorem b139_147 {scr : List Int32} {w : zAW} {a0 : Nat} {x1 : Int32} {g1 : Nat} (h1 : zgf w a0 6 0 = some (.ref g1)) {f2 : Int32} (h2 : zal w g1 (nI 1) = some f2) : zd scr 139 147 [some (.ref a0), some (.int x1)] [] w = some (some (.int f2), w) := by
  refine Eq.trans (zd_aload_n zh139 rfl rfl) ?_
  refine Eq.trans (zd_getfield zh139 (ci := 6) (k := 0) rfl h1 rfl) ?_
  refine Eq.trans (zd_iconst zh139 (v := (nI 1)) rfl rfl) ?_
  refine Eq.trans (zd_iaload zh139 h2 rfl) ?_
  exact zd_iret zh139 rfl rfl
theorem b139_154 {scr : List Int32} {w : zAW} {a0 : Nat} {x1 : Int32} {g1 : Nat} (h1 : zgf w a0 6 0 = some (.ref g1)) {f2 : Int32} (h2 : zal w g1 (nI 2) = some f2) : zd scr 139 154 [some (.ref a0), some (.int x1)] [] w = some (some (.int f2), w) := by
  refine Eq.trans (zd_aload_n zh139 rfl rfl) ?_
  refine Eq.trans (zd_getfield zh139 (ci := 6) (k := 0) rfl h1 rfl) ?_
  refine Eq.trans (zd_iconst zh139 (v := (nI 2)) rfl rfl) ?_
  refine Eq.trans (zd_iaload zh139 h2 rfl) ?_
  exact zd_iret zh139 rfl rfl
theorem b139_161 {scr : List Int32} {w : zAW} {a0 : Nat} {x1 : Int32}  : zd scr 139 161 [some (.ref a0), some (.int x1)] [] w = some (some (.int (-2)), w) := by
  refine Eq.trans (zd_bipush zh139 (v := (-2)) rfl rfl) ?_
  exact zd_iret zh139 rfl rfl
/-! yX6_ifDivided: 140, MarbleHeirsModel.ifDivided(II)I -/
set_option maxRecDepth 20000 in
theorem b140_0 {scr : List Int32} {w : zAW} {a0 : Nat} {x1 : Int32} {x2 : Int32} (h1 : zob w a0 6 = true) {f1 : Int32} {w1 : zAW} (h2 : zC scr 88 [.ref a0, .int x1] w = some (some (.int f1), w1)) : zd scr 140 0 [some (.ref a0), some (.int x1), some (.int x2), none, none] [] w = if f1 = 0 then zd scr 140 8 [some (.ref a0), some (.int x1), some (.int x2), none, none] [] w1 else zd scr 140 10 [some (.ref a0), some (.int x1), some (.int x2), none, none] [] w1 := by
  refine Eq.trans (zd_aload_n zh140 rfl rfl) ?_
  refine Eq.trans (zd_iload_n zh140 rfl rfl) ?_
  refine Eq.trans (zd_invVi zh140 zh88 rfl rfl ⟨Nat.le_of_ble_eq_true rfl, Nat.le_of_ble_eq_true rfl, Nat.le_of_ble_eq_true rfl, Nat.le_of_ble_eq_true rfl⟩ rfl h1 h2 rfl) ?_
  exact zd_ifne zh140 (t := 10) (by decide) rfl
theorem b140_8 {scr : List Int32} {w : zAW} {a0 : Nat} {x1 : Int32} {x2 : Int32}  : zd scr 140 8 [some (.ref a0), some (.int x1), some (.int x2), none, none] [] w = some (some (.int (-1)), w) := by
  refine Eq.trans (zd_iconst zh140 (v := (-1)) rfl rfl) ?_
  exact zd_iret zh140 rfl rfl
set_option maxRecDepth 20000 in
theorem b140_10 {scr : List Int32} {w : zAW} {a0 : Nat} {x1 : Int32} {x2 : Int32} {f1 : Int32} {w1 : zAW} (h1 : zC scr 87 [.int x2, .int (nI 0), .int (nI 2)] w = some (some (.int f1), w1)) : zd scr 140 10 [some (.ref a0), some (.int x1), some (.int x2), none, none] [] w = if f1 = 0 then zd scr 140 19 [some (.ref a0), some (.int x1), some (.int x2), none, none] [] w1 else zd scr 140 22 [some (.ref a0), some (.int x1), some (.int x2), none, none] [] w1 := by
  refine Eq.trans (zd_iload_n zh140 rfl rfl) ?_
  refine Eq.trans (zd_iconst zh140 (v := (nI 0)) rfl rfl) ?_
  refine Eq.trans (zd_iconst zh140 (v := (nI 2)) rfl rfl) ?_
  refine Eq.trans (zd_invSi zh140 zh87 rfl rfl ⟨Nat.le_of_ble_eq_true rfl, Nat.le_of_ble_eq_true rfl, Nat.le_of_ble_eq_true rfl, Nat.le_of_ble_eq_true rfl, Nat.le_of_ble_eq_true rfl⟩ rfl h1 rfl) ?_
  exact zd_ifne zh140 (t := 22) (by decide) rfl
theorem b140_19 {scr : List Int32} {w : zAW} {a0 : Nat} {x1 : Int32} {x2 : Int32}  : zd scr 140 19 [some (.ref a0), some (.int x1), some (.int x2), none, none] [] w = some (some (.int (-2)), w) := by
  refine Eq.trans (zd_bipush zh140 (v := (-2)) rfl rfl) ?_
  exact zd_iret zh140 rfl rfl
set_option maxRecDepth 20000 in
theorem b140_22 {scr : List Int32} {w : zAW} {a0 : Nat} {x1 : Int32} {x2 : Int32} (h1 : zob w a0 6 = true) {w1 : zAW} (h2 : zC scr 93 [.ref a0] w = some (none, w1)) (h3 : zob w1 a0 6 = true) {f1 : Int32} {w2 : zAW} (h4 : zC scr 107 [.ref a0] w1 = some (some (.int f1), w2)) : zd scr 140 22 [some (.ref a0), some (.int x1), some (.int x2), none, none] [] w = if x2 = 0 then zd scr 140 35 [some (.ref a0), some (.int x1), some (.int x2), some (.int f1), none] [] w2 else zd scr 140 43 [some (.ref a0), some (.int x1), some (.int x2), some (.int f1), none] [] w2 := by
  refine Eq.trans (zd_aload_n zh140 rfl rfl) ?_
  refine Eq.trans (zd_invVv zh140 zh93 rfl rfl ⟨Nat.le_of_ble_eq_true rfl, Nat.le_of_ble_eq_true rfl, Nat.le_of_ble_eq_true rfl, Nat.le_of_ble_eq_true rfl⟩ rfl h1 h2 rfl) ?_
  refine Eq.trans (zd_aload_n zh140 rfl rfl) ?_
  refine Eq.trans (zd_invVi zh140 zh107 rfl rfl ⟨Nat.le_of_ble_eq_true rfl, Nat.le_of_ble_eq_true rfl, Nat.le_of_ble_eq_true rfl, Nat.le_of_ble_eq_true rfl⟩ rfl h3 h4 rfl) ?_
  refine Eq.trans (zd_istore_n zh140 (ls' := [some (.ref a0), some (.int x1), some (.int x2), some (.int f1), none]) (Nat.le_of_ble_eq_true rfl) rfl rfl) ?_
  refine Eq.trans (zd_iload_n zh140 rfl rfl) ?_
  exact zd_ifne zh140 (t := 43) (by decide) rfl
set_option maxRecDepth 20000 in
theorem b140_35 {scr : List Int32} {w : zAW} {a0 : Nat} {x1 : Int32} {x2 : Int32} {x3 : Int32} (h1 : zob w a0 6 = true) {f1 : Int32} {w1 : zAW} (h2 : zC scr 98 [.ref a0, .int x1] w = some (some (.int f1), w1)) (h3 : zob w1 a0 6 = true) {w2 : zAW} (h4 : zC scr 94 [.ref a0] w1 = some (none, w2)) : zd scr 140 35 [some (.ref a0), some (.int x1), some (.int x2), some (.int x3), none] [] w = some (some (.int f1), w2) := by
  refine Eq.trans (zd_aload_n zh140 rfl rfl) ?_
  refine Eq.trans (zd_iload_n zh140 rfl rfl) ?_
  refine Eq.trans (zd_invVi zh140 zh98 rfl rfl ⟨Nat.le_of_ble_eq_true rfl, Nat.le_of_ble_eq_true rfl, Nat.le_of_ble_eq_true rfl, Nat.le_of_ble_eq_true rfl⟩ rfl h1 h2 rfl) ?_
  refine Eq.trans (zd_goto zh140 (t := 67) (by decide) rfl) ?_
  refine Eq.trans (zd_istore zh140 (ls' := [some (.ref a0), some (.int x1), some (.int x2), some (.int x3), some (.int f1)]) (Nat.le_of_ble_eq_true rfl) rfl rfl) ?_
  refine Eq.trans (zd_aload_n zh140 rfl rfl) ?_
  refine Eq.trans (zd_invVv zh140 zh94 rfl rfl ⟨Nat.le_of_ble_eq_true rfl, Nat.le_of_ble_eq_true rfl, Nat.le_of_ble_eq_true rfl, Nat.le_of_ble_eq_true rfl⟩ rfl h3 h4 rfl) ?_
  refine Eq.trans (zd_iload zh140 rfl rfl) ?_
  exact zd_iret zh140 rfl rfl
theorem b140_43 {scr : List Int32} {w : zAW} {a0 : Nat} {x1 : Int32} {x2 : Int32} {x3 : Int32}  : zd scr 140 43 [some (.ref a0), some (.int x1), some (.int x2), some (.int x3), none] [] w = if x2 = (nI 1) then zd scr 140 48 [some (.ref a0), some (.int x1), some (.int x2), some (.int x3), none] [] w else zd scr 140 56 [some (.ref a0), some (.int x1), some (.int x2), some (.int x3), none] [] w := by
  refine Eq.trans (zd_iload_n zh140 rfl rfl) ?_
  refine Eq.trans (zd_iconst zh140 (v := (nI 1)) rfl rfl) ?_
  exact zd_icmpne zh140 (t := 56) (by decide) rfl
set_option maxRecDepth 20000 in
theorem b140_48 {scr : List Int32} {w : zAW} {a0 : Nat} {x1 : Int32} {x2 : Int32} {x3 : Int32} (h1 : zob w a0 6 = true) {f1 : Int32} {w1 : zAW} (h2 : zC scr 99 [.ref a0, .int x1] w = some (some (.int f1), w1)) (h3 : zob w1 a0 6 = true) {w2 : zAW} (h4 : zC scr 94 [.ref a0] w1 = some (none, w2)) : zd scr 140 48 [some (.ref a0), some (.int x1), some (.int x2), some (.int x3), none] [] w = some (some (.int f1), w2) := by
  refine Eq.trans (zd_aload_n zh140 rfl rfl) ?_
  refine Eq.trans (zd_iload_n zh140 rfl rfl) ?_
  refine Eq.trans (zd_invVi zh140 zh99 rfl rfl ⟨Nat.le_of_ble_eq_true rfl, Nat.le_of_ble_eq_true rfl, Nat.le_of_ble_eq_true rfl, Nat.le_of_ble_eq_true rfl⟩ rfl h1 h2 rfl) ?_
  refine Eq.trans (zd_goto zh140 (t := 67) (by decide) rfl) ?_
  refine Eq.trans (zd_istore zh140 (ls' := [some (.ref a0), some (.int x1), some (.int x2), some (.int x3), some (.int f1)]) (Nat.le_of_ble_eq_true rfl) rfl rfl) ?_
  refine Eq.trans (zd_aload_n zh140 rfl rfl) ?_
  refine Eq.trans (zd_invVv zh140 zh94 rfl rfl ⟨Nat.le_of_ble_eq_true rfl, Nat.le_of_ble_eq_true rfl, Nat.le_of_ble_eq_true rfl, Nat.le_of_ble_eq_true rfl⟩ rfl h3 h4 rfl) ?_
  refine Eq.trans (zd_iload zh140 rfl rfl) ?_
  exact zd_iret zh140 rfl rfl
set_option maxRecDepth 20000 in
theorem b140_56 {scr : List Int32} {w : zAW} {a0 : Nat} {x1 : Int32} {x2 : Int32} {x3 : Int32} (h1 : zob w a0 6 = true) {f1 : Int32} {w1 : zAW} (h2 : zC scr 91 [.ref a0, .int x1, .int (nI 1)] w = some (some (.int f1), w1)) (h3 : zob w1 a0 6 = true) {f2 : Int32} {w2 : zAW} (h4 : zC scr 100 [.ref a0, .int x1, .int f1] w1 = some (some (.int f2), w2)) (h5 : zob w2 a0 6 = true) {w3 : zAW} (h6 : zC scr 94 [.ref a0] w2 = some (none, w3)) : zd scr 140 56 [some (.ref a0), some (.int x1), some (.int x2), some (.int x3), none] [] w = some (some (.int f2), w3) := by
  refine Eq.trans (zd_aload_n zh140 rfl rfl) ?_
  refine Eq.trans (zd_iload_n zh140 rfl rfl) ?_
  refine Eq.trans (zd_aload_n zh140 rfl rfl) ?_
  refine Eq.trans (zd_iload_n zh140 rfl rfl) ?_
  refine Eq.trans (zd_iconst zh140 (v := (nI 1)) rfl rfl) ?_
  refine Eq.trans (zd_invVi zh140 zh91 rfl rfl ⟨Nat.le_of_ble_eq_true rfl, Nat.le_of_ble_eq_true rfl, Nat.le_of_ble_eq_true rfl, Nat.le_of_ble_eq_true rfl⟩ rfl h1 h2 rfl) ?_
  refine Eq.trans (zd_invVi zh140 zh100 rfl rfl ⟨Nat.le_of_ble_eq_true rfl, Nat.le_of_ble_eq_true rfl, Nat.le_of_ble_eq_true rfl, Nat.le_of_ble_eq_true rfl⟩ rfl h3 h4 rfl) ?_
  refine Eq.trans (zd_istore zh140 (ls' := [some (.ref a0), some (.int x1), some (.int x2), some (.int x3), some (.int f2)]) (Nat.le_of_ble_eq_true rfl) rfl rfl) ?_
  refine Eq.trans (zd_aload_n zh140 rfl rfl) ?_
  refine Eq.trans (zd_invVv zh140 zh94 rfl rfl ⟨Nat.le_of_ble_eq_true rfl, Nat.le_of_ble_eq_true rfl, Nat.le_of_ble_eq_true rfl, Nat.le_of_ble_eq_true rfl⟩ rfl h5 h6 rfl) ?_
  refine Eq.trans (zd_iload zh140 rfl rfl) ?_
  exact zd_iret zh140 rfl rfl
/-! yX6_fairestRule: 141, MarbleHeirsModel.fairestRule()I -/
set_option maxRecDepth 20000 in
theorem b141_0 {scr : List Int32} {w : zAW} {a0 : Nat} (h1 : zob w a0 6 = true) {w1 : zAW} (h2 : zC scr 93 [.ref a0] w = some (none, w1)) : zd scr 141 0 [some (.ref a0), none, none, none, none, none] [] w = zd scr 141 11 [some (.ref a0), some (.int (-6)), some (.int (nI 0)), some (.int (nI 0)), none, none] [] w1 := by
  refine Eq.trans (zd_bipush zh141 (v := (-6)) rfl rfl) ?_
  refine Eq.trans (zd_istore_n zh141 (ls' := [some (.ref a0), some (.int (-6)), none, none, none, none]) (Nat.le_of_ble_eq_true rfl) rfl rfl) ?_
  refine Eq.trans (zd_iconst zh141 (v := (nI 0)) rfl rfl) ?_
  refine Eq.trans (zd_istore_n zh141 (ls' := [some (.ref a0), some (.int (-6)), some (.int (nI 0)), none, none, none]) (Nat.le_of_ble_eq_true rfl) rfl rfl) ?_
  refine Eq.trans (zd_aload_n zh141 rfl rfl) ?_
  refine Eq.trans (zd_invVv zh141 zh93 rfl rfl ⟨Nat.le_of_ble_eq_true rfl, Nat.le_of_ble_eq_true rfl, Nat.le_of_ble_eq_true rfl, Nat.le_of_ble_eq_true rfl⟩ rfl h1 h2 rfl) ?_
  refine Eq.trans (zd_iconst zh141 (v := (nI 0)) rfl rfl) ?_
  refine Eq.trans (zd_istore_n zh141 (ls' := [some (.ref a0), some (.int (-6)), some (.int (nI 0)), some (.int (nI 0)), none, none]) (Nat.le_of_ble_eq_true rfl) rfl rfl) ?_
  exact rfl
theorem b141_11 {scr : List Int32} {w : zAW} {a0 : Nat} {x1 : Int32} {x2 : Int32} {x3 : Int32} {v4 : Option Value} {v5 : Option Value}  : zd scr 141 11 [some (.ref a0), some (.int x1), some (.int x2), some (.int x3), v4, v5] [] w = if x3 < (nI 3) then zd scr 141 16 [some (.ref a0), some (.int x1), some (.int x2), some (.int x3), v4, v5] [] w else zd scr 141 88 [some (.ref a0), some (.int x1), some (.int x2), some (.int x3), v4, v5] [] w := by
  refine Eq.trans (zd_iload_n zh141 rfl rfl) ?_
  refine Eq.trans (zd_iconst zh141 (v := (nI 3)) rfl rfl) ?_
  exact zd_icmpge zh141 (t := 88) (by decide) rfl
theorem b141_16 {scr : List Int32} {w : zAW} {a0 : Nat} {x1 : Int32} {x2 : Int32} {x3 : Int32} {v4 : Option Value} {v5 : Option Value} {g1 : Nat} (h1 : zgf w a0 6 0 = some (.ref g1)) {f2 : Int32} (h2 : zal w g1 (nI 0) = some f2) : zd scr 141 16 [some (.ref a0), some (.int x1), some (.int x2), some (.int x3), v4, v5] [] w = if 0 < f2 then zd scr 141 25 [some (.ref a0), some (.int x1), some (.int x2), some (.int x3), v4, v5] [] w else zd scr 141 88 [some (.ref a0), some (.int x1), some (.int x2), some (.int x3), v4, v5] [] w := by
  refine Eq.trans (zd_aload_n zh141 rfl rfl) ?_
  refine Eq.trans (zd_getfield zh141 (ci := 6) (k := 0) rfl h1 rfl) ?_
  refine Eq.trans (zd_iconst zh141 (v := (nI 0)) rfl rfl) ?_
  refine Eq.trans (zd_iaload zh141 h2 rfl) ?_
  exact zd_ifle zh141 (t := 88) (by decide) rfl
theorem b141_88 {scr : List Int32} {w : zAW} {a0 : Nat} {x1 : Int32} {x2 : Int32} {x3 : Int32} {v4 : Option Value} {v5 : Option Value}  : zd scr 141 88 [some (.ref a0), some (.int x1), some (.int x2), some (.int x3), v4, v5] [] w = some (some (.int x1), w) := by
  refine Eq.trans (zd_iload_n zh141 rfl rfl) ?_
  exact zd_iret zh141 rfl rfl
set_option maxRecDepth 20000 in
theorem b141_25 {scr : List Int32} {w : zAW} {a0 : Nat} {x1 : Int32} {x2 : Int32} {x3 : Int32} {v4 : Option Value} {v5 : Option Value} {g1 : Nat} (h1 : zgf w a0 6 0 = some (.ref g1)) {w1 : zAW} (h2 : zas w g1 (nI 1) x3 = some w1) (h3 : zob w1 a0 6 = true) {f2 : Int32} {w2 : zAW} (h4 : zC scr 107 [.ref a0] w1 = some (some (.int f2), w2)) (h5 : zob w2 a0 6 = true) {f3 : Int32} {w3 : zAW} (h6 : zC scr 103 [.ref a0, .int (nI 1)] w2 = some (some (.int f3), w3)) : zd scr 141 25 [some (.ref a0), some (.int x1), some (.int x2), some (.int x3), v4, v5] [] w = if x3 = 0 then zd scr 141 55 [some (.ref a0), some (.int x1), some (.int x2), some (.int x3), some (.int f2), some (.int f3)] [] w3 else zd scr 141 49 [some (.ref a0), some (.int x1), some (.int x2), some (.int x3), some (.int f2), some (.int f3)] [] w3 := by
  refine Eq.trans (zd_aload_n zh141 rfl rfl) ?_
  refine Eq.trans (zd_getfield zh141 (ci := 6) (k := 0) rfl h1 rfl) ?_
  refine Eq.trans (zd_iconst zh141 (v := (nI 1)) rfl rfl) ?_
  refine Eq.trans (zd_iload_n zh141 rfl rfl) ?_
  refine Eq.trans (zd_iastore zh141 h2 rfl) ?_
  refine Eq.trans (zd_aload_n zh141 rfl rfl) ?_
  refine Eq.trans (zd_invVi zh141 zh107 rfl rfl ⟨Nat.le_of_ble_eq_true rfl, Nat.le_of_ble_eq_true rfl, Nat.le_of_ble_eq_true rfl, Nat.le_of_ble_eq_true rfl⟩ rfl h3 h4 rfl) ?_
  refine Eq.trans (zd_istore zh141 (ls' := [some (.ref a0), some (.int x1), some (.int x2), some (.int x3), some (.int f2), v5]) (Nat.le_of_ble_eq_true rfl) rfl rfl) ?_
  refine Eq.trans (zd_aload_n zh141 rfl rfl) ?_
  refine Eq.trans (zd_iconst zh141 (v := (nI 1)) rfl rfl) ?_
  refine Eq.trans (zd_invVi zh141 zh103 rfl rfl ⟨Nat.le_of_ble_eq_true rfl, Nat.le_of_ble_eq_true rfl, Nat.le_of_ble_eq_true rfl, Nat.le_of_ble_eq_true rfl⟩ rfl h5 h6 rfl) ?_
  refine Eq.trans (zd_istore zh141 (ls' := [some (.ref a0), some (.int x1), some (.int x2), some (.int x3), some (.int f2), some (.int f3)]) (Nat.le_of_ble_eq_true rfl) rfl rfl) ?_
  refine Eq.trans (zd_iload_n zh141 rfl rfl) ?_
  exact zd_ifeq zh141 (t := 55) (by decide) rfl
theorem b141_55 {scr : List Int32} {w : zAW} {a0 : Nat} {x1 : Int32} {x2 : Int32} {x3 : Int32} {x4 : Int32} {x5 : Int32}  : zd scr 141 55 [some (.ref a0), some (.int x1), some (.int x2), some (.int x3), some (.int x4), some (.int x5)] [] w = if x3 = 0 then zd scr 141 71 [some (.ref a0), some (.int x3), some (.int x2), some (.int x3), some (.int x4), some (.int x5)] [] w else zd scr 141 65 [some (.ref a0), some (.int x3), some (.int x2), some (.int x3), some (.int x4), some (.int x5)] [] w := by
  refine Eq.trans (zd_iload_n zh141 rfl rfl) ?_
  refine Eq.trans (zd_goto zh141 (t := 60) (by decide) rfl) ?_
  refine Eq.trans (zd_istore_n zh141 (ls' := [some (.ref a0), some (.int x3), some (.int x2), some (.int x3), some (.int x4), some (.int x5)]) (Nat.le_of_ble_eq_true rfl) rfl rfl) ?_
  refine Eq.trans (zd_iload_n zh141 rfl rfl) ?_
  exact zd_ifeq zh141 (t := 71) (by decide) rfl
theorem b141_49 {scr : List Int32} {w : zAW} {a0 : Nat} {x1 : Int32} {x2 : Int32} {x3 : Int32} {x4 : Int32} {x5 : Int32}  : zd scr 141 49 [some (.ref a0), some (.int x1), some (.int x2), some (.int x3), some (.int x4), some (.int x5)] [] w = if x5 < x2 then zd scr 141 55 [some (.ref a0), some (.int x1), some (.int x2), some (.int x3), some (.int x4), some (.int x5)] [] w else zd scr 141 59 [some (.ref a0), some (.int x1), some (.int x2), some (.int x3), some (.int x4), some (.int x5)] [] w := by
  refine Eq.trans (zd_iload zh141 rfl rfl) ?_
  refine Eq.trans (zd_iload_n zh141 rfl rfl) ?_
  exact zd_icmpge zh141 (t := 59) (by decide) rfl
set_option maxRecDepth 20000 in
theorem b141_71 {scr : List Int32} {w : zAW} {a0 : Nat} {x1 : Int32} {x2 : Int32} {x3 : Int32} {x4 : Int32} {x5 : Int32} (h1 : zob w a0 6 = true) {w1 : zAW} (h2 : zC scr 94 [.ref a0] w = some (none, w1)) : zd scr 141 71 [some (.ref a0), some (.int x1), some (.int x2), some (.int x3), some (.int x4), some (.int x5)] [] w = zd scr 141 11 [some (.ref a0), some (.int x1), some (.int x5), some (.int (x3 + (nI 1))), some (.int x4), some (.int x5)] [] w1 := by
  refine Eq.trans (zd_iload zh141 rfl rfl) ?_
  refine Eq.trans (zd_goto zh141 (t := 77) (by decide) rfl) ?_
  refine Eq.trans (zd_istore_n zh141 (ls' := [some (.ref a0), some (.int x1), some (.int x5), some (.int x3), some (.int x4), some (.int x5)]) (Nat.le_of_ble_eq_true rfl) rfl rfl) ?_
  refine Eq.trans (zd_aload_n zh141 rfl rfl) ?_
  refine Eq.trans (zd_invVv zh141 zh94 rfl rfl ⟨Nat.le_of_ble_eq_true rfl, Nat.le_of_ble_eq_true rfl, Nat.le_of_ble_eq_true rfl, Nat.le_of_ble_eq_true rfl⟩ rfl h1 h2 rfl) ?_
  refine Eq.trans (zd_iinc zh141 (ls' := [some (.ref a0), some (.int x1), some (.int x5), some (.int (x3 + (nI 1))), some (.int x4), some (.int x5)]) (v := (x3 + (nI 1))) rfl rfl rfl rfl) ?_
  refine Eq.trans (zd_goto zh141 (t := 11) (by decide) rfl) ?_
  exact rfl
theorem b141_65 {scr : List Int32} {w : zAW} {a0 : Nat} {x1 : Int32} {x2 : Int32} {x3 : Int32} {x4 : Int32} {x5 : Int32}  : zd scr 141 65 [some (.ref a0), some (.int x1), some (.int x2), some (.int x3), some (.int x4), some (.int x5)] [] w = if x5 < x2 then zd scr 141 71 [some (.ref a0), some (.int x1), some (.int x2), some (.int x3), some (.int x4), some (.int x5)] [] w else zd scr 141 76 [some (.ref a0), some (.int x1), some (.int x2), some (.int x3), some (.int x4), some (.int x5)] [] w := by
  refine Eq.trans (zd_iload zh141 rfl rfl) ?_
  refine Eq.trans (zd_iload_n zh141 rfl rfl) ?_
  exact zd_icmpge zh141 (t := 76) (by decide) rfl
theorem b141_59 {scr : List Int32} {w : zAW} {a0 : Nat} {x1 : Int32} {x2 : Int32} {x3 : Int32} {x4 : Int32} {x5 : Int32}  : zd scr 141 59 [some (.ref a0), some (.int x1), some (.int x2), some (.int x3), some (.int x4), some (.int x5)] [] w = if x3 = 0 then zd scr 141 71 [some (.ref a0), some (.int x1), some (.int x2), some (.int x3), some (.int x4), some (.int x5)] [] w else zd scr 141 65 [some (.ref a0), some (.int x1), some (.int x2), some (.int x3), some (.int x4), some (.int x5)] [] w := by
  refine Eq.trans (zd_iload_n zh141 rfl rfl) ?_
  refine Eq.trans (zd_istore_n zh141 (ls' := [some (.ref a0), some (.int x1), some (.int x2), some (.int x3), some (.int x4), some (.int x5)]) (Nat.le_of_ble_eq_true rfl) rfl rfl) ?_
  refine Eq.trans (zd_iload_n zh141 rfl rfl) ?_
  exact zd_ifeq zh141 (t := 71) (by decide) rfl
set_option maxRecDepth 20000 in
theorem b141_76 {scr : List Int32} {w : zAW} {a0 : Nat} {x1 : Int32} {x2 : Int32} {x3 : Int32} {x4 : Int32} {x5 : Int32} (h1 : zob w a0 6 = true) {w1 : zAW} (h2 : zC scr 94 [.ref a0] w = some (none, w1)) : zd scr 141 76 [some (.ref a0), some (.int x1), some (.int x2), some (.int x3), some (.int x4), some (.int x5)] [] w = zd scr 141 11 [some (.ref a0), some (.int x1), some (.int x2), some (.int (x3 + (nI 1))), some (.int x4), some (.int x5)] [] w1 := by
  refine Eq.trans (zd_iload_n zh141 rfl rfl) ?_
  refine Eq.trans (zd_istore_n zh141 (ls' := [some (.ref a0), some (.int x1), some (.int x2), some (.int x3), some (.int x4), some (.int x5)]) (Nat.le_of_ble_eq_true rfl) rfl rfl) ?_
  refine Eq.trans (zd_aload_n zh141 rfl rfl) ?_
  refine Eq.trans (zd_invVv zh141 zh94 rfl rfl ⟨Nat.le_of_ble_eq_true rfl, Nat.le_of_ble_eq_true rfl, Nat.le_of_ble_eq_true rfl, Nat.le_of_ble_eq_true rfl⟩ rfl h1 h2 rfl) ?_
  refine Eq.trans (zd_iinc zh141 (ls' := [some (.ref a0), some (.int x1), some (.int x2), some (.int (x3 + (nI 1))), some (.int x4), some (.int x5)]) (v := (x3 + (nI 1))) rfl rfl rfl rfl) ?_
  refine Eq.trans (zd_goto zh141 (t := 11) (by decide) rfl) ?_
  exact rfl
/-! yX6_whoVetoes: 142, MarbleHeirsModel.whoVetoes(IIII)I -/
set_option maxRecDepth 20000 in
theorem b142_0 {scr : List Int32} {w : zAW} {a0 : Nat} {x1 : Int32} {x2 : Int32} {x3 : Int32} {x4 : Int32} (h1 : zob w a0 6 = true) {f1 : Int32} {w1 : zAW} (h2 : zC scr 129 [.ref a0, .int x1, .int x2, .int x3, .int x4] w = some (some (.int f1), w1)) : zd scr 142 0 [some (.ref a0), some (.int x1), some (.int x2), some (.int x3), some (.int x4), none] [] w = if f1 < 0 then zd scr 142 16 [some (.ref a0), some (.int x1), some (.int x2), some (.int x3), some (.int x4), some (.int f1)] [] w1 else zd scr 142 21 [some (.ref a0), some (.int x1), some (.int x2), some (.int x3), some (.int x4), some (.int f1)] [] w1 := by
  refine Eq.trans (zd_aload_n zh142 rfl rfl) ?_
  refine Eq.trans (zd_iload_n zh142 rfl rfl) ?_
  refine Eq.trans (zd_iload_n zh142 rfl rfl) ?_
  refine Eq.trans (zd_iload_n zh142 rfl rfl) ?_
  refine Eq.trans (zd_iload zh142 rfl rfl) ?_
  refine Eq.trans (zd_invVi zh142 zh129 rfl rfl ⟨Nat.le_of_ble_eq_true rfl, Nat.le_of_ble_eq_true rfl, Nat.le_of_ble_eq_true rfl, Nat.le_of_ble_eq_true rfl⟩ rfl h1 h2 rfl) ?_
  refine Eq.trans (zd_istore zh142 (ls' := [some (.ref a0), some (.int x1), some (.int x2), some (.int x3), some (.int x4), some (.int f1)]) (Nat.le_of_ble_eq_true rfl) rfl rfl) ?_
  refine Eq.trans (zd_iload zh142 rfl rfl) ?_
  exact zd_ifge zh142 (t := 21) (by decide) rfl
theorem b142_16 {scr : List Int32} {w : zAW} {a0 : Nat} {x1 : Int32} {x2 : Int32} {x3 : Int32} {x4 : Int32} {x5 : Int32}  : zd scr 142 16 [some (.ref a0), some (.int x1), some (.int x2), some (.int x3), some (.int x4), some (.int x5)] [] w = some (some (.int x5), w) := by
  refine Eq.trans (zd_iload zh142 rfl rfl) ?_
  refine Eq.trans (zd_goto zh142 (t := 38) (by decide) rfl) ?_
  exact zd_iret zh142 rfl rfl
set_option maxRecDepth 20000 in
theorem b142_21 {scr : List Int32} {w : zAW} {a0 : Nat} {x1 : Int32} {x2 : Int32} {x3 : Int32} {x4 : Int32} {x5 : Int32} (h1 : zob w a0 6 = true) {f1 : Int32} {w1 : zAW} (h2 : zC scr 101 [.ref a0, .int x1, .int x2] w = some (some (.int f1), w1)) (h3 : zob w1 a0 6 = true) {f2 : Int32} {w2 : zAW} (h4 : zC scr 101 [.ref a0, .int x3, .int x4] w1 = some (some (.int f2), w2)) (h5 : zob w2 a0 6 = true) {f3 : Int32} {w3 : zAW} (h6 : zC scr 108 [.ref a0, .int f1, .int f2] w2 = some (some (.int f3), w3)) : zd scr 142 21 [some (.ref a0), some (.int x1), some (.int x2), some (.int x3), some (.int x4), some (.int x5)] [] w = some (some (.int f3), w3) := by
  refine Eq.trans (zd_aload_n zh142 rfl rfl) ?_
  refine Eq.trans (zd_aload_n zh142 rfl rfl) ?_
  refine Eq.trans (zd_iload_n zh142 rfl rfl) ?_
  refine Eq.trans (zd_iload_n zh142 rfl rfl) ?_
  refine Eq.trans (zd_invVi zh142 zh101 rfl rfl ⟨Nat.le_of_ble_eq_true rfl, Nat.le_of_ble_eq_true rfl, Nat.le_of_ble_eq_true rfl, Nat.le_of_ble_eq_true rfl⟩ rfl h1 h2 rfl) ?_
  refine Eq.trans (zd_aload_n zh142 rfl rfl) ?_
  refine Eq.trans (zd_iload_n zh142 rfl rfl) ?_
  refine Eq.trans (zd_iload zh142 rfl rfl) ?_
  refine Eq.trans (zd_invVi zh142 zh101 rfl rfl ⟨Nat.le_of_ble_eq_true rfl, Nat.le_of_ble_eq_true rfl, Nat.le_of_ble_eq_true rfl, Nat.le_of_ble_eq_true rfl⟩ rfl h3 h4 rfl) ?_
  refine Eq.trans (zd_invVi zh142 zh108 rfl rfl ⟨Nat.le_of_ble_eq_true rfl, Nat.le_of_ble_eq_true rfl, Nat.le_of_ble_eq_true rfl, Nat.le_of_ble_eq_true rfl⟩ rfl h5 h6 rfl) ?_
  exact zd_iret zh142 rfl rfl
/-! yX6_bestSwap: 143, MarbleHeirsModel.bestSwap(I)I -/
set_option maxRecDepth 20000 in
theorem b143_0 {scr : List Int32} {w : zAW} {a0 : Nat} {x1 : Int32} {f1 : Int32} {w1 : zAW} (h1 : zC scr 87 [.int x1, .int (nI 0), .int (nI 4)] w = some (some (.int f1), w1)) : zd scr 143 0 [some (.ref a0), some (.int x1)] [] w = if f1 = 0 then zd scr 143 9 [some (.ref a0), some (.int x1)] [] w1 else zd scr 143 12 [some (.ref a0), some (.int x1)] [] w1 := by
  refine Eq.trans (zd_iload_n zh143 rfl rfl) ?_
  refine Eq.trans (zd_iconst zh143 (v := (nI 0)) rfl rfl) ?_
  refine Eq.trans (zd_iconst zh143 (v := (nI 4)) rfl rfl) ?_
  refine Eq.trans (zd_invSi zh143 zh87 rfl rfl ⟨Nat.le_of_ble_eq_true rfl, Nat.le_of_ble_eq_true rfl, Nat.le_of_ble_eq_true rfl, Nat.le_of_ble_eq_true rfl, Nat.le_of_ble_eq_true rfl⟩ rfl h1 rfl) ?_
  exact zd_ifne zh143 (t := 12) (by decide) rfl
theorem b143_9 {scr : List Int32} {w : zAW} {a0 : Nat} {x1 : Int32}  : zd scr 143 9 [some (.ref a0), some (.int x1)] [] w = some (some (.int (-2)), w) := by
  refine Eq.trans (zd_bipush zh143 (v := (-2)) rfl rfl) ?_
  exact zd_iret zh143 rfl rfl
set_option maxRecDepth 20000 in
theorem b143_12 {scr : List Int32} {w : zAW} {a0 : Nat} {x1 : Int32} (h1 : zob w a0 6 = true) {w1 : zAW} (h2 : zC scr 114 [.ref a0] w = some (none, w1)) {g1 : Nat} (h3 : zgf w1 a0 6 8 = some (.ref g1)) {f2 : Int32} (h4 : zal w1 g1 x1 = some f2) : zd scr 143 12 [some (.ref a0), some (.int x1)] [] w = some (some (.int f2), w1) := by
  refine Eq.trans (zd_aload_n zh143 rfl rfl) ?_
  refine Eq.trans (zd_invVv zh143 zh114 rfl rfl ⟨Nat.le_of_ble_eq_true rfl, Nat.le_of_ble_eq_true rfl, Nat.le_of_ble_eq_true rfl, Nat.le_of_ble_eq_true rfl⟩ rfl h1 h2 rfl) ?_
  refine Eq.trans (zd_aload_n zh143 rfl rfl) ?_
  refine Eq.trans (zd_getfield zh143 (ci := 6) (k := 8) rfl h3 rfl) ?_
  refine Eq.trans (zd_iload_n zh143 rfl rfl) ?_
  refine Eq.trans (zd_iaload zh143 h4 rfl) ?_
  exact zd_iret zh143 rfl rfl
/-! yX6_append: 144, MarbleHeirsModel.append(I)I -/
set_option maxRecDepth 20000 in
theorem b144_0 {scr : List Int32} {w : zAW} {a0 : Nat} {x1 : Int32} {f1 : Int32} {w1 : zAW} (h1 : zC scr 87 [.int x1, .int (nI 33), .int (nI 126)] w = some (some (.int f1), w1)) : zd scr 144 0 [some (.ref a0), some (.int x1)] [] w = if f1 = 0 then zd scr 144 11 [some (.ref a0), some (.int x1)] [] w1 else zd scr 144 14 [some (.ref a0), some (.int x1)] [] w1 := by
  refine Eq.trans (zd_iload_n zh144 rfl rfl) ?_
  refine Eq.trans (zd_bipush zh144 (v := (nI 33)) rfl rfl) ?_
  refine Eq.trans (zd_bipush zh144 (v := (nI 126)) rfl rfl) ?_
  refine Eq.trans (zd_invSi zh144 zh87 rfl rfl ⟨Nat.le_of_ble_eq_true rfl, Nat.le_of_ble_eq_true rfl, Nat.le_of_ble_eq_true rfl, Nat.le_of_ble_eq_true rfl, Nat.le_of_ble_eq_true rfl⟩ rfl h1 rfl) ?_
  exact zd_ifne zh144 (t := 14) (by decide) rfl
theorem b144_11 {scr : List Int32} {w : zAW} {a0 : Nat} {x1 : Int32}  : zd scr 144 11 [some (.ref a0), some (.int x1)] [] w = some (some (.int (-2)), w) := by
  refine Eq.trans (zd_bipush zh144 (v := (-2)) rfl rfl) ?_
  exact zd_iret zh144 rfl rfl
theorem b144_14 {scr : List Int32} {w : zAW} {a0 : Nat} {x1 : Int32} {f1 : Int32} (h1 : zgf w a0 6 7 = some (.int f1)) : zd scr 144 14 [some (.ref a0), some (.int x1)] [] w = if f1 = (nI 50) then zd scr 144 23 [some (.ref a0), some (.int x1)] [] w else zd scr 144 26 [some (.ref a0), some (.int x1)] [] w := by
  refine Eq.trans (zd_aload_n zh144 rfl rfl) ?_
  refine Eq.trans (zd_getfield zh144 (ci := 6) (k := 7) rfl h1 rfl) ?_
  refine Eq.trans (zd_bipush zh144 (v := (nI 50)) rfl rfl) ?_
  exact zd_icmpne zh144 (t := 26) (by decide) rfl
theorem b144_23 {scr : List Int32} {w : zAW} {a0 : Nat} {x1 : Int32}  : zd scr 144 23 [some (.ref a0), some (.int x1)] [] w = some (some (.int (-4)), w) := by
  refine Eq.trans (zd_bipush zh144 (v := (-4)) rfl rfl) ?_
  exact zd_iret zh144 rfl rfl
theorem b144_26 {scr : List Int32} {w : zAW} {a0 : Nat} {x1 : Int32} {g1 : Nat} (h1 : zgf w a0 6 6 = some (.ref g1)) {f2 : Int32} (h2 : zgf w a0 6 7 = some (.int f2)) {w1 : zAW} (h3 : zas w g1 f2 x1 = some w1) {f3 : Int32} (h4 : zgf w1 a0 6 7 = some (.int f3)) {w2 : zAW} (h5 : zpf w1 a0 6 7 (.int (f3 + (nI 1))) = some w2) {f4 : Int32} (h6 : zgf w2 a0 6 7 = some (.int f4)) : zd scr 144 26 [some (.ref a0), some (.int x1)] [] w = some (some (.int f4), w2) := by
  refine Eq.trans (zd_aload_n zh144 rfl rfl) ?_
  refine Eq.trans (zd_getfield zh144 (ci := 6) (k := 6) rfl h1 rfl) ?_
  refine Eq.trans (zd_aload_n zh144 rfl rfl) ?_
  refine Eq.trans (zd_getfield zh144 (ci := 6) (k := 7) rfl h2 rfl) ?_
  refine Eq.trans (zd_iload_n zh144 rfl rfl) ?_
  refine Eq.trans (zd_iastore zh144 h3 rfl) ?_
  refine Eq.trans (zd_aload_n zh144 rfl rfl) ?_
  refine Eq.trans (zd_dup zh144 rfl) ?_
  refine Eq.trans (zd_getfield zh144 (ci := 6) (k := 7) rfl h4 rfl) ?_
  refine Eq.trans (zd_iconst zh144 (v := (nI 1)) rfl rfl) ?_
  refine Eq.trans (zd_iadd zh144 rfl) ?_
  refine Eq.trans (zd_putfield zh144 (ci := 6) (k := 7) rfl rfl h5 rfl) ?_
  refine Eq.trans (zd_aload_n zh144 rfl rfl) ?_
  refine Eq.trans (zd_getfield zh144 (ci := 6) (k := 7) rfl h6 rfl) ?_
  exact zd_iret zh144 rfl rfl
/-! yX6_clearText: 145, MarbleHeirsModel.clearText()I -/
theorem b145_0 {scr : List Int32} {w : zAW} {a0 : Nat} {f1 : Int32} (h1 : zgf w a0 6 7 = some (.int f1)) {w1 : zAW} (h2 : zpf w a0 6 7 (.int (nI 0)) = some w1) : zd scr 145 0 [some (.ref a0), none] [] w = some (some (.int f1), w1) := by
  refine Eq.trans (zd_aload_n zh145 rfl rfl) ?_
  refine Eq.trans (zd_getfield zh145 (ci := 6) (k := 7) rfl h1 rfl) ?_
  refine Eq.trans (zd_istore_n zh145 (ls' := [some (.ref a0), some (.int f1)]) (Nat.le_of_ble_eq_true rfl) rfl rfl) ?_
  refine Eq.trans (zd_aload_n zh145 rfl rfl) ?_
  refine Eq.trans (zd_iconst zh145 (v := (nI 0)) rfl rfl) ?_
  refine Eq.trans (zd_putfield zh145 (ci := 6) (k := 7) rfl rfl h2 rfl) ?_
  refine Eq.trans (zd_iload_n zh145 rfl rfl) ?_
  exact zd_iret zh145 rfl rfl
/-! yX6_colourFor: 146, MarbleHeirsModel.colourFor(I)I -/
theorem b146_0_c98 {scr : List Int32} {w : zAW} {x0 : Int32}  (hx : x0 = (nI 98)) : zd scr 146 0 [some (.int x0)] [] w = zd scr 146 64 [some (.int x0)] [] w := by
  refine Eq.trans (zd_iload_n zh146 rfl rfl) ?_
  exact zd_look zh146 (off := 63) (by decide) (by rw [hx]; rfl) (by decide) rfl
theorem b146_0_c103 {scr : List Int32} {w : zAW} {x0 : Int32}  (hx : x0 = (nI 103)) : zd scr 146 0 [some (.int x0)] [] w = zd scr 146 62 [some (.int x0)] [] w := by
  refine Eq.trans (zd_iload_n zh146 rfl rfl) ?_
  exact zd_look zh146 (off := 61) (by decide) (by rw [hx]; rfl) (by decide) rfl
theorem b146_0_c107 {scr : List Int32} {w : zAW} {x0 : Int32}  (hx : x0 = (nI 107)) : zd scr 146 0 [some (.int x0)] [] w = zd scr 146 70 [some (.int x0)] [] w := by
  refine Eq.trans (zd_iload_n zh146 rfl rfl) ?_
  exact zd_look zh146 (off := 69) (by decide) (by rw [hx]; rfl) (by decide) rfl
theorem b146_0_c114 {scr : List Int32} {w : zAW} {x0 : Int32}  (hx : x0 = (nI 114)) : zd scr 146 0 [some (.int x0)] [] w = zd scr 146 60 [some (.int x0)] [] w := by
  refine Eq.trans (zd_iload_n zh146 rfl rfl) ?_
  exact zd_look zh146 (off := 59) (by decide) (by rw [hx]; rfl) (by decide) rfl
theorem b146_0_c119 {scr : List Int32} {w : zAW} {x0 : Int32}  (hx : x0 = (nI 119)) : zd scr 146 0 [some (.int x0)] [] w = zd scr 146 68 [some (.int x0)] [] w := by
  refine Eq.trans (zd_iload_n zh146 rfl rfl) ?_
  exact zd_look zh146 (off := 67) (by decide) (by rw [hx]; rfl) (by decide) rfl
theorem b146_0_c121 {scr : List Int32} {w : zAW} {x0 : Int32}  (hx : x0 = (nI 121)) : zd scr 146 0 [some (.int x0)] [] w = zd scr 146 66 [some (.int x0)] [] w := by
  refine Eq.trans (zd_iload_n zh146 rfl rfl) ?_
  exact zd_look zh146 (off := 65) (by decide) (by rw [hx]; rfl) (by decide) rfl
theorem b146_0_d {scr : List Int32} {w : zAW} {x0 : Int32}  (hx98 : ¬ x0 = (nI 98)) (hx103 : ¬ x0 = (nI 103)) (hx107 : ¬ x0 = (nI 107)) (hx114 : ¬ x0 = (nI 114)) (hx119 : ¬ x0 = (nI 119)) (hx121 : ¬ x0 = (nI 121)) : zd scr 146 0 [some (.int x0)] [] w = zd scr 146 72 [some (.int x0)] [] w := by
  refine Eq.trans (zd_iload_n zh146 rfl rfl) ?_
  exact zd_look zh146 (off := 71) (by decide) (by rw [lv_osw hx98 (by decide)]; rw [lv_osw hx103 (by decide)]; rw [lv_osw hx107 (by decide)]; rw [lv_osw hx114 (by decide)]; rw [lv_osw hx119 (by decide)]; rw [lv_osw hx121 (by decide)]; rfl) (by decide) rfl
theorem b146_64 {scr : List Int32} {w : zAW} {x0 : Int32}  : zd scr 146 64 [some (.int x0)] [] w = some (some (.int (nI 2)), w) := by
  refine Eq.trans (zd_iconst zh146 (v := (nI 2)) rfl rfl) ?_
  exact zd_iret zh146 rfl rfl
theorem b146_62 {scr : List Int32} {w : zAW} {x0 : Int32}  : zd scr 146 62 [some (.int x0)] [] w = some (some (.int (nI 1)), w) := by
  refine Eq.trans (zd_iconst zh146 (v := (nI 1)) rfl rfl) ?_
  exact zd_iret zh146 rfl rfl
theorem b146_70 {scr : List Int32} {w : zAW} {x0 : Int32}  : zd scr 146 70 [some (.int x0)] [] w = some (some (.int (nI 5)), w) := by
  refine Eq.trans (zd_iconst zh146 (v := (nI 5)) rfl rfl) ?_
  exact zd_iret zh146 rfl rfl
theorem b146_60 {scr : List Int32} {w : zAW} {x0 : Int32}  : zd scr 146 60 [some (.int x0)] [] w = some (some (.int (nI 0)), w) := by
  refine Eq.trans (zd_iconst zh146 (v := (nI 0)) rfl rfl) ?_
  exact zd_iret zh146 rfl rfl
theorem b146_68 {scr : List Int32} {w : zAW} {x0 : Int32}  : zd scr 146 68 [some (.int x0)] [] w = some (some (.int (nI 4)), w) := by
  refine Eq.trans (zd_iconst zh146 (v := (nI 4)) rfl rfl) ?_
  exact zd_iret zh146 rfl rfl
theorem b146_66 {scr : List Int32} {w : zAW} {x0 : Int32}  : zd scr 146 66 [some (.int x0)] [] w = some (some (.int (nI 3)), w) := by
  refine Eq.trans (zd_iconst zh146 (v := (nI 3)) rfl rfl) ?_
  exact zd_iret zh146 rfl rfl
theorem b146_72 {scr : List Int32} {w : zAW} {x0 : Int32}  : zd scr 146 72 [some (.int x0)] [] w = some (some (.int (-6)), w) := by
  refine Eq.trans (zd_bipush zh146 (v := (-6)) rfl rfl) ?_
  exact zd_iret zh146 rfl rfl
/-! yX6_next: 147, MarbleHeirsModel.next(I)I -/
theorem b147_0 {scr : List Int32} {w : zAW} {a0 : Nat} {x1 : Int32} {f1 : Int32} (h1 : zgf w a0 6 7 = some (.int f1)) : zd scr 147 0 [some (.ref a0), some (.int x1)] [] w = if x1 < f1 then zd scr 147 8 [some (.ref a0), some (.int x1)] [] w else zd scr 147 17 [some (.ref a0), some (.int x1)] [] w := by
  refine Eq.trans (zd_iload_n zh147 rfl rfl) ?_
  refine Eq.trans (zd_aload_n zh147 rfl rfl) ?_
  refine Eq.trans (zd_getfield zh147 (ci := 6) (k := 7) rfl h1 rfl) ?_
  exact zd_icmpge zh147 (t := 17) (by decide) rfl
theorem b147_8 {scr : List Int32} {w : zAW} {a0 : Nat} {x1 : Int32} {g1 : Nat} (h1 : zgf w a0 6 6 = some (.ref g1)) {f2 : Int32} (h2 : zal w g1 x1 = some f2) : zd scr 147 8 [some (.ref a0), some (.int x1)] [] w = some (some (.int f2), w) := by
  refine Eq.trans (zd_aload_n zh147 rfl rfl) ?_
  refine Eq.trans (zd_getfield zh147 (ci := 6) (k := 6) rfl h1 rfl) ?_
  refine Eq.trans (zd_iload_n zh147 rfl rfl) ?_
  refine Eq.trans (zd_iaload zh147 h2 rfl) ?_
  refine Eq.trans (zd_goto zh147 (t := 18) (by decide) rfl) ?_
  exact zd_iret zh147 rfl rfl
theorem b147_17 {scr : List Int32} {w : zAW} {a0 : Nat} {x1 : Int32}  : zd scr 147 17 [some (.ref a0), some (.int x1)] [] w = some (some (.int (nI 0)), w) := by
  refine Eq.trans (zd_iconst zh147 (v := (nI 0)) rfl rfl) ?_
  exact zd_iret zh147 rfl rfl
/-! yX6_goes: 148, MarbleHeirsModel.goes(Z)I -/
theorem b148_0 {scr : List Int32} {w : zAW} {a0 : Nat} {x1 : Int32} {w1 : zAW} (h1 : zpf w a0 6 9 (.int (nI 0)) = some w1) : zd scr 148 0 [some (.ref a0), some (.int x1), none, none, none, none] [] w = zd scr 148 7 [some (.ref a0), some (.int x1), some (.int (nI 0)), none, none, none] [] w1 := by
  refine Eq.trans (zd_iconst zh148 (v := (nI 0)) rfl rfl) ?_
  refine Eq.trans (zd_istore_n zh148 (ls' := [some (.ref a0), some (.int x1), some (.int (nI 0)), none, none, none]) (Nat.le_of_ble_eq_true rfl) rfl rfl) ?_
  refine Eq.trans (zd_aload_n zh148 rfl rfl) ?_
  refine Eq.trans (zd_iconst zh148 (v := (nI 0)) rfl rfl) ?_
  refine Eq.trans (zd_putfield zh148 (ci := 6) (k := 9) rfl rfl h1 rfl) ?_
  exact rfl
theorem b148_7 {scr : List Int32} {w : zAW} {a0 : Nat} {x1 : Int32} {x2 : Int32} {v3 : Option Value} {v4 : Option Value} {v5 : Option Value} {f1 : Int32} (h1 : zgf w a0 6 7 = some (.int f1)) : zd scr 148 7 [some (.ref a0), some (.int x1), some (.int x2), v3, v4, v5] [] w = if x2 < f1 then zd scr 148 19 [some (.ref a0), some (.int x1), some (.int x2), v3, v4, v5] [] w else zd scr 148 15 [some (.ref a0), some (.int x1), some (.int x2), v3, v4, v5] [] w := by
  refine Eq.trans (zd_iload_n zh148 rfl rfl) ?_
  refine Eq.trans (zd_aload_n zh148 rfl rfl) ?_
  refine Eq.trans (zd_getfield zh148 (ci := 6) (k := 7) rfl h1 rfl) ?_
  exact zd_icmplt zh148 (t := 19) (by decide) rfl
theorem b148_113 {scr : List Int32} {w : zAW} {a0 : Nat} {x1 : Int32} {x2 : Int32} {x3 : Int32} {x4 : Int32} {x5 : Int32}  : zd scr 148 113 [some (.ref a0), some (.int x1), some (.int x2), some (.int x3), some (.int x4), some (.int x5)] [] w = if x5 < x3 then zd scr 148 119 [some (.ref a0), some (.int x1), some (.int x2), some (.int x3), some (.int x4), some (.int x5)] [] w else zd scr 148 145 [some (.ref a0), some (.int x1), some (.int x2), some (.int x3), some (.int x4), some (.int x5)] [] w := by
  refine Eq.trans (zd_iload zh148 rfl rfl) ?_
  refine Eq.trans (zd_iload_n zh148 rfl rfl) ?_
  exact zd_icmpge zh148 (t := 145) (by decide) rfl
set_option maxRecDepth 20000 in
theorem b148_19 {scr : List Int32} {w : zAW} {a0 : Nat} {x1 : Int32} {x2 : Int32} {v3 : Option Value} {v4 : Option Value} {v5 : Option Value} (h1 : zob w a0 6 = true) {f1 : Int32} {w1 : zAW} (h2 : zC scr 147 [.ref a0, .int x2] w = some (some (.int f1), w1)) {f2 : Int32} {w2 : zAW} (h3 : zC scr 87 [.int f1, .int (nI 49), .int (nI 57)] w1 = some (some (.int f2), w2)) : zd scr 148 19 [some (.ref a0), some (.int x1), some (.int x2), v3, v4, v5] [] w = if f2 = 0 then zd scr 148 45 [some (.ref a0), some (.int x1), some (.int x2), v3, v4, v5] [] w2 else zd scr 148 34 [some (.ref a0), some (.int x1), some (.int x2), v3, v4, v5] [] w2 := by
  refine Eq.trans (zd_aload_n zh148 rfl rfl) ?_
  refine Eq.trans (zd_iload_n zh148 rfl rfl) ?_
  refine Eq.trans (zd_invVi zh148 zh147 rfl rfl ⟨Nat.le_of_ble_eq_true rfl, Nat.le_of_ble_eq_true rfl, Nat.le_of_ble_eq_true rfl, Nat.le_of_ble_eq_true rfl⟩ rfl h1 h2 rfl) ?_
  refine Eq.trans (zd_bipush zh148 (v := (nI 49)) rfl rfl) ?_
  refine Eq.trans (zd_bipush zh148 (v := (nI 57)) rfl rfl) ?_
  refine Eq.trans (zd_invSi zh148 zh87 rfl rfl ⟨Nat.le_of_ble_eq_true rfl, Nat.le_of_ble_eq_true rfl, Nat.le_of_ble_eq_true rfl, Nat.le_of_ble_eq_true rfl, Nat.le_of_ble_eq_true rfl⟩ rfl h3 rfl) ?_
  exact zd_ifeq zh148 (t := 45) (by decide) rfl
theorem b148_15 {scr : List Int32} {w : zAW} {a0 : Nat} {x1 : Int32} {x2 : Int32} {v3 : Option Value} {v4 : Option Value} {v5 : Option Value}  : zd scr 148 15 [some (.ref a0), some (.int x1), some (.int x2), v3, v4, v5] [] w = if x2 = 0 then zd scr 148 19 [some (.ref a0), some (.int x1), some (.int x2), v3, v4, v5] [] w else zd scr 148 161 [some (.ref a0), some (.int x1), some (.int x2), v3, v4, v5] [] w := by
  refine Eq.trans (zd_iload_n zh148 rfl rfl) ?_
  exact zd_ifne zh148 (t := 161) (by decide) rfl
theorem b148_119 {scr : List Int32} {w : zAW} {a0 : Nat} {x1 : Int32} {x2 : Int32} {x3 : Int32} {x4 : Int32} {x5 : Int32}  : zd scr 148 119 [some (.ref a0), some (.int x1), some (.int x2), some (.int x3), some (.int x4), some (.int x5)] [] w = if x1 = 0 then zd scr 148 145 [some (.ref a0), some (.int x1), some (.int x2), some (.int x3), some (.int x4), some (.int x5)] [] w else zd scr 148 123 [some (.ref a0), some (.int x1), some (.int x2), some (.int x3), some (.int x4), some (.int x5)] [] w := by
  refine Eq.trans (zd_iload_n zh148 rfl rfl) ?_
  exact zd_ifeq zh148 (t := 145) (by decide) rfl
theorem b148_145 {scr : List Int32} {w : zAW} {a0 : Nat} {x1 : Int32} {x2 : Int32} {x3 : Int32} {x4 : Int32} {x5 : Int32} {f1 : Int32} (h1 : zgf w a0 6 9 = some (.int f1)) {w1 : zAW} (h2 : zpf w a0 6 9 (.int (f1 + x3)) = some w1) : zd scr 148 145 [some (.ref a0), some (.int x1), some (.int x2), some (.int x3), some (.int x4), some (.int x5)] [] w = zd scr 148 7 [some (.ref a0), some (.int x1), some (.int (x2 + (nI 2))), some (.int x3), some (.int x4), some (.int x5)] [] w1 := by
  refine Eq.trans (zd_aload_n zh148 rfl rfl) ?_
  refine Eq.trans (zd_dup zh148 rfl) ?_
  refine Eq.trans (zd_getfield zh148 (ci := 6) (k := 9) rfl h1 rfl) ?_
  refine Eq.trans (zd_iload_n zh148 rfl rfl) ?_
  refine Eq.trans (zd_iadd zh148 rfl) ?_
  refine Eq.trans (zd_putfield zh148 (ci := 6) (k := 9) rfl rfl h2 rfl) ?_
  refine Eq.trans (zd_iinc zh148 (ls' := [some (.ref a0), some (.int x1), some (.int (x2 + (nI 2))), some (.int x3), some (.int x4), some (.int x5)]) (v := (x2 + (nI 2))) rfl rfl rfl rfl) ?_
  refine Eq.trans (zd_goto zh148 (t := 7) (by decide) rfl) ?_
  exact rfl
set_option maxRecDepth 20000 in
theorem b148_45 {scr : List Int32} {w : zAW} {a0 : Nat} {x1 : Int32} {x2 : Int32} {v3 : Option Value} {v4 : Option Value} {v5 : Option Value} (h1 : zob w a0 6 = true) {f1 : Int32} {w1 : zAW} (h2 : zC scr 147 [.ref a0, .int x2] w = some (some (.int f1), w1)) {f2 : Int32} {w2 : zAW} (h3 : zC scr 87 [.int f1, .int (nI 49), .int (nI 57)] w1 = some (some (.int f2), w2)) : zd scr 148 45 [some (.ref a0), some (.int x1), some (.int x2), v3, v4, v5] [] w = if f2 = 0 then zd scr 148 67 [some (.ref a0), some (.int x1), some (.int x2), some (.int (nI 1)), v4, v5] [.int x2] w2 else zd scr 148 63 [some (.ref a0), some (.int x1), some (.int x2), some (.int (nI 1)), v4, v5] [.int x2] w2 := by
  refine Eq.trans (zd_iconst zh148 (v := (nI 1)) rfl rfl) ?_
  refine Eq.trans (zd_istore_n zh148 (ls' := [some (.ref a0), some (.int x1), some (.int x2), some (.int (nI 1)), v4, v5]) (Nat.le_of_ble_eq_true rfl) rfl rfl) ?_
  refine Eq.trans (zd_iload_n zh148 rfl rfl) ?_
  refine Eq.trans (zd_aload_n zh148 rfl rfl) ?_
  refine Eq.trans (zd_iload_n zh148 rfl rfl) ?_
  refine Eq.trans (zd_invVi zh148 zh147 rfl rfl ⟨Nat.le_of_ble_eq_true rfl, Nat.le_of_ble_eq_true rfl, Nat.le_of_ble_eq_true rfl, Nat.le_of_ble_eq_true rfl⟩ rfl h1 h2 rfl) ?_
  refine Eq.trans (zd_bipush zh148 (v := (nI 49)) rfl rfl) ?_
  refine Eq.trans (zd_bipush zh148 (v := (nI 57)) rfl rfl) ?_
  refine Eq.trans (zd_invSi zh148 zh87 rfl rfl ⟨Nat.le_of_ble_eq_true rfl, Nat.le_of_ble_eq_true rfl, Nat.le_of_ble_eq_true rfl, Nat.le_of_ble_eq_true rfl, Nat.le_of_ble_eq_true rfl⟩ rfl h3 rfl) ?_
  exact zd_ifeq zh148 (t := 67) (by decide) rfl
set_option maxRecDepth 20000 in
theorem b148_34 {scr : List Int32} {w : zAW} {a0 : Nat} {x1 : Int32} {x2 : Int32} {v3 : Option Value} {v4 : Option Value} {v5 : Option Value} (h1 : zob w a0 6 = true) {f1 : Int32} {w1 : zAW} (h2 : zC scr 147 [.ref a0, .int x2] w = some (some (.int f1), w1)) (h3 : zob w1 a0 6 = true) {f2 : Int32} {w2 : zAW} (h4 : zC scr 147 [.ref a0, .int x2] w1 = some (some (.int f2), w2)) {f3 : Int32} {w3 : zAW} (h5 : zC scr 87 [.int f2, .int (nI 49), .int (nI 57)] w2 = some (some (.int f3), w3)) : zd scr 148 34 [some (.ref a0), some (.int x1), some (.int x2), v3, v4, v5] [] w = if f3 = 0 then zd scr 148 67 [some (.ref a0), some (.int x1), some (.int x2), some (.int (f1 - (nI 48))), v4, v5] [.int x2] w3 else zd scr 148 63 [some (.ref a0), some (.int x1), some (.int x2), some (.int (f1 - (nI 48))), v4, v5] [.int x2] w3 := by
  refine Eq.trans (zd_aload_n zh148 rfl rfl) ?_
  refine Eq.trans (zd_iload_n zh148 rfl rfl) ?_
  refine Eq.trans (zd_invVi zh148 zh147 rfl rfl ⟨Nat.le_of_ble_eq_true rfl, Nat.le_of_ble_eq_true rfl, Nat.le_of_ble_eq_true rfl, Nat.le_of_ble_eq_true rfl⟩ rfl h1 h2 rfl) ?_
  refine Eq.trans (zd_bipush zh148 (v := (nI 48)) rfl rfl) ?_
  refine Eq.trans (zd_isub zh148 rfl) ?_
  refine Eq.trans (zd_goto zh148 (t := 46) (by decide) rfl) ?_
  refine Eq.trans (zd_istore_n zh148 (ls' := [some (.ref a0), some (.int x1), some (.int x2), some (.int (f1 - (nI 48))), v4, v5]) (Nat.le_of_ble_eq_true rfl) rfl rfl) ?_
  refine Eq.trans (zd_iload_n zh148 rfl rfl) ?_
  refine Eq.trans (zd_aload_n zh148 rfl rfl) ?_
  refine Eq.trans (zd_iload_n zh148 rfl rfl) ?_
  refine Eq.trans (zd_invVi zh148 zh147 rfl rfl ⟨Nat.le_of_ble_eq_true rfl, Nat.le_of_ble_eq_true rfl, Nat.le_of_ble_eq_true rfl, Nat.le_of_ble_eq_true rfl⟩ rfl h3 h4 rfl) ?_
  refine Eq.trans (zd_bipush zh148 (v := (nI 49)) rfl rfl) ?_
  refine Eq.trans (zd_bipush zh148 (v := (nI 57)) rfl rfl) ?_
  refine Eq.trans (zd_invSi zh148 zh87 rfl rfl ⟨Nat.le_of_ble_eq_true rfl, Nat.le_of_ble_eq_true rfl, Nat.le_of_ble_eq_true rfl, Nat.le_of_ble_eq_true rfl, Nat.le_of_ble_eq_true rfl⟩ rfl h5 rfl) ?_
  exact zd_ifeq zh148 (t := 67) (by decide) rfl
theorem b148_161 {scr : List Int32} {w : zAW} {a0 : Nat} {x1 : Int32} {x2 : Int32} {v3 : Option Value} {v4 : Option Value} {v5 : Option Value}  : zd scr 148 161 [some (.ref a0), some (.int x1), some (.int x2), v3, v4, v5] [] w = some (some (.int (-6)), w) := by
  refine Eq.trans (zd_bipush zh148 (v := (-6)) rfl rfl) ?_
  exact zd_iret zh148 rfl rfl
set_option maxRecDepth 20000 in
theorem b148_123 {scr : List Int32} {w : zAW} {a0 : Nat} {x1 : Int32} {x2 : Int32} {x3 : Int32} {x4 : Int32} {x5 : Int32} (h1 : zob w a0 6 = true) {f1 : Int32} {w1 : zAW} (h2 : zC scr 147 [.ref a0, .int (x2 + (nI 1))] w = some (some (.int f1), w1)) (h3 : zob w1 a0 6 = true) {w2 : zAW} (h4 : zC scr 125 [.ref a0, .int x4, .int (f1 - (nI 48))] w1 = some (none, w2)) : zd scr 148 123 [some (.ref a0), some (.int x1), some (.int x2), some (.int x3), some (.int x4), some (.int x5)] [] w = zd scr 148 113 [some (.ref a0), some (.int x1), some (.int x2), some (.int x3), some (.int x4), some (.int (x5 + (nI 1)))] [] w2 := by
  refine Eq.trans (zd_aload_n zh148 rfl rfl) ?_
  refine Eq.trans (zd_iload zh148 rfl rfl) ?_
  refine Eq.trans (zd_aload_n zh148 rfl rfl) ?_
  refine Eq.trans (zd_iload_n zh148 rfl rfl) ?_
  refine Eq.trans (zd_iconst zh148 (v := (nI 1)) rfl rfl) ?_
  refine Eq.trans (zd_iadd zh148 rfl) ?_
  refine Eq.trans (zd_invVi zh148 zh147 rfl rfl ⟨Nat.le_of_ble_eq_true rfl, Nat.le_of_ble_eq_true rfl, Nat.le_of_ble_eq_true rfl, Nat.le_of_ble_eq_true rfl⟩ rfl h1 h2 rfl) ?_
  refine Eq.trans (zd_bipush zh148 (v := (nI 48)) rfl rfl) ?_
  refine Eq.trans (zd_isub zh148 rfl) ?_
  refine Eq.trans (zd_invVv zh148 zh125 rfl rfl ⟨Nat.le_of_ble_eq_true rfl, Nat.le_of_ble_eq_true rfl, Nat.le_of_ble_eq_true rfl, Nat.le_of_ble_eq_true rfl⟩ rfl h3 h4 rfl) ?_
  refine Eq.trans (zd_iinc zh148 (ls' := [some (.ref a0), some (.int x1), some (.int x2), some (.int x3), some (.int x4), some (.int (x5 + (nI 1)))]) (v := (x5 + (nI 1))) rfl rfl rfl rfl) ?_
  refine Eq.trans (zd_goto zh148 (t := 113) (by decide) rfl) ?_
  exact rfl
set_option maxRecDepth 20000 in
theorem b148_67 {scr : List Int32} {w : zAW} {a0 : Nat} {x1 : Int32} {x2 : Int32} {x3 : Int32} {v4 : Option Value} {v5 : Option Value} {y0 : Int32} (h1 : zob w a0 6 = true) {f1 : Int32} {w1 : zAW} (h2 : zC scr 147 [.ref a0, .int (y0 + (nI 0))] w = some (some (.int f1), w1)) {f2 : Int32} {w2 : zAW} (h3 : zC scr 146 [.int f1] w1 = some (some (.int f2), w2)) : zd scr 148 67 [some (.ref a0), some (.int x1), some (.int x2), some (.int x3), v4, v5] [.int y0] w = if f2 = (-6) then zd scr 148 87 [some (.ref a0), some (.int x1), some (.int (y0 + (nI 0))), some (.int x3), some (.int f2), v5] [] w2 else zd scr 148 89 [some (.ref a0), some (.int x1), some (.int (y0 + (nI 0))), some (.int x3), some (.int f2), v5] [] w2 := by
  refine Eq.trans (zd_iconst zh148 (v := (nI 0)) rfl rfl) ?_
  refine Eq.trans (zd_iadd zh148 rfl) ?_
  refine Eq.trans (zd_istore_n zh148 (ls' := [some (.ref a0), some (.int x1), some (.int (y0 + (nI 0))), some (.int x3), v4, v5]) (Nat.le_of_ble_eq_true rfl) rfl rfl) ?_
  refine Eq.trans (zd_aload_n zh148 rfl rfl) ?_
  refine Eq.trans (zd_iload_n zh148 rfl rfl) ?_
  refine Eq.trans (zd_invVi zh148 zh147 rfl rfl ⟨Nat.le_of_ble_eq_true rfl, Nat.le_of_ble_eq_true rfl, Nat.le_of_ble_eq_true rfl, Nat.le_of_ble_eq_true rfl⟩ rfl h1 h2 rfl) ?_
  refine Eq.trans (zd_invSi zh148 zh146 rfl rfl ⟨Nat.le_of_ble_eq_true rfl, Nat.le_of_ble_eq_true rfl, Nat.le_of_ble_eq_true rfl, Nat.le_of_ble_eq_true rfl, Nat.le_of_ble_eq_true rfl⟩ rfl h3 rfl) ?_
  refine Eq.trans (zd_istore zh148 (ls' := [some (.ref a0), some (.int x1), some (.int (y0 + (nI 0))), some (.int x3), some (.int f2), v5]) (Nat.le_of_ble_eq_true rfl) rfl rfl) ?_
  refine Eq.trans (zd_iload zh148 rfl rfl) ?_
  refine Eq.trans (zd_bipush zh148 (v := (-6)) rfl rfl) ?_
  exact zd_icmpne zh148 (t := 89) (by decide) rfl
set_option maxRecDepth 20000 in
theorem b148_63 {scr : List Int32} {w : zAW} {a0 : Nat} {x1 : Int32} {x2 : Int32} {x3 : Int32} {v4 : Option Value} {v5 : Option Value} {y0 : Int32} (h1 : zob w a0 6 = true) {f1 : Int32} {w1 : zAW} (h2 : zC scr 147 [.ref a0, .int (y0 + (nI 1))] w = some (some (.int f1), w1)) {f2 : Int32} {w2 : zAW} (h3 : zC scr 146 [.int f1] w1 = some (some (.int f2), w2)) : zd scr 148 63 [some (.ref a0), some (.int x1), some (.int x2), some (.int x3), v4, v5] [.int y0] w = if f2 = (-6) then zd scr 148 87 [some (.ref a0), some (.int x1), some (.int (y0 + (nI 1))), some (.int x3), some (.int f2), v5] [] w2 else zd scr 148 89 [some (.ref a0), some (.int x1), some (.int (y0 + (nI 1))), some (.int x3), some (.int f2), v5] [] w2 := by
  refine Eq.trans (zd_iconst zh148 (v := (nI 1)) rfl rfl) ?_
  refine Eq.trans (zd_goto zh148 (t := 68) (by decide) rfl) ?_
  refine Eq.trans (zd_iadd zh148 rfl) ?_
  refine Eq.trans (zd_istore_n zh148 (ls' := [some (.ref a0), some (.int x1), some (.int (y0 + (nI 1))), some (.int x3), v4, v5]) (Nat.le_of_ble_eq_true rfl) rfl rfl) ?_
  refine Eq.trans (zd_aload_n zh148 rfl rfl) ?_
  refine Eq.trans (zd_iload_n zh148 rfl rfl) ?_
  refine Eq.trans (zd_invVi zh148 zh147 rfl rfl ⟨Nat.le_of_ble_eq_true rfl, Nat.le_of_ble_eq_true rfl, Nat.le_of_ble_eq_true rfl, Nat.le_of_ble_eq_true rfl⟩ rfl h1 h2 rfl) ?_
  refine Eq.trans (zd_invSi zh148 zh146 rfl rfl ⟨Nat.le_of_ble_eq_true rfl, Nat.le_of_ble_eq_true rfl, Nat.le_of_ble_eq_true rfl, Nat.le_of_ble_eq_true rfl, Nat.le_of_ble_eq_true rfl⟩ rfl h3 rfl) ?_
  refine Eq.trans (zd_istore zh148 (ls' := [some (.ref a0), some (.int x1), some (.int (y0 + (nI 1))), some (.int x3), some (.int f2), v5]) (Nat.le_of_ble_eq_true rfl) rfl rfl) ?_
  refine Eq.trans (zd_iload zh148 rfl rfl) ?_
  refine Eq.trans (zd_bipush zh148 (v := (-6)) rfl rfl) ?_
  exact zd_icmpne zh148 (t := 89) (by decide) rfl
theorem b148_87 {scr : List Int32} {w : zAW} {a0 : Nat} {x1 : Int32} {x2 : Int32} {x3 : Int32} {x4 : Int32} {v5 : Option Value}  : zd scr 148 87 [some (.ref a0), some (.int x1), some (.int x2), some (.int x3), some (.int x4), v5] [] w = some (some (.int x2), w) := by
  refine Eq.trans (zd_iload_n zh148 rfl rfl) ?_
  exact zd_iret zh148 rfl rfl
set_option maxRecDepth 20000 in
theorem b148_89 {scr : List Int32} {w : zAW} {a0 : Nat} {x1 : Int32} {x2 : Int32} {x3 : Int32} {x4 : Int32} {v5 : Option Value} (h1 : zob w a0 6 = true) {f1 : Int32} {w1 : zAW} (h2 : zC scr 147 [.ref a0, .int (x2 + (nI 1))] w = some (some (.int f1), w1)) {f2 : Int32} {w2 : zAW} (h3 : zC scr 87 [.int f1, .int (nI 49), .int (nI 57)] w1 = some (some (.int f2), w2)) : zd scr 148 89 [some (.ref a0), some (.int x1), some (.int x2), some (.int x3), some (.int x4), v5] [] w = if f2 = 0 then zd scr 148 106 [some (.ref a0), some (.int x1), some (.int x2), some (.int x3), some (.int x4), v5] [] w2 else zd scr 148 110 [some (.ref a0), some (.int x1), some (.int x2), some (.int x3), some (.int x4), v5] [] w2 := by
  refine Eq.trans (zd_aload_n zh148 rfl rfl) ?_
  refine Eq.trans (zd_iload_n zh148 rfl rfl) ?_
  refine Eq.trans (zd_iconst zh148 (v := (nI 1)) rfl rfl) ?_
  refine Eq.trans (zd_iadd zh148 rfl) ?_
  refine Eq.trans (zd_invVi zh148 zh147 rfl rfl ⟨Nat.le_of_ble_eq_true rfl, Nat.le_of_ble_eq_true rfl, Nat.le_of_ble_eq_true rfl, Nat.le_of_ble_eq_true rfl⟩ rfl h1 h2 rfl) ?_
  refine Eq.trans (zd_bipush zh148 (v := (nI 49)) rfl rfl) ?_
  refine Eq.trans (zd_bipush zh148 (v := (nI 57)) rfl rfl) ?_
  refine Eq.trans (zd_invSi zh148 zh87 rfl rfl ⟨Nat.le_of_ble_eq_true rfl, Nat.le_of_ble_eq_true rfl, Nat.le_of_ble_eq_true rfl, Nat.le_of_ble_eq_true rfl, Nat.le_of_ble_eq_true rfl⟩ rfl h3 rfl) ?_
  exact zd_ifne zh148 (t := 110) (by decide) rfl
theorem b148_106 {scr : List Int32} {w : zAW} {a0 : Nat} {x1 : Int32} {x2 : Int32} {x3 : Int32} {x4 : Int32} {v5 : Option Value}  : zd scr 148 106 [some (.ref a0), some (.int x1), some (.int x2), some (.int x3), some (.int x4), v5] [] w = some (some (.int (x2 + (nI 1))), w) := by
  refine Eq.trans (zd_iload_n zh148 rfl rfl) ?_
  refine Eq.trans (zd_iconst zh148 (v := (nI 1)) rfl rfl) ?_
  refine Eq.trans (zd_iadd zh148 rfl) ?_
  exact zd_iret zh148 rfl rfl
theorem b148_110 {scr : List Int32} {w : zAW} {a0 : Nat} {x1 : Int32} {x2 : Int32} {x3 : Int32} {x4 : Int32} {v5 : Option Value}  : zd scr 148 110 [some (.ref a0), some (.int x1), some (.int x2), some (.int x3), some (.int x4), v5] [] w = zd scr 148 113 [some (.ref a0), some (.int x1), some (.int x2), some (.int x3), some (.int x4), some (.int (nI 0))] [] w := by
  refine Eq.trans (zd_iconst zh148 (v := (nI 0)) rfl rfl) ?_
  refine Eq.trans (zd_istore zh148 (ls' := [some (.ref a0), some (.int x1), some (.int x2), some (.int x3), some (.int x4), some (.int (nI 0))]) (Nat.le_of_ble_eq_true rfl) rfl rfl) ?_
  exact rfl
