/-! yX4_colourOf: 51, MarbleHeirs$Text.colourOf(I)I -/
theorem b51_0_c98 {scr : List Int32} {w : zAW} {x0 : Int32}  (hx : x0 = (nI 98)) : zd scr 51 0 [some (.int x0)] [] w = zd scr 51 64 [some (.int x0)] [] w := by
  refine Eq.trans (zd_iload_n zh51 rfl rfl) ?_
  exact zd_look zh51 (off := 63) (by decide) (by rw [hx]; rfl) (by decide) rfl
theorem b51_0_c103 {scr : List Int32} {w : zAW} {x0 : Int32}  (hx : x0 = (nI 103)) : zd scr 51 0 [some (.int x0)] [] w = zd scr 51 62 [some (.int x0)] [] w := by
  refine Eq.trans (zd_iload_n zh51 rfl rfl) ?_
  exact zd_look zh51 (off := 61) (by decide) (by rw [hx]; rfl) (by decide) rfl
theorem b51_0_c107 {scr : List Int32} {w : zAW} {x0 : Int32}  (hx : x0 = (nI 107)) : zd scr 51 0 [some (.int x0)] [] w = zd scr 51 70 [some (.int x0)] [] w := by
  refine Eq.trans (zd_iload_n zh51 rfl rfl) ?_
  exact zd_look zh51 (off := 69) (by decide) (by rw [hx]; rfl) (by decide) rfl
theorem b51_0_c114 {scr : List Int32} {w : zAW} {x0 : Int32}  (hx : x0 = (nI 114)) : zd scr 51 0 [some (.int x0)] [] w = zd scr 51 60 [some (.int x0)] [] w := by
  refine Eq.trans (zd_iload_n zh51 rfl rfl) ?_
  exact zd_look zh51 (off := 59) (by decide) (by rw [hx]; rfl) (by decide) rfl
theorem b51_0_c119 {scr : List Int32} {w : zAW} {x0 : Int32}  (hx : x0 = (nI 119)) : zd scr 51 0 [some (.int x0)] [] w = zd scr 51 68 [some (.int x0)] [] w := by
  refine Eq.trans (zd_iload_n zh51 rfl rfl) ?_
  exact zd_look zh51 (off := 67) (by decide) (by rw [hx]; rfl) (by decide) rfl
theorem b51_0_c121 {scr : List Int32} {w : zAW} {x0 : Int32}  (hx : x0 = (nI 121)) : zd scr 51 0 [some (.int x0)] [] w = zd scr 51 66 [some (.int x0)] [] w := by
  refine Eq.trans (zd_iload_n zh51 rfl rfl) ?_
  exact zd_look zh51 (off := 65) (by decide) (by rw [hx]; rfl) (by decide) rfl
theorem b51_0_d {scr : List Int32} {w : zAW} {x0 : Int32}  (hx98 : ¬ x0 = (nI 98)) (hx103 : ¬ x0 = (nI 103)) (hx107 : ¬ x0 = (nI 107)) (hx114 : ¬ x0 = (nI 114)) (hx119 : ¬ x0 = (nI 119)) (hx121 : ¬ x0 = (nI 121)) : zd scr 51 0 [some (.int x0)] [] w = zd scr 51 72 [some (.int x0)] [] w := by
  refine Eq.trans (zd_iload_n zh51 rfl rfl) ?_
  exact zd_look zh51 (off := 71) (by decide) (by rw [lv_osw hx98 (by decide)]; rw [lv_osw hx103 (by decide)]; rw [lv_osw hx107 (by decide)]; rw [lv_osw hx114 (by decide)]; rw [lv_osw hx119 (by decide)]; rw [lv_osw hx121 (by decide)]; rfl) (by decide) rfl
theorem b51_64 {scr : List Int32} {w : zAW} {x0 : Int32}  : zd scr 51 64 [some (.int x0)] [] w = some (some (.int (nI 2)), w) := by
  refine Eq.trans (zd_iconst zh51 (v := (nI 2)) rfl rfl) ?_
  exact zd_iret zh51 rfl rfl
theorem b51_62 {scr : List Int32} {w : zAW} {x0 : Int32}  : zd scr 51 62 [some (.int x0)] [] w = some (some (.int (nI 1)), w) := by
  refine Eq.trans (zd_iconst zh51 (v := (nI 1)) rfl rfl) ?_
  exact zd_iret zh51 rfl rfl
theorem b51_70 {scr : List Int32} {w : zAW} {x0 : Int32}  : zd scr 51 70 [some (.int x0)] [] w = some (some (.int (nI 5)), w) := by
  refine Eq.trans (zd_iconst zh51 (v := (nI 5)) rfl rfl) ?_
  exact zd_iret zh51 rfl rfl
theorem b51_60 {scr : List Int32} {w : zAW} {x0 : Int32}  : zd scr 51 60 [some (.int x0)] [] w = some (some (.int (nI 0)), w) := by
  refine Eq.trans (zd_iconst zh51 (v := (nI 0)) rfl rfl) ?_
  exact zd_iret zh51 rfl rfl
theorem b51_68 {scr : List Int32} {w : zAW} {x0 : Int32}  : zd scr 51 68 [some (.int x0)] [] w = some (some (.int (nI 4)), w) := by
  refine Eq.trans (zd_iconst zh51 (v := (nI 4)) rfl rfl) ?_
  exact zd_iret zh51 rfl rfl
theorem b51_66 {scr : List Int32} {w : zAW} {x0 : Int32}  : zd scr 51 66 [some (.int x0)] [] w = some (some (.int (nI 3)), w) := by
  refine Eq.trans (zd_iconst zh51 (v := (nI 3)) rfl rfl) ?_
  exact zd_iret zh51 rfl rfl
theorem b51_72 {scr : List Int32} {w : zAW} {x0 : Int32}  : zd scr 51 72 [some (.int x0)] [] w = some (some (.int (-1)), w) := by
  refine Eq.trans (zd_iconst zh51 (v := (-1)) rfl rfl) ?_
  exact zd_iret zh51 rfl rfl
/-! yX5_init: 52, MarbleHeirs.<init>()V -/
/-! yX5_come: 53, MarbleHeirs.come(II)I -/
set_option maxRecDepth 20000 in
theorem b53_0 {scr : List Int32} {w : zAW} {a0 : Nat} {x1 : Int32} {x2 : Int32} {f1 : Int32} {w1 : zAW} (h1 : zC scr 81 [.int x1] w = some (some (.int f1), w1)) : zd scr 53 0 [some (.ref a0), some (.int x1), some (.int x2)] [] w = if f1 = 0 then zd scr 53 7 [some (.ref a0), some (.int x1), some (.int x2)] [] w1 else zd scr 53 9 [some (.ref a0), some (.int x1), some (.int x2)] [] w1 := by
  refine Eq.trans (zd_iload_n zh53 rfl rfl) ?_
  refine Eq.trans (zd_invSi zh53 zh81 rfl rfl ⟨Nat.le_of_ble_eq_true rfl, Nat.le_of_ble_eq_true rfl, Nat.le_of_ble_eq_true rfl, Nat.le_of_ble_eq_true rfl, Nat.le_of_ble_eq_true rfl⟩ rfl h1 rfl) ?_
  exact zd_ifne zh53 (t := 9) (by decide) rfl
theorem b53_7 {scr : List Int32} {w : zAW} {a0 : Nat} {x1 : Int32} {x2 : Int32}  : zd scr 53 7 [some (.ref a0), some (.int x1), some (.int x2)] [] w = some (some (.int (-1)), w) := by
  refine Eq.trans (zd_iconst zh53 (v := (-1)) rfl rfl) ?_
  exact zd_iret zh53 rfl rfl
set_option maxRecDepth 20000 in
theorem b53_9 {scr : List Int32} {w : zAW} {a0 : Nat} {x1 : Int32} {x2 : Int32} {f1 : Int32} {w1 : zAW} (h1 : zC scr 82 [.int x2] w = some (some (.int f1), w1)) : zd scr 53 9 [some (.ref a0), some (.int x1), some (.int x2)] [] w = if f1 = 0 then zd scr 53 16 [some (.ref a0), some (.int x1), some (.int x2)] [] w1 else zd scr 53 19 [some (.ref a0), some (.int x1), some (.int x2)] [] w1 := by
  refine Eq.trans (zd_iload_n zh53 rfl rfl) ?_
  refine Eq.trans (zd_invSi zh53 zh82 rfl rfl ⟨Nat.le_of_ble_eq_true rfl, Nat.le_of_ble_eq_true rfl, Nat.le_of_ble_eq_true rfl, Nat.le_of_ble_eq_true rfl, Nat.le_of_ble_eq_true rfl⟩ rfl h1 rfl) ?_
  exact zd_ifne zh53 (t := 19) (by decide) rfl
theorem b53_16 {scr : List Int32} {w : zAW} {a0 : Nat} {x1 : Int32} {x2 : Int32}  : zd scr 53 16 [some (.ref a0), some (.int x1), some (.int x2)] [] w = some (some (.int (-2)), w) := by
  refine Eq.trans (zd_bipush zh53 (v := (-2)) rfl rfl) ?_
  exact zd_iret zh53 rfl rfl
theorem b53_19 {scr : List Int32} {w : zAW} {a0 : Nat} {x1 : Int32} {x2 : Int32} {g1 : Nat} (h1 : zgf w a0 5 0 = some (.ref g1)) {f2 : Int32} (h2 : zgf w g1 3 1 = some (.int f2)) : zd scr 53 19 [some (.ref a0), some (.int x1), some (.int x2)] [] w = if f2 < (nI 6) then zd scr 53 34 [some (.ref a0), some (.int x1), some (.int x2)] [] w else zd scr 53 31 [some (.ref a0), some (.int x1), some (.int x2)] [] w := by
  refine Eq.trans (zd_aload_n zh53 rfl rfl) ?_
  refine Eq.trans (zd_getfield zh53 (ci := 5) (k := 0) rfl h1 rfl) ?_
  refine Eq.trans (zd_getfield zh53 (ci := 3) (k := 1) rfl h2 rfl) ?_
  refine Eq.trans (zd_bipush zh53 (v := (nI 6)) rfl rfl) ?_
  exact zd_icmplt zh53 (t := 34) (by decide) rfl
set_option maxRecDepth 20000 in
theorem b53_34 {scr : List Int32} {w : zAW} {a0 : Nat} {x1 : Int32} {x2 : Int32} {g1 : Nat} (h1 : zgf w a0 5 4 = some (.ref g1)) {g2 : Nat} (h2 : zgf w a0 5 0 = some (.ref g2)) (h3 : zob w g1 2 = true) {w1 : zAW} (h4 : zC scr 21 [.ref g1, .ref g2] w = some (none, w1)) {g3 : Nat} (h5 : zgf w1 a0 5 0 = some (.ref g3)) (h6 : zob w1 g3 3 = true) {f4 : Int32} {w2 : zAW} (h7 : zC scr 28 [.ref g3, .int x1, .int x2] w1 = some (some (.int f4), w2)) : zd scr 53 34 [some (.ref a0), some (.int x1), some (.int x2)] [] w = some (some (.int f4), w2) := by
  refine Eq.trans (zd_aload_n zh53 rfl rfl) ?_
  refine Eq.trans (zd_getfield zh53 (ci := 5) (k := 4) rfl h1 rfl) ?_
  refine Eq.trans (zd_aload_n zh53 rfl rfl) ?_
  refine Eq.trans (zd_getfield zh53 (ci := 5) (k := 0) rfl h2 rfl) ?_
  refine Eq.trans (zd_invVv zh53 zh21 rfl rfl ⟨Nat.le_of_ble_eq_true rfl, Nat.le_of_ble_eq_true rfl, Nat.le_of_ble_eq_true rfl, Nat.le_of_ble_eq_true rfl⟩ rfl h3 h4 rfl) ?_
  refine Eq.trans (zd_aload_n zh53 rfl rfl) ?_
  refine Eq.trans (zd_getfield zh53 (ci := 5) (k := 0) rfl h5 rfl) ?_
  refine Eq.trans (zd_iload_n zh53 rfl rfl) ?_
  refine Eq.trans (zd_iload_n zh53 rfl rfl) ?_
  refine Eq.trans (zd_invVi zh53 zh28 rfl rfl ⟨Nat.le_of_ble_eq_true rfl, Nat.le_of_ble_eq_true rfl, Nat.le_of_ble_eq_true rfl, Nat.le_of_ble_eq_true rfl⟩ rfl h6 h7 rfl) ?_
  exact zd_iret zh53 rfl rfl
theorem b53_31 {scr : List Int32} {w : zAW} {a0 : Nat} {x1 : Int32} {x2 : Int32}  : zd scr 53 31 [some (.ref a0), some (.int x1), some (.int x2)] [] w = some (some (.int (-4)), w) := by
  refine Eq.trans (zd_bipush zh53 (v := (-4)) rfl rfl) ?_
  exact zd_iret zh53 rfl rfl
/-! yX5_leave: 54, MarbleHeirs.leave(I)I -/
set_option maxRecDepth 20000 in
theorem b54_0 {scr : List Int32} {w : zAW} {a0 : Nat} {x1 : Int32} {g1 : Nat} (h1 : zgf w a0 5 0 = some (.ref g1)) (h2 : zob w g1 3 = true) {f2 : Int32} {w1 : zAW} (h3 : zC scr 26 [.ref g1, .int x1] w = some (some (.int f2), w1)) : zd scr 54 0 [some (.ref a0), some (.int x1), none] [] w = if f2 = 0 then zd scr 54 11 [some (.ref a0), some (.int x1), none] [] w1 else zd scr 54 13 [some (.ref a0), some (.int x1), none] [] w1 := by
  refine Eq.trans (zd_aload_n zh54 rfl rfl) ?_
  refine Eq.trans (zd_getfield zh54 (ci := 5) (k := 0) rfl h1 rfl) ?_
  refine Eq.trans (zd_iload_n zh54 rfl rfl) ?_
  refine Eq.trans (zd_invVi zh54 zh26 rfl rfl ⟨Nat.le_of_ble_eq_true rfl, Nat.le_of_ble_eq_true rfl, Nat.le_of_ble_eq_true rfl, Nat.le_of_ble_eq_true rfl⟩ rfl h2 h3 rfl) ?_
  exact zd_ifne zh54 (t := 13) (by decide) rfl
theorem b54_11 {scr : List Int32} {w : zAW} {a0 : Nat} {x1 : Int32}  : zd scr 54 11 [some (.ref a0), some (.int x1), none] [] w = some (some (.int (-1)), w) := by
  refine Eq.trans (zd_iconst zh54 (v := (-1)) rfl rfl) ?_
  exact zd_iret zh54 rfl rfl
set_option maxRecDepth 20000 in
theorem b54_13 {scr : List Int32} {w : zAW} {a0 : Nat} {x1 : Int32} {g1 : Nat} (h1 : zgf w a0 5 0 = some (.ref g1)) {g2 : Nat} (h2 : zgf w g1 3 0 = some (.ref g2)) (h3 : zob w g2 1 = true) {f3 : Int32} {w1 : zAW} (h4 : zC scr 8 [.ref g2, .int x1] w = some (some (.int f3), w1)) {g4 : Nat} (h5 : zgf w1 a0 5 0 = some (.ref g4)) {g5 : Nat} (h6 : zgf w1 g4 3 0 = some (.ref g5)) (h7 : zob w1 g5 1 = true) {f6 : Int32} {w2 : zAW} (h8 : zC scr 8 [.ref g5, .int (nI 6)] w1 = some (some (.int f6), w2)) : zd scr 54 13 [some (.ref a0), some (.int x1), none] [] w = if (nI 40) < (f6 + f3) then zd scr 54 44 [some (.ref a0), some (.int x1), some (.int f3)] [] w2 else zd scr 54 47 [some (.ref a0), some (.int x1), some (.int f3)] [] w2 := by
  refine Eq.trans (zd_aload_n zh54 rfl rfl) ?_
  refine Eq.trans (zd_getfield zh54 (ci := 5) (k := 0) rfl h1 rfl) ?_
  refine Eq.trans (zd_getfield zh54 (ci := 3) (k := 0) rfl h2 rfl) ?_
  refine Eq.trans (zd_iload_n zh54 rfl rfl) ?_
  refine Eq.trans (zd_invVi zh54 zh8 rfl rfl ⟨Nat.le_of_ble_eq_true rfl, Nat.le_of_ble_eq_true rfl, Nat.le_of_ble_eq_true rfl, Nat.le_of_ble_eq_true rfl⟩ rfl h3 h4 rfl) ?_
  refine Eq.trans (zd_istore_n zh54 (ls' := [some (.ref a0), some (.int x1), some (.int f3)]) (Nat.le_of_ble_eq_true rfl) rfl rfl) ?_
  refine Eq.trans (zd_aload_n zh54 rfl rfl) ?_
  refine Eq.trans (zd_getfield zh54 (ci := 5) (k := 0) rfl h5 rfl) ?_
  refine Eq.trans (zd_getfield zh54 (ci := 3) (k := 0) rfl h6 rfl) ?_
  refine Eq.trans (zd_bipush zh54 (v := (nI 6)) rfl rfl) ?_
  refine Eq.trans (zd_invVi zh54 zh8 rfl rfl ⟨Nat.le_of_ble_eq_true rfl, Nat.le_of_ble_eq_true rfl, Nat.le_of_ble_eq_true rfl, Nat.le_of_ble_eq_true rfl⟩ rfl h7 h8 rfl) ?_
  refine Eq.trans (zd_iload_n zh54 rfl rfl) ?_
  refine Eq.trans (zd_iadd zh54 rfl) ?_
  refine Eq.trans (zd_bipush zh54 (v := (nI 40)) rfl rfl) ?_
  exact zd_icmple zh54 (t := 47) (by decide) rfl
theorem b54_44 {scr : List Int32} {w : zAW} {a0 : Nat} {x1 : Int32} {x2 : Int32}  : zd scr 54 44 [some (.ref a0), some (.int x1), some (.int x2)] [] w = some (some (.int (-4)), w) := by
  refine Eq.trans (zd_bipush zh54 (v := (-4)) rfl rfl) ?_
  exact zd_iret zh54 rfl rfl
set_option maxRecDepth 20000 in
theorem b54_47 {scr : List Int32} {w : zAW} {a0 : Nat} {x1 : Int32} {x2 : Int32} {g1 : Nat} (h1 : zgf w a0 5 4 = some (.ref g1)) {g2 : Nat} (h2 : zgf w a0 5 0 = some (.ref g2)) (h3 : zob w g1 2 = true) {w1 : zAW} (h4 : zC scr 21 [.ref g1, .ref g2] w = some (none, w1)) {g3 : Nat} (h5 : zgf w1 a0 5 0 = some (.ref g3)) (h6 : zob w1 g3 3 = true) {w2 : zAW} (h7 : zC scr 29 [.ref g3, .int x1] w1 = some (none, w2)) : zd scr 54 47 [some (.ref a0), some (.int x1), some (.int x2)] [] w = some (some (.int x2), w2) := by
  refine Eq.trans (zd_aload_n zh54 rfl rfl) ?_
  refine Eq.trans (zd_getfield zh54 (ci := 5) (k := 4) rfl h1 rfl) ?_
  refine Eq.trans (zd_aload_n zh54 rfl rfl) ?_
  refine Eq.trans (zd_getfield zh54 (ci := 5) (k := 0) rfl h2 rfl) ?_
  refine Eq.trans (zd_invVv zh54 zh21 rfl rfl ⟨Nat.le_of_ble_eq_true rfl, Nat.le_of_ble_eq_true rfl, Nat.le_of_ble_eq_true rfl, Nat.le_of_ble_eq_true rfl⟩ rfl h3 h4 rfl) ?_
  refine Eq.trans (zd_aload_n zh54 rfl rfl) ?_
  refine Eq.trans (zd_getfield zh54 (ci := 5) (k := 0) rfl h5 rfl) ?_
  refine Eq.trans (zd_iload_n zh54 rfl rfl) ?_
  refine Eq.trans (zd_invVv zh54 zh29 rfl rfl ⟨Nat.le_of_ble_eq_true rfl, Nat.le_of_ble_eq_true rfl, Nat.le_of_ble_eq_true rfl, Nat.le_of_ble_eq_true rfl⟩ rfl h6 h7 rfl) ?_
  refine Eq.trans (zd_iload_n zh54 rfl rfl) ?_
  exact zd_iret zh54 rfl rfl
/-! yX5_wish: 55, MarbleHeirs.wish(II)I -/
set_option maxRecDepth 20000 in
theorem b55_0 {scr : List Int32} {w : zAW} {a0 : Nat} {x1 : Int32} {x2 : Int32} {g1 : Nat} (h1 : zgf w a0 5 0 = some (.ref g1)) (h2 : zob w g1 3 = true) {f2 : Int32} {w1 : zAW} (h3 : zC scr 26 [.ref g1, .int x1] w = some (some (.int f2), w1)) : zd scr 55 0 [some (.ref a0), some (.int x1), some (.int x2)] [] w = if f2 = 0 then zd scr 55 11 [some (.ref a0), some (.int x1), some (.int x2)] [] w1 else zd scr 55 13 [some (.ref a0), some (.int x1), some (.int x2)] [] w1 := by
  refine Eq.trans (zd_aload_n zh55 rfl rfl) ?_
  refine Eq.trans (zd_getfield zh55 (ci := 5) (k := 0) rfl h1 rfl) ?_
  refine Eq.trans (zd_iload_n zh55 rfl rfl) ?_
  refine Eq.trans (zd_invVi zh55 zh26 rfl rfl ⟨Nat.le_of_ble_eq_true rfl, Nat.le_of_ble_eq_true rfl, Nat.le_of_ble_eq_true rfl, Nat.le_of_ble_eq_true rfl⟩ rfl h2 h3 rfl) ?_
  exact zd_ifne zh55 (t := 13) (by decide) rfl
theorem b55_11 {scr : List Int32} {w : zAW} {a0 : Nat} {x1 : Int32} {x2 : Int32}  : zd scr 55 11 [some (.ref a0), some (.int x1), some (.int x2)] [] w = some (some (.int (-1)), w) := by
  refine Eq.trans (zd_iconst zh55 (v := (-1)) rfl rfl) ?_
  exact zd_iret zh55 rfl rfl
set_option maxRecDepth 20000 in
theorem b55_13 {scr : List Int32} {w : zAW} {a0 : Nat} {x1 : Int32} {x2 : Int32} {f1 : Int32} {w1 : zAW} (h1 : zC scr 82 [.int x2] w = some (some (.int f1), w1)) : zd scr 55 13 [some (.ref a0), some (.int x1), some (.int x2)] [] w = if f1 = 0 then zd scr 55 20 [some (.ref a0), some (.int x1), some (.int x2)] [] w1 else zd scr 55 23 [some (.ref a0), some (.int x1), some (.int x2)] [] w1 := by
  refine Eq.trans (zd_iload_n zh55 rfl rfl) ?_
  refine Eq.trans (zd_invSi zh55 zh82 rfl rfl ⟨Nat.le_of_ble_eq_true rfl, Nat.le_of_ble_eq_true rfl, Nat.le_of_ble_eq_true rfl, Nat.le_of_ble_eq_true rfl, Nat.le_of_ble_eq_true rfl⟩ rfl h1 rfl) ?_
  exact zd_ifne zh55 (t := 23) (by decide) rfl
theorem b55_20 {scr : List Int32} {w : zAW} {a0 : Nat} {x1 : Int32} {x2 : Int32}  : zd scr 55 20 [some (.ref a0), some (.int x1), some (.int x2)] [] w = some (some (.int (-2)), w) := by
  refine Eq.trans (zd_bipush zh55 (v := (-2)) rfl rfl) ?_
  exact zd_iret zh55 rfl rfl
set_option maxRecDepth 20000 in
theorem b55_23 {scr : List Int32} {w : zAW} {a0 : Nat} {x1 : Int32} {x2 : Int32} {g1 : Nat} (h1 : zgf w a0 5 4 = some (.ref g1)) {g2 : Nat} (h2 : zgf w a0 5 0 = some (.ref g2)) (h3 : zob w g1 2 = true) {w1 : zAW} (h4 : zC scr 21 [.ref g1, .ref g2] w = some (none, w1)) {g3 : Nat} (h5 : zgf w1 a0 5 0 = some (.ref g3)) {g4 : Nat} (h6 : zgf w1 g3 3 3 = some (.ref g4)) {w2 : zAW} (h7 : zas w1 g4 x1 x2 = some w2) {g5 : Nat} (h8 : zgf w2 a0 5 0 = some (.ref g5)) {g6 : Nat} (h9 : zgf w2 g5 3 0 = some (.ref g6)) (h10 : zob w2 g6 1 = true) {f7 : Int32} {w3 : zAW} (h11 : zC scr 14 [.ref g6, .int x1, .int x2] w2 = some (some (.int f7), w3)) : zd scr 55 23 [some (.ref a0), some (.int x1), some (.int x2)] [] w = some (some (.int f7), w3) := by
  refine Eq.trans (zd_aload_n zh55 rfl rfl) ?_
  refine Eq.trans (zd_getfield zh55 (ci := 5) (k := 4) rfl h1 rfl) ?_
  refine Eq.trans (zd_aload_n zh55 rfl rfl) ?_
  refine Eq.trans (zd_getfield zh55 (ci := 5) (k := 0) rfl h2 rfl) ?_
  refine Eq.trans (zd_invVv zh55 zh21 rfl rfl ⟨Nat.le_of_ble_eq_true rfl, Nat.le_of_ble_eq_true rfl, Nat.le_of_ble_eq_true rfl, Nat.le_of_ble_eq_true rfl⟩ rfl h3 h4 rfl) ?_
  refine Eq.trans (zd_aload_n zh55 rfl rfl) ?_
  refine Eq.trans (zd_getfield zh55 (ci := 5) (k := 0) rfl h5 rfl) ?_
  refine Eq.trans (zd_getfield zh55 (ci := 3) (k := 3) rfl h6 rfl) ?_
  refine Eq.trans (zd_iload_n zh55 rfl rfl) ?_
  refine Eq.trans (zd_iload_n zh55 rfl rfl) ?_
  refine Eq.trans (zd_iastore zh55 h7 rfl) ?_
  refine Eq.trans (zd_aload_n zh55 rfl rfl) ?_
  refine Eq.trans (zd_getfield zh55 (ci := 5) (k := 0) rfl h8 rfl) ?_
  refine Eq.trans (zd_getfield zh55 (ci := 3) (k := 0) rfl h9 rfl) ?_
  refine Eq.trans (zd_iload_n zh55 rfl rfl) ?_
  refine Eq.trans (zd_iload_n zh55 rfl rfl) ?_
  refine Eq.trans (zd_invVi zh55 zh14 rfl rfl ⟨Nat.le_of_ble_eq_true rfl, Nat.le_of_ble_eq_true rfl, Nat.le_of_ble_eq_true rfl, Nat.le_of_ble_eq_true rfl⟩ rfl h10 h11 rfl) ?_
  exact zd_iret zh55 rfl rfl
/-! yX5_setRule: 56, MarbleHeirs.setRule(I)I -/
theorem b56_0 {scr : List Int32} {w : zAW} {a0 : Nat} {x1 : Int32}  : zd scr 56 0 [some (.ref a0), some (.int x1), none] [] w = if x1 < 0 then zd scr 56 9 [some (.ref a0), some (.int x1), none] [] w else zd scr 56 4 [some (.ref a0), some (.int x1), none] [] w := by
  refine Eq.trans (zd_iload_n zh56 rfl rfl) ?_
  exact zd_iflt zh56 (t := 9) (by decide) rfl
theorem b56_9 {scr : List Int32} {w : zAW} {a0 : Nat} {x1 : Int32}  : zd scr 56 9 [some (.ref a0), some (.int x1), none] [] w = some (some (.int (-2)), w) := by
  refine Eq.trans (zd_bipush zh56 (v := (-2)) rfl rfl) ?_
  exact zd_iret zh56 rfl rfl
theorem b56_4 {scr : List Int32} {w : zAW} {a0 : Nat} {x1 : Int32}  : zd scr 56 4 [some (.ref a0), some (.int x1), none] [] w = if (nI 2) < x1 then zd scr 56 9 [some (.ref a0), some (.int x1), none] [] w else zd scr 56 12 [some (.ref a0), some (.int x1), none] [] w := by
  refine Eq.trans (zd_iload_n zh56 rfl rfl) ?_
  refine Eq.trans (zd_iconst zh56 (v := (nI 2)) rfl rfl) ?_
  exact zd_icmple zh56 (t := 12) (by decide) rfl
set_option maxRecDepth 20000 in
theorem b56_12 {scr : List Int32} {w : zAW} {a0 : Nat} {x1 : Int32} {g1 : Nat} (h1 : zgf w a0 5 4 = some (.ref g1)) {g2 : Nat} (h2 : zgf w a0 5 0 = some (.ref g2)) (h3 : zob w g1 2 = true) {w1 : zAW} (h4 : zC scr 21 [.ref g1, .ref g2] w = some (none, w1)) {g3 : Nat} (h5 : zgf w1 a0 5 0 = some (.ref g3)) {f4 : Int32} (h6 : zgf w1 g3 3 6 = some (.int f4)) {g5 : Nat} (h7 : zgf w1 a0 5 0 = some (.ref g5)) {w2 : zAW} (h8 : zpf w1 g5 3 6 (.int x1) = some w2) : zd scr 56 12 [some (.ref a0), some (.int x1), none] [] w = some (some (.int f4), w2) := by
  refine Eq.trans (zd_aload_n zh56 rfl rfl) ?_
  refine Eq.trans (zd_getfield zh56 (ci := 5) (k := 4) rfl h1 rfl) ?_
  refine Eq.trans (zd_aload_n zh56 rfl rfl) ?_
  refine Eq.trans (zd_getfield zh56 (ci := 5) (k := 0) rfl h2 rfl) ?_
  refine Eq.trans (zd_invVv zh56 zh21 rfl rfl ⟨Nat.le_of_ble_eq_true rfl, Nat.le_of_ble_eq_true rfl, Nat.le_of_ble_eq_true rfl, Nat.le_of_ble_eq_true rfl⟩ rfl h3 h4 rfl) ?_
  refine Eq.trans (zd_aload_n zh56 rfl rfl) ?_
  refine Eq.trans (zd_getfield zh56 (ci := 5) (k := 0) rfl h5 rfl) ?_
  refine Eq.trans (zd_getfield zh56 (ci := 3) (k := 6) rfl h6 rfl) ?_
  refine Eq.trans (zd_istore_n zh56 (ls' := [some (.ref a0), some (.int x1), some (.int f4)]) (Nat.le_of_ble_eq_true rfl) rfl rfl) ?_
  refine Eq.trans (zd_aload_n zh56 rfl rfl) ?_
  refine Eq.trans (zd_getfield zh56 (ci := 5) (k := 0) rfl h7 rfl) ?_
  refine Eq.trans (zd_iload_n zh56 rfl rfl) ?_
  refine Eq.trans (zd_putfield zh56 (ci := 3) (k := 6) rfl rfl h8 rfl) ?_
  refine Eq.trans (zd_iload_n zh56 rfl rfl) ?_
  exact zd_iret zh56 rfl rfl
/-! yX5_setPatience: 57, MarbleHeirs.setPatience(I)I -/
theorem b57_0 {scr : List Int32} {w : zAW} {a0 : Nat} {x1 : Int32}  : zd scr 57 0 [some (.ref a0), some (.int x1), none] [] w = if x1 < 0 then zd scr 57 10 [some (.ref a0), some (.int x1), none] [] w else zd scr 57 4 [some (.ref a0), some (.int x1), none] [] w := by
  refine Eq.trans (zd_iload_n zh57 rfl rfl) ?_
  exact zd_iflt zh57 (t := 10) (by decide) rfl
theorem b57_10 {scr : List Int32} {w : zAW} {a0 : Nat} {x1 : Int32}  : zd scr 57 10 [some (.ref a0), some (.int x1), none] [] w = some (some (.int (-2)), w) := by
  refine Eq.trans (zd_bipush zh57 (v := (-2)) rfl rfl) ?_
  exact zd_iret zh57 rfl rfl
theorem b57_4 {scr : List Int32} {w : zAW} {a0 : Nat} {x1 : Int32}  : zd scr 57 4 [some (.ref a0), some (.int x1), none] [] w = if (nI 8) < x1 then zd scr 57 10 [some (.ref a0), some (.int x1), none] [] w else zd scr 57 13 [some (.ref a0), some (.int x1), none] [] w := by
  refine Eq.trans (zd_iload_n zh57 rfl rfl) ?_
  refine Eq.trans (zd_bipush zh57 (v := (nI 8)) rfl rfl) ?_
  exact zd_icmple zh57 (t := 13) (by decide) rfl
set_option maxRecDepth 20000 in
theorem b57_13 {scr : List Int32} {w : zAW} {a0 : Nat} {x1 : Int32} {g1 : Nat} (h1 : zgf w a0 5 4 = some (.ref g1)) {g2 : Nat} (h2 : zgf w a0 5 0 = some (.ref g2)) (h3 : zob w g1 2 = true) {w1 : zAW} (h4 : zC scr 21 [.ref g1, .ref g2] w = some (none, w1)) {g3 : Nat} (h5 : zgf w1 a0 5 0 = some (.ref g3)) {f4 : Int32} (h6 : zgf w1 g3 3 7 = some (.int f4)) {g5 : Nat} (h7 : zgf w1 a0 5 0 = some (.ref g5)) {w2 : zAW} (h8 : zpf w1 g5 3 7 (.int x1) = some w2) : zd scr 57 13 [some (.ref a0), some (.int x1), none] [] w = some (some (.int f4), w2) := by
  refine Eq.trans (zd_aload_n zh57 rfl rfl) ?_
  refine Eq.trans (zd_getfield zh57 (ci := 5) (k := 4) rfl h1 rfl) ?_
  refine Eq.trans (zd_aload_n zh57 rfl rfl) ?_
  refine Eq.trans (zd_getfield zh57 (ci := 5) (k := 0) rfl h2 rfl) ?_
  refine Eq.trans (zd_invVv zh57 zh21 rfl rfl ⟨Nat.le_of_ble_eq_true rfl, Nat.le_of_ble_eq_true rfl, Nat.le_of_ble_eq_true rfl, Nat.le_of_ble_eq_true rfl⟩ rfl h3 h4 rfl) ?_
  refine Eq.trans (zd_aload_n zh57 rfl rfl) ?_
  refine Eq.trans (zd_getfield zh57 (ci := 5) (k := 0) rfl h5 rfl) ?_
  refine Eq.trans (zd_getfield zh57 (ci := 3) (k := 7) rfl h6 rfl) ?_
  refine Eq.trans (zd_istore_n zh57 (ls' := [some (.ref a0), some (.int x1), some (.int f4)]) (Nat.le_of_ble_eq_true rfl) rfl rfl) ?_
  refine Eq.trans (zd_aload_n zh57 rfl rfl) ?_
  refine Eq.trans (zd_getfield zh57 (ci := 5) (k := 0) rfl h7 rfl) ?_
  refine Eq.trans (zd_iload_n zh57 rfl rfl) ?_
  refine Eq.trans (zd_putfield zh57 (ci := 3) (k := 7) rfl rfl h8 rfl) ?_
  refine Eq.trans (zd_iload_n zh57 rfl rfl) ?_
  exact zd_iret zh57 rfl rfl
/-! yX5_grant: 58, MarbleHeirs.grant(II)I -/
set_option maxRecDepth 20000 in
theorem b58_0 {scr : List Int32} {w : zAW} {a0 : Nat} {x1 : Int32} {x2 : Int32} {f1 : Int32} {w1 : zAW} (h1 : zC scr 81 [.int x1] w = some (some (.int f1), w1)) : zd scr 58 0 [some (.ref a0), some (.int x1), some (.int x2), none] [] w = if f1 = 0 then zd scr 58 7 [some (.ref a0), some (.int x1), some (.int x2), none] [] w1 else zd scr 58 9 [some (.ref a0), some (.int x1), some (.int x2), none] [] w1 := by
  refine Eq.trans (zd_iload_n zh58 rfl rfl) ?_
  refine Eq.trans (zd_invSi zh58 zh81 rfl rfl ⟨Nat.le_of_ble_eq_true rfl, Nat.le_of_ble_eq_true rfl, Nat.le_of_ble_eq_true rfl, Nat.le_of_ble_eq_true rfl, Nat.le_of_ble_eq_true rfl⟩ rfl h1 rfl) ?_
  exact zd_ifne zh58 (t := 9) (by decide) rfl
theorem b58_7 {scr : List Int32} {w : zAW} {a0 : Nat} {x1 : Int32} {x2 : Int32}  : zd scr 58 7 [some (.ref a0), some (.int x1), some (.int x2), none] [] w = some (some (.int (-1)), w) := by
  refine Eq.trans (zd_iconst zh58 (v := (-1)) rfl rfl) ?_
  exact zd_iret zh58 rfl rfl
theorem b58_9 {scr : List Int32} {w : zAW} {a0 : Nat} {x1 : Int32} {x2 : Int32}  : zd scr 58 9 [some (.ref a0), some (.int x1), some (.int x2), none] [] w = if x2 < 0 then zd scr 58 19 [some (.ref a0), some (.int x1), some (.int x2), none] [] w else zd scr 58 13 [some (.ref a0), some (.int x1), some (.int x2), none] [] w := by
  refine Eq.trans (zd_iload_n zh58 rfl rfl) ?_
  exact zd_iflt zh58 (t := 19) (by decide) rfl
theorem b58_19 {scr : List Int32} {w : zAW} {a0 : Nat} {x1 : Int32} {x2 : Int32}  : zd scr 58 19 [some (.ref a0), some (.int x1), some (.int x2), none] [] w = some (some (.int (-2)), w) := by
  refine Eq.trans (zd_bipush zh58 (v := (-2)) rfl rfl) ?_
  exact zd_iret zh58 rfl rfl
theorem b58_13 {scr : List Int32} {w : zAW} {a0 : Nat} {x1 : Int32} {x2 : Int32}  : zd scr 58 13 [some (.ref a0), some (.int x1), some (.int x2), none] [] w = if (nI 9) < x2 then zd scr 58 19 [some (.ref a0), some (.int x1), some (.int x2), none] [] w else zd scr 58 22 [some (.ref a0), some (.int x1), some (.int x2), none] [] w := by
  refine Eq.trans (zd_iload_n zh58 rfl rfl) ?_
  refine Eq.trans (zd_bipush zh58 (v := (nI 9)) rfl rfl) ?_
  exact zd_icmple zh58 (t := 22) (by decide) rfl
set_option maxRecDepth 20000 in
theorem b58_22 {scr : List Int32} {w : zAW} {a0 : Nat} {x1 : Int32} {x2 : Int32} {g1 : Nat} (h1 : zgf w a0 5 4 = some (.ref g1)) {g2 : Nat} (h2 : zgf w a0 5 0 = some (.ref g2)) (h3 : zob w g1 2 = true) {w1 : zAW} (h4 : zC scr 21 [.ref g1, .ref g2] w = some (none, w1)) {g3 : Nat} (h5 : zgf w1 a0 5 0 = some (.ref g3)) {g4 : Nat} (h6 : zgf w1 g3 3 5 = some (.ref g4)) {f5 : Int32} (h7 : zal w1 g4 x1 = some f5) {g6 : Nat} (h8 : zgf w1 a0 5 0 = some (.ref g6)) {g7 : Nat} (h9 : zgf w1 g6 3 5 = some (.ref g7)) {w2 : zAW} (h10 : zas w1 g7 x1 x2 = some w2) : zd scr 58 22 [some (.ref a0), some (.int x1), some (.int x2), none] [] w = some (some (.int f5), w2) := by
  refine Eq.trans (zd_aload_n zh58 rfl rfl) ?_
  refine Eq.trans (zd_getfield zh58 (ci := 5) (k := 4) rfl h1 rfl) ?_
  refine Eq.trans (zd_aload_n zh58 rfl rfl) ?_
  refine Eq.trans (zd_getfield zh58 (ci := 5) (k := 0) rfl h2 rfl) ?_
  refine Eq.trans (zd_invVv zh58 zh21 rfl rfl ⟨Nat.le_of_ble_eq_true rfl, Nat.le_of_ble_eq_true rfl, Nat.le_of_ble_eq_true rfl, Nat.le_of_ble_eq_true rfl⟩ rfl h3 h4 rfl) ?_
  refine Eq.trans (zd_aload_n zh58 rfl rfl) ?_
  refine Eq.trans (zd_getfield zh58 (ci := 5) (k := 0) rfl h5 rfl) ?_
  refine Eq.trans (zd_getfield zh58 (ci := 3) (k := 5) rfl h6 rfl) ?_
  refine Eq.trans (zd_iload_n zh58 rfl rfl) ?_
  refine Eq.trans (zd_iaload zh58 h7 rfl) ?_
  refine Eq.trans (zd_istore_n zh58 (ls' := [some (.ref a0), some (.int x1), some (.int x2), some (.int f5)]) (Nat.le_of_ble_eq_true rfl) rfl rfl) ?_
  refine Eq.trans (zd_aload_n zh58 rfl rfl) ?_
  refine Eq.trans (zd_getfield zh58 (ci := 5) (k := 0) rfl h8 rfl) ?_
  refine Eq.trans (zd_getfield zh58 (ci := 3) (k := 5) rfl h9 rfl) ?_
  refine Eq.trans (zd_iload_n zh58 rfl rfl) ?_
  refine Eq.trans (zd_iload_n zh58 rfl rfl) ?_
  refine Eq.trans (zd_iastore zh58 h10 rfl) ?_
  refine Eq.trans (zd_iload_n zh58 rfl rfl) ?_
  exact zd_iret zh58 rfl rfl
/-! yX5_drop: 59, MarbleHeirs.drop(II)I -/
set_option maxRecDepth 20000 in
theorem b59_0 {scr : List Int32} {w : zAW} {a0 : Nat} {x1 : Int32} {x2 : Int32} {f1 : Int32} {w1 : zAW} (h1 : zC scr 82 [.int x1] w = some (some (.int f1), w1)) : zd scr 59 0 [some (.ref a0), some (.int x1), some (.int x2)] [] w = if f1 = 0 then zd scr 59 18 [some (.ref a0), some (.int x1), some (.int x2)] [] w1 else zd scr 59 7 [some (.ref a0), some (.int x1), some (.int x2)] [] w1 := by
  refine Eq.trans (zd_iload_n zh59 rfl rfl) ?_
  refine Eq.trans (zd_invSi zh59 zh82 rfl rfl ⟨Nat.le_of_ble_eq_true rfl, Nat.le_of_ble_eq_true rfl, Nat.le_of_ble_eq_true rfl, Nat.le_of_ble_eq_true rfl, Nat.le_of_ble_eq_true rfl⟩ rfl h1 rfl) ?_
  exact zd_ifeq zh59 (t := 18) (by decide) rfl
theorem b59_18 {scr : List Int32} {w : zAW} {a0 : Nat} {x1 : Int32} {x2 : Int32}  : zd scr 59 18 [some (.ref a0), some (.int x1), some (.int x2)] [] w = some (some (.int (-2)), w) := by
  refine Eq.trans (zd_bipush zh59 (v := (-2)) rfl rfl) ?_
  exact zd_iret zh59 rfl rfl
theorem b59_7 {scr : List Int32} {w : zAW} {a0 : Nat} {x1 : Int32} {x2 : Int32}  : zd scr 59 7 [some (.ref a0), some (.int x1), some (.int x2)] [] w = if x2 < (nI 1) then zd scr 59 18 [some (.ref a0), some (.int x1), some (.int x2)] [] w else zd scr 59 12 [some (.ref a0), some (.int x1), some (.int x2)] [] w := by
  refine Eq.trans (zd_iload_n zh59 rfl rfl) ?_
  refine Eq.trans (zd_iconst zh59 (v := (nI 1)) rfl rfl) ?_
  exact zd_icmplt zh59 (t := 18) (by decide) rfl
theorem b59_12 {scr : List Int32} {w : zAW} {a0 : Nat} {x1 : Int32} {x2 : Int32}  : zd scr 59 12 [some (.ref a0), some (.int x1), some (.int x2)] [] w = if (nI 9) < x2 then zd scr 59 18 [some (.ref a0), some (.int x1), some (.int x2)] [] w else zd scr 59 21 [some (.ref a0), some (.int x1), some (.int x2)] [] w := by
  refine Eq.trans (zd_iload_n zh59 rfl rfl) ?_
  refine Eq.trans (zd_bipush zh59 (v := (nI 9)) rfl rfl) ?_
  exact zd_icmple zh59 (t := 21) (by decide) rfl
set_option maxRecDepth 20000 in
theorem b59_21 {scr : List Int32} {w : zAW} {a0 : Nat} {x1 : Int32} {x2 : Int32} {g1 : Nat} (h1 : zgf w a0 5 0 = some (.ref g1)) {g2 : Nat} (h2 : zgf w g1 3 0 = some (.ref g2)) (h3 : zob w g2 1 = true) {f3 : Int32} {w1 : zAW} (h4 : zC scr 15 [.ref g2] w = some (some (.int f3), w1)) : zd scr 59 21 [some (.ref a0), some (.int x1), some (.int x2)] [] w = if f3 = 0 then zd scr 59 34 [some (.ref a0), some (.int x1), some (.int x2)] [] w1 else zd scr 59 37 [some (.ref a0), some (.int x1), some (.int x2)] [] w1 := by
  refine Eq.trans (zd_aload_n zh59 rfl rfl) ?_
  refine Eq.trans (zd_getfield zh59 (ci := 5) (k := 0) rfl h1 rfl) ?_
  refine Eq.trans (zd_getfield zh59 (ci := 3) (k := 0) rfl h2 rfl) ?_
  refine Eq.trans (zd_invVi zh59 zh15 rfl rfl ⟨Nat.le_of_ble_eq_true rfl, Nat.le_of_ble_eq_true rfl, Nat.le_of_ble_eq_true rfl, Nat.le_of_ble_eq_true rfl⟩ rfl h3 h4 rfl) ?_
  exact zd_ifne zh59 (t := 37) (by decide) rfl
theorem b59_34 {scr : List Int32} {w : zAW} {a0 : Nat} {x1 : Int32} {x2 : Int32}  : zd scr 59 34 [some (.ref a0), some (.int x1), some (.int x2)] [] w = some (some (.int (-4)), w) := by
  refine Eq.trans (zd_bipush zh59 (v := (-4)) rfl rfl) ?_
  exact zd_iret zh59 rfl rfl
set_option maxRecDepth 20000 in
theorem b59_37 {scr : List Int32} {w : zAW} {a0 : Nat} {x1 : Int32} {x2 : Int32} {g1 : Nat} (h1 : zgf w a0 5 4 = some (.ref g1)) {g2 : Nat} (h2 : zgf w a0 5 0 = some (.ref g2)) (h3 : zob w g1 2 = true) {w1 : zAW} (h4 : zC scr 21 [.ref g1, .ref g2] w = some (none, w1)) {g3 : Nat} (h5 : zgf w1 a0 5 0 = some (.ref g3)) {g4 : Nat} (h6 : zgf w1 g3 3 0 = some (.ref g4)) (h7 : zob w1 g4 1 = true) {f5 : Int32} {w2 : zAW} (h8 : zC scr 16 [.ref g4, .int x1, .int x2] w1 = some (some (.int f5), w2)) {g6 : Nat} (h9 : zgf w2 a0 5 0 = some (.ref g6)) {g7 : Nat} (h10 : zgf w2 g6 3 0 = some (.ref g7)) (h11 : zob w2 g7 1 = true) {f8 : Int32} {w3 : zAW} (h12 : zC scr 8 [.ref g7, .int (nI 6)] w2 = some (some (.int f8), w3)) : zd scr 59 37 [some (.ref a0), some (.int x1), some (.int x2)] [] w = some (some (.int f8), w3) := by
  refine Eq.trans (zd_aload_n zh59 rfl rfl) ?_
  refine Eq.trans (zd_getfield zh59 (ci := 5) (k := 4) rfl h1 rfl) ?_
  refine Eq.trans (zd_aload_n zh59 rfl rfl) ?_
  refine Eq.trans (zd_getfield zh59 (ci := 5) (k := 0) rfl h2 rfl) ?_
  refine Eq.trans (zd_invVv zh59 zh21 rfl rfl ⟨Nat.le_of_ble_eq_true rfl, Nat.le_of_ble_eq_true rfl, Nat.le_of_ble_eq_true rfl, Nat.le_of_ble_eq_true rfl⟩ rfl h3 h4 rfl) ?_
  refine Eq.trans (zd_aload_n zh59 rfl rfl) ?_
  refine Eq.trans (zd_getfield zh59 (ci := 5) (k := 0) rfl h5 rfl) ?_
  refine Eq.trans (zd_getfield zh59 (ci := 3) (k := 0) rfl h6 rfl) ?_
  refine Eq.trans (zd_iload_n zh59 rfl rfl) ?_
  refine Eq.trans (zd_iload_n zh59 rfl rfl) ?_
  refine Eq.trans (zd_invVi zh59 zh16 rfl rfl ⟨Nat.le_of_ble_eq_true rfl, Nat.le_of_ble_eq_true rfl, Nat.le_of_ble_eq_true rfl, Nat.le_of_ble_eq_true rfl⟩ rfl h7 h8 rfl) ?_
  refine Eq.trans (zd_pop zh59 rfl) ?_
  refine Eq.trans (zd_aload_n zh59 rfl rfl) ?_
  refine Eq.trans (zd_getfield zh59 (ci := 5) (k := 0) rfl h9 rfl) ?_
  refine Eq.trans (zd_getfield zh59 (ci := 3) (k := 0) rfl h10 rfl) ?_
  refine Eq.trans (zd_bipush zh59 (v := (nI 6)) rfl rfl) ?_
  refine Eq.trans (zd_invVi zh59 zh8 rfl rfl ⟨Nat.le_of_ble_eq_true rfl, Nat.le_of_ble_eq_true rfl, Nat.le_of_ble_eq_true rfl, Nat.le_of_ble_eq_true rfl⟩ rfl h11 h12 rfl) ?_
  exact zd_iret zh59 rfl rfl
/-! yX5_round: 60, MarbleHeirs.round()I -/
theorem b60_0 {scr : List Int32} {w : zAW} {a0 : Nat} {g1 : Nat} (h1 : zgf w a0 5 0 = some (.ref g1)) {f2 : Int32} (h2 : zgf w g1 3 1 = some (.int f2)) : zd scr 60 0 [some (.ref a0)] [] w = if f2 = 0 then zd scr 60 10 [some (.ref a0)] [] w else zd scr 60 13 [some (.ref a0)] [] w := by
  refine Eq.trans (zd_aload_n zh60 rfl rfl) ?_
  refine Eq.trans (zd_getfield zh60 (ci := 5) (k := 0) rfl h1 rfl) ?_
  refine Eq.trans (zd_getfield zh60 (ci := 3) (k := 1) rfl h2 rfl) ?_
  exact zd_ifne zh60 (t := 13) (by decide) rfl
theorem b60_10 {scr : List Int32} {w : zAW} {a0 : Nat}  : zd scr 60 10 [some (.ref a0)] [] w = some (some (.int (-3)), w) := by
  refine Eq.trans (zd_bipush zh60 (v := (-3)) rfl rfl) ?_
  exact zd_iret zh60 rfl rfl
set_option maxRecDepth 20000 in
theorem b60_13 {scr : List Int32} {w : zAW} {a0 : Nat} {g1 : Nat} (h1 : zgf w a0 5 4 = some (.ref g1)) {g2 : Nat} (h2 : zgf w a0 5 0 = some (.ref g2)) (h3 : zob w g1 2 = true) {w1 : zAW} (h4 : zC scr 21 [.ref g1, .ref g2] w = some (none, w1)) {g3 : Nat} (h5 : zgf w1 a0 5 0 = some (.ref g3)) (h6 : zob w1 g3 3 = true) {f4 : Int32} {w2 : zAW} (h7 : zC scr 32 [.ref g3] w1 = some (some (.int f4), w2)) : zd scr 60 13 [some (.ref a0)] [] w = some (some (.int f4), w2) := by
  refine Eq.trans (zd_aload_n zh60 rfl rfl) ?_
  refine Eq.trans (zd_getfield zh60 (ci := 5) (k := 4) rfl h1 rfl) ?_
  refine Eq.trans (zd_aload_n zh60 rfl rfl) ?_
  refine Eq.trans (zd_getfield zh60 (ci := 5) (k := 0) rfl h2 rfl) ?_
  refine Eq.trans (zd_invVv zh60 zh21 rfl rfl ⟨Nat.le_of_ble_eq_true rfl, Nat.le_of_ble_eq_true rfl, Nat.le_of_ble_eq_true rfl, Nat.le_of_ble_eq_true rfl⟩ rfl h3 h4 rfl) ?_
  refine Eq.trans (zd_aload_n zh60 rfl rfl) ?_
  refine Eq.trans (zd_getfield zh60 (ci := 5) (k := 0) rfl h5 rfl) ?_
  refine Eq.trans (zd_invVi zh60 zh32 rfl rfl ⟨Nat.le_of_ble_eq_true rfl, Nat.le_of_ble_eq_true rfl, Nat.le_of_ble_eq_true rfl, Nat.le_of_ble_eq_true rfl⟩ rfl h6 h7 rfl) ?_
  exact zd_iret zh60 rfl rfl
/-! yX5_divide: 61, MarbleHeirs.divide()I -/
theorem b61_0 {scr : List Int32} {w : zAW} {a0 : Nat} {g1 : Nat} (h1 : zgf w a0 5 0 = some (.ref g1)) {f2 : Int32} (h2 : zgf w g1 3 1 = some (.int f2)) : zd scr 61 0 [some (.ref a0)] [] w = if f2 = 0 then zd scr 61 10 [some (.ref a0)] [] w else zd scr 61 13 [some (.ref a0)] [] w := by
  refine Eq.trans (zd_aload_n zh61 rfl rfl) ?_
  refine Eq.trans (zd_getfield zh61 (ci := 5) (k := 0) rfl h1 rfl) ?_
  refine Eq.trans (zd_getfield zh61 (ci := 3) (k := 1) rfl h2 rfl) ?_
  exact zd_ifne zh61 (t := 13) (by decide) rfl
theorem b61_10 {scr : List Int32} {w : zAW} {a0 : Nat}  : zd scr 61 10 [some (.ref a0)] [] w = some (some (.int (-3)), w) := by
  refine Eq.trans (zd_bipush zh61 (v := (-3)) rfl rfl) ?_
  exact zd_iret zh61 rfl rfl
set_option maxRecDepth 20000 in
theorem b61_13 {scr : List Int32} {w : zAW} {a0 : Nat} {g1 : Nat} (h1 : zgf w a0 5 4 = some (.ref g1)) {g2 : Nat} (h2 : zgf w a0 5 0 = some (.ref g2)) (h3 : zob w g1 2 = true) {w1 : zAW} (h4 : zC scr 21 [.ref g1, .ref g2] w = some (none, w1)) {g3 : Nat} (h5 : zgf w1 a0 5 0 = some (.ref g3)) (h6 : zob w1 g3 3 = true) {f4 : Int32} {w2 : zAW} (h7 : zC scr 31 [.ref g3] w1 = some (some (.int f4), w2)) : zd scr 61 13 [some (.ref a0)] [] w = some (some (.int f4), w2) := by
  refine Eq.trans (zd_aload_n zh61 rfl rfl) ?_
  refine Eq.trans (zd_getfield zh61 (ci := 5) (k := 4) rfl h1 rfl) ?_
  refine Eq.trans (zd_aload_n zh61 rfl rfl) ?_
  refine Eq.trans (zd_getfield zh61 (ci := 5) (k := 0) rfl h2 rfl) ?_
  refine Eq.trans (zd_invVv zh61 zh21 rfl rfl ⟨Nat.le_of_ble_eq_true rfl, Nat.le_of_ble_eq_true rfl, Nat.le_of_ble_eq_true rfl, Nat.le_of_ble_eq_true rfl⟩ rfl h3 h4 rfl) ?_
  refine Eq.trans (zd_aload_n zh61 rfl rfl) ?_
  refine Eq.trans (zd_getfield zh61 (ci := 5) (k := 0) rfl h5 rfl) ?_
  refine Eq.trans (zd_invVi zh61 zh31 rfl rfl ⟨Nat.le_of_ble_eq_true rfl, Nat.le_of_ble_eq_true rfl, Nat.le_of_ble_eq_true rfl, Nat.le_of_ble_eq_true rfl⟩ rfl h6 h7 rfl) ?_
  exact zd_iret zh61 rfl rfl
/-! yX5_swap: 62, MarbleHeirs.swap(IIII)I -/
set_option maxRecDepth 20000 in
theorem b62_0 {scr : List Int32} {w : zAW} {a0 : Nat} {x1 : Int32} {x2 : Int32} {x3 : Int32} {x4 : Int32} (h1 : zob w a0 5 = true) {f1 : Int32} {w1 : zAW} (h2 : zC scr 84 [.ref a0, .int x1, .int x2, .int x3, .int x4] w = some (some (.int f1), w1)) : zd scr 62 0 [some (.ref a0), some (.int x1), some (.int x2), some (.int x3), some (.int x4), none] [] w = if f1 = 0 then zd scr 62 19 [some (.ref a0), some (.int x1), some (.int x2), some (.int x3), some (.int x4), some (.int f1)] [] w1 else zd scr 62 16 [some (.ref a0), some (.int x1), some (.int x2), some (.int x3), some (.int x4), some (.int f1)] [] w1 := by
  refine Eq.trans (zd_aload_n zh62 rfl rfl) ?_
  refine Eq.trans (zd_iload_n zh62 rfl rfl) ?_
  refine Eq.trans (zd_iload_n zh62 rfl rfl) ?_
  refine Eq.trans (zd_iload_n zh62 rfl rfl) ?_
  refine Eq.trans (zd_iload zh62 rfl rfl) ?_
  refine Eq.trans (zd_invVi zh62 zh84 rfl rfl ⟨Nat.le_of_ble_eq_true rfl, Nat.le_of_ble_eq_true rfl, Nat.le_of_ble_eq_true rfl, Nat.le_of_ble_eq_true rfl⟩ rfl h1 h2 rfl) ?_
  refine Eq.trans (zd_istore zh62 (ls' := [some (.ref a0), some (.int x1), some (.int x2), some (.int x3), some (.int x4), some (.int f1)]) (Nat.le_of_ble_eq_true rfl) rfl rfl) ?_
  refine Eq.trans (zd_iload zh62 rfl rfl) ?_
  exact zd_ifeq zh62 (t := 19) (by decide) rfl
set_option maxRecDepth 20000 in
theorem b62_19 {scr : List Int32} {w : zAW} {a0 : Nat} {x1 : Int32} {x2 : Int32} {x3 : Int32} {x4 : Int32} {x5 : Int32} {g1 : Nat} (h1 : zgf w a0 5 4 = some (.ref g1)) {g2 : Nat} (h2 : zgf w a0 5 0 = some (.ref g2)) (h3 : zob w g1 2 = true) {w1 : zAW} (h4 : zC scr 21 [.ref g1, .ref g2] w = some (none, w1)) {g3 : Nat} (h5 : zgf w1 a0 5 0 = some (.ref g3)) (h6 : zob w1 g3 3 = true) {f4 : Int32} {w2 : zAW} (h7 : zC scr 36 [.ref g3, .int x1, .int x2, .int x3, .int x4] w1 = some (some (.int f4), w2)) : zd scr 62 19 [some (.ref a0), some (.int x1), some (.int x2), some (.int x3), some (.int x4), some (.int x5)] [] w = some (some (.int f4), w2) := by
  refine Eq.trans (zd_aload_n zh62 rfl rfl) ?_
  refine Eq.trans (zd_getfield zh62 (ci := 5) (k := 4) rfl h1 rfl) ?_
  refine Eq.trans (zd_aload_n zh62 rfl rfl) ?_
  refine Eq.trans (zd_getfield zh62 (ci := 5) (k := 0) rfl h2 rfl) ?_
  refine Eq.trans (zd_invVv zh62 zh21 rfl rfl ⟨Nat.le_of_ble_eq_true rfl, Nat.le_of_ble_eq_true rfl, Nat.le_of_ble_eq_true rfl, Nat.le_of_ble_eq_true rfl⟩ rfl h3 h4 rfl) ?_
  refine Eq.trans (zd_aload_n zh62 rfl rfl) ?_
  refine Eq.trans (zd_getfield zh62 (ci := 5) (k := 0) rfl h5 rfl) ?_
  refine Eq.trans (zd_iload_n zh62 rfl rfl) ?_
  refine Eq.trans (zd_iload_n zh62 rfl rfl) ?_
  refine Eq.trans (zd_iload_n zh62 rfl rfl) ?_
  refine Eq.trans (zd_iload zh62 rfl rfl) ?_
  refine Eq.trans (zd_invVi zh62 zh36 rfl rfl ⟨Nat.le_of_ble_eq_true rfl, Nat.le_of_ble_eq_true rfl, Nat.le_of_ble_eq_true rfl, Nat.le_of_ble_eq_true rfl⟩ rfl h6 h7 rfl) ?_
  exact zd_iret zh62 rfl rfl
theorem b62_16 {scr : List Int32} {w : zAW} {a0 : Nat} {x1 : Int32} {x2 : Int32} {x3 : Int32} {x4 : Int32} {x5 : Int32}  : zd scr 62 16 [some (.ref a0), some (.int x1), some (.int x2), some (.int x3), some (.int x4), some (.int x5)] [] w = some (some (.int x5), w) := by
  refine Eq.trans (zd_iload zh62 rfl rfl) ?_
  exact zd_iret zh62 rfl rfl
/-! yX5_settle: 63, MarbleHeirs.settle()I -/
set_option maxRecDepth 20000 in
theorem b63_0 {scr : List Int32} {w : zAW} {a0 : Nat} {g1 : Nat} (h1 : zgf w a0 5 4 = some (.ref g1)) {g2 : Nat} (h2 : zgf w a0 5 0 = some (.ref g2)) (h3 : zob w g1 2 = true) {w1 : zAW} (h4 : zC scr 21 [.ref g1, .ref g2] w = some (none, w1)) {g3 : Nat} (h5 : zgf w1 a0 5 6 = some (.ref g3)) {g4 : Nat} (h6 : zgf w1 a0 5 0 = some (.ref g4)) (h7 : zob w1 g3 0 = true) {w2 : zAW} (h8 : zC scr 2 [.ref g3, .ref g4] w1 = some (none, w2)) : zd scr 63 0 [some (.ref a0), none] [] w = zd scr 63 24 [some (.ref a0), some (.int (nI 0))] [] w2 := by
  refine Eq.trans (zd_aload_n zh63 rfl rfl) ?_
  refine Eq.trans (zd_getfield zh63 (ci := 5) (k := 4) rfl h1 rfl) ?_
  refine Eq.trans (zd_aload_n zh63 rfl rfl) ?_
  refine Eq.trans (zd_getfield zh63 (ci := 5) (k := 0) rfl h2 rfl) ?_
  refine Eq.trans (zd_invVv zh63 zh21 rfl rfl ⟨Nat.le_of_ble_eq_true rfl, Nat.le_of_ble_eq_true rfl, Nat.le_of_ble_eq_true rfl, Nat.le_of_ble_eq_true rfl⟩ rfl h3 h4 rfl) ?_
  refine Eq.trans (zd_aload_n zh63 rfl rfl) ?_
  refine Eq.trans (zd_getfield zh63 (ci := 5) (k := 6) rfl h5 rfl) ?_
  refine Eq.trans (zd_aload_n zh63 rfl rfl) ?_
  refine Eq.trans (zd_getfield zh63 (ci := 5) (k := 0) rfl h6 rfl) ?_
  refine Eq.trans (zd_invVv zh63 zh2 rfl rfl ⟨Nat.le_of_ble_eq_true rfl, Nat.le_of_ble_eq_true rfl, Nat.le_of_ble_eq_true rfl, Nat.le_of_ble_eq_true rfl⟩ rfl h7 h8 rfl) ?_
  refine Eq.trans (zd_iconst zh63 (v := (nI 0)) rfl rfl) ?_
  refine Eq.trans (zd_istore_n zh63 (ls' := [some (.ref a0), some (.int (nI 0))]) (Nat.le_of_ble_eq_true rfl) rfl rfl) ?_
  exact rfl
theorem b63_24 {scr : List Int32} {w : zAW} {a0 : Nat} {x1 : Int32} {g1 : Nat} (h1 : zgf w a0 5 6 = some (.ref g1)) {f2 : Int32} (h2 : zgf w g1 0 4 = some (.int f2)) : zd scr 63 24 [some (.ref a0), some (.int x1)] [] w = if 0 < f2 then zd scr 63 34 [some (.ref a0), some (.int x1)] [] w else zd scr 63 92 [some (.ref a0), some (.int x1)] [] w := by
  refine Eq.trans (zd_aload_n zh63 rfl rfl) ?_
  refine Eq.trans (zd_getfield zh63 (ci := 5) (k := 6) rfl h1 rfl) ?_
  refine Eq.trans (zd_getfield zh63 (ci := 0) (k := 4) rfl h2 rfl) ?_
  exact zd_ifle zh63 (t := 92) (by decide) rfl
theorem b63_34 {scr : List Int32} {w : zAW} {a0 : Nat} {x1 : Int32}  : zd scr 63 34 [some (.ref a0), some (.int x1)] [] w = if x1 < (nI 120) then zd scr 63 40 [some (.ref a0), some (.int x1)] [] w else zd scr 63 92 [some (.ref a0), some (.int x1)] [] w := by
  refine Eq.trans (zd_iload_n zh63 rfl rfl) ?_
  refine Eq.trans (zd_bipush zh63 (v := (nI 120)) rfl rfl) ?_
  exact zd_icmpge zh63 (t := 92) (by decide) rfl
theorem b63_92 {scr : List Int32} {w : zAW} {a0 : Nat} {x1 : Int32}  : zd scr 63 92 [some (.ref a0), some (.int x1)] [] w = some (some (.int x1), w) := by
  refine Eq.trans (zd_iload_n zh63 rfl rfl) ?_
  exact zd_iret zh63 rfl rfl
set_option maxRecDepth 20000 in
theorem b63_40 {scr : List Int32} {w : zAW} {a0 : Nat} {x1 : Int32} {g1 : Nat} (h1 : zgf w a0 5 0 = some (.ref g1)) {g2 : Nat} (h2 : zgf w a0 5 6 = some (.ref g2)) {f3 : Int32} (h3 : zgf w g2 0 0 = some (.int f3)) {g4 : Nat} (h4 : zgf w a0 5 6 = some (.ref g4)) {f5 : Int32} (h5 : zgf w g4 0 1 = some (.int f5)) {g6 : Nat} (h6 : zgf w a0 5 6 = some (.ref g6)) {f7 : Int32} (h7 : zgf w g6 0 2 = some (.int f7)) {g8 : Nat} (h8 : zgf w a0 5 6 = some (.ref g8)) {f9 : Int32} (h9 : zgf w g8 0 3 = some (.int f9)) (h10 : zob w g1 3 = true) {w1 : zAW} (h11 : zC scr 37 [.ref g1, .int f3, .int f5, .int f7, .int f9] w = some (none, w1)) {g10 : Nat} (h12 : zgf w1 a0 5 6 = some (.ref g10)) {g11 : Nat} (h13 : zgf w1 a0 5 0 = some (.ref g11)) (h14 : zob w1 g10 0 = true) {w2 : zAW} (h15 : zC scr 2 [.ref g10, .ref g11] w1 = some (none, w2)) : zd scr 63 40 [some (.ref a0), some (.int x1)] [] w = zd scr 63 24 [some (.ref a0), some (.int (x1 + (nI 1)))] [] w2 := by
  refine Eq.trans (zd_aload_n zh63 rfl rfl) ?_
  refine Eq.trans (zd_getfield zh63 (ci := 5) (k := 0) rfl h1 rfl) ?_
  refine Eq.trans (zd_aload_n zh63 rfl rfl) ?_
  refine Eq.trans (zd_getfield zh63 (ci := 5) (k := 6) rfl h2 rfl) ?_
  refine Eq.trans (zd_getfield zh63 (ci := 0) (k := 0) rfl h3 rfl) ?_
  refine Eq.trans (zd_aload_n zh63 rfl rfl) ?_
  refine Eq.trans (zd_getfield zh63 (ci := 5) (k := 6) rfl h4 rfl) ?_
  refine Eq.trans (zd_getfield zh63 (ci := 0) (k := 1) rfl h5 rfl) ?_
  refine Eq.trans (zd_aload_n zh63 rfl rfl) ?_
  refine Eq.trans (zd_getfield zh63 (ci := 5) (k := 6) rfl h6 rfl) ?_
  refine Eq.trans (zd_getfield zh63 (ci := 0) (k := 2) rfl h7 rfl) ?_
  refine Eq.trans (zd_aload_n zh63 rfl rfl) ?_
  refine Eq.trans (zd_getfield zh63 (ci := 5) (k := 6) rfl h8 rfl) ?_
  refine Eq.trans (zd_getfield zh63 (ci := 0) (k := 3) rfl h9 rfl) ?_
  refine Eq.trans (zd_invVv zh63 zh37 rfl rfl ⟨Nat.le_of_ble_eq_true rfl, Nat.le_of_ble_eq_true rfl, Nat.le_of_ble_eq_true rfl, Nat.le_of_ble_eq_true rfl⟩ rfl h10 h11 rfl) ?_
  refine Eq.trans (zd_iinc zh63 (ls' := [some (.ref a0), some (.int (x1 + (nI 1)))]) (v := (x1 + (nI 1))) rfl rfl rfl rfl) ?_
  refine Eq.trans (zd_aload_n zh63 rfl rfl) ?_
  refine Eq.trans (zd_getfield zh63 (ci := 5) (k := 6) rfl h12 rfl) ?_
  refine Eq.trans (zd_aload_n zh63 rfl rfl) ?_
  refine Eq.trans (zd_getfield zh63 (ci := 5) (k := 0) rfl h13 rfl) ?_
  refine Eq.trans (zd_invVv zh63 zh2 rfl rfl ⟨Nat.le_of_ble_eq_true rfl, Nat.le_of_ble_eq_true rfl, Nat.le_of_ble_eq_true rfl, Nat.le_of_ble_eq_true rfl⟩ rfl h14 h15 rfl) ?_
  refine Eq.trans (zd_goto zh63 (t := 24) (by decide) rfl) ?_
  exact rfl
/-! yX5_heir: 64, MarbleHeirs.heir(II)I -/
set_option maxRecDepth 20000 in
theorem b64_0 {scr : List Int32} {w : zAW} {a0 : Nat} {x1 : Int32} {x2 : Int32} {g1 : Nat} (h1 : zgf w a0 5 0 = some (.ref g1)) (h2 : zob w g1 3 = true) {f2 : Int32} {w1 : zAW} (h3 : zC scr 26 [.ref g1, .int x1] w = some (some (.int f2), w1)) : zd scr 64 0 [some (.ref a0), some (.int x1), some (.int x2)] [] w = if f2 = 0 then zd scr 64 11 [some (.ref a0), some (.int x1), some (.int x2)] [] w1 else zd scr 64 13 [some (.ref a0), some (.int x1), some (.int x2)] [] w1 := by
  refine Eq.trans (zd_aload_n zh64 rfl rfl) ?_
  refine Eq.trans (zd_getfield zh64 (ci := 5) (k := 0) rfl h1 rfl) ?_
  refine Eq.trans (zd_iload_n zh64 rfl rfl) ?_
  refine Eq.trans (zd_invVi zh64 zh26 rfl rfl ⟨Nat.le_of_ble_eq_true rfl, Nat.le_of_ble_eq_true rfl, Nat.le_of_ble_eq_true rfl, Nat.le_of_ble_eq_true rfl⟩ rfl h2 h3 rfl) ?_
  exact zd_ifne zh64 (t := 13) (by decide) rfl
theorem b64_11 {scr : List Int32} {w : zAW} {a0 : Nat} {x1 : Int32} {x2 : Int32}  : zd scr 64 11 [some (.ref a0), some (.int x1), some (.int x2)] [] w = some (some (.int (-1)), w) := by
  refine Eq.trans (zd_iconst zh64 (v := (-1)) rfl rfl) ?_
  exact zd_iret zh64 rfl rfl
theorem b64_13 {scr : List Int32} {w : zAW} {a0 : Nat} {x1 : Int32} {x2 : Int32}  : zd scr 64 13 [some (.ref a0), some (.int x1), some (.int x2)] [] w = if x2 < 0 then zd scr 64 22 [some (.ref a0), some (.int x1), some (.int x2)] [] w else zd scr 64 17 [some (.ref a0), some (.int x1), some (.int x2)] [] w := by
  refine Eq.trans (zd_iload_n zh64 rfl rfl) ?_
  exact zd_iflt zh64 (t := 22) (by decide) rfl
theorem b64_22 {scr : List Int32} {w : zAW} {a0 : Nat} {x1 : Int32} {x2 : Int32}  : zd scr 64 22 [some (.ref a0), some (.int x1), some (.int x2)] [] w = some (some (.int (-2)), w) := by
  refine Eq.trans (zd_bipush zh64 (v := (-2)) rfl rfl) ?_
  exact zd_iret zh64 rfl rfl
theorem b64_17 {scr : List Int32} {w : zAW} {a0 : Nat} {x1 : Int32} {x2 : Int32}  : zd scr 64 17 [some (.ref a0), some (.int x1), some (.int x2)] [] w = if (nI 5) < x2 then zd scr 64 22 [some (.ref a0), some (.int x1), some (.int x2)] [] w else zd scr 64 25 [some (.ref a0), some (.int x1), some (.int x2)] [] w := by
  refine Eq.trans (zd_iload_n zh64 rfl rfl) ?_
  refine Eq.trans (zd_iconst zh64 (v := (nI 5)) rfl rfl) ?_
  exact zd_icmple zh64 (t := 25) (by decide) rfl
set_option maxRecDepth 20000 in
theorem b64_25 {scr : List Int32} {w : zAW} {a0 : Nat} {x1 : Int32} {x2 : Int32} {g1 : Nat} (h1 : zgf w a0 5 0 = some (.ref g1)) (h2 : zob w g1 3 = true) {f2 : Int32} {w1 : zAW} (h3 : zC scr 40 [.ref g1, .int x1, .int x2] w = some (some (.int f2), w1)) : zd scr 64 25 [some (.ref a0), some (.int x1), some (.int x2)] [] w = some (some (.int f2), w1) := by
  refine Eq.trans (zd_aload_n zh64 rfl rfl) ?_
  refine Eq.trans (zd_getfield zh64 (ci := 5) (k := 0) rfl h1 rfl) ?_
  refine Eq.trans (zd_iload_n zh64 rfl rfl) ?_
  refine Eq.trans (zd_iload_n zh64 rfl rfl) ?_
  refine Eq.trans (zd_invVi zh64 zh40 rfl rfl ⟨Nat.le_of_ble_eq_true rfl, Nat.le_of_ble_eq_true rfl, Nat.le_of_ble_eq_true rfl, Nat.le_of_ble_eq_true rfl⟩ rfl h2 h3 rfl) ?_
  exact zd_iret zh64 rfl rfl
/-! yX5_bag: 65, MarbleHeirs.bag(III)I -/
set_option maxRecDepth 20000 in
theorem b65_0 {scr : List Int32} {w : zAW} {a0 : Nat} {x1 : Int32} {x2 : Int32} {x3 : Int32} {g1 : Nat} (h1 : zgf w a0 5 0 = some (.ref g1)) (h2 : zob w g1 3 = true) {f2 : Int32} {w1 : zAW} (h3 : zC scr 27 [.ref g1, .int x1, .int x2] w = some (some (.int f2), w1)) : zd scr 65 0 [some (.ref a0), some (.int x1), some (.int x2), some (.int x3)] [] w = if f2 = 0 then zd scr 65 12 [some (.ref a0), some (.int x1), some (.int x2), some (.int x3)] [] w1 else zd scr 65 14 [some (.ref a0), some (.int x1), some (.int x2), some (.int x3)] [] w1 := by
  refine Eq.trans (zd_aload_n zh65 rfl rfl) ?_
  refine Eq.trans (zd_getfield zh65 (ci := 5) (k := 0) rfl h1 rfl) ?_
  refine Eq.trans (zd_iload_n zh65 rfl rfl) ?_
  refine Eq.trans (zd_iload_n zh65 rfl rfl) ?_
  refine Eq.trans (zd_invVi zh65 zh27 rfl rfl ⟨Nat.le_of_ble_eq_true rfl, Nat.le_of_ble_eq_true rfl, Nat.le_of_ble_eq_true rfl, Nat.le_of_ble_eq_true rfl⟩ rfl h2 h3 rfl) ?_
  exact zd_ifne zh65 (t := 14) (by decide) rfl
theorem b65_12 {scr : List Int32} {w : zAW} {a0 : Nat} {x1 : Int32} {x2 : Int32} {x3 : Int32}  : zd scr 65 12 [some (.ref a0), some (.int x1), some (.int x2), some (.int x3)] [] w = some (some (.int (-1)), w) := by
  refine Eq.trans (zd_iconst zh65 (v := (-1)) rfl rfl) ?_
  exact zd_iret zh65 rfl rfl
set_option maxRecDepth 20000 in
theorem b65_14 {scr : List Int32} {w : zAW} {a0 : Nat} {x1 : Int32} {x2 : Int32} {x3 : Int32} {g1 : Nat} (h1 : zgf w a0 5 0 = some (.ref g1)) {g2 : Nat} (h2 : zgf w g1 3 0 = some (.ref g2)) (h3 : zob w g2 1 = true) {f3 : Int32} {w1 : zAW} (h4 : zC scr 12 [.ref g2, .int x1, .int x2, .int x3] w = some (some (.int f3), w1)) : zd scr 65 14 [some (.ref a0), some (.int x1), some (.int x2), some (.int x3)] [] w = some (some (.int f3), w1) := by
  refine Eq.trans (zd_aload_n zh65 rfl rfl) ?_
  refine Eq.trans (zd_getfield zh65 (ci := 5) (k := 0) rfl h1 rfl) ?_
  refine Eq.trans (zd_getfield zh65 (ci := 3) (k := 0) rfl h2 rfl) ?_
  refine Eq.trans (zd_iload_n zh65 rfl rfl) ?_
  refine Eq.trans (zd_iload_n zh65 rfl rfl) ?_
  refine Eq.trans (zd_iload_n zh65 rfl rfl) ?_
  refine Eq.trans (zd_invVi zh65 zh12 rfl rfl ⟨Nat.le_of_ble_eq_true rfl, Nat.le_of_ble_eq_true rfl, Nat.le_of_ble_eq_true rfl, Nat.le_of_ble_eq_true rfl⟩ rfl h3 h4 rfl) ?_
  exact zd_iret zh65 rfl rfl
/-! yX5_hopper: 66, MarbleHeirs.hopper(II)I -/
set_option maxRecDepth 20000 in
theorem b66_0 {scr : List Int32} {w : zAW} {a0 : Nat} {x1 : Int32} {x2 : Int32} {g1 : Nat} (h1 : zgf w a0 5 0 = some (.ref g1)) {g2 : Nat} (h2 : zgf w g1 3 0 = some (.ref g2)) (h3 : zob w g2 1 = true) {f3 : Int32} {w1 : zAW} (h4 : zC scr 9 [.ref g2, .int (nI 6), .int x1] w = some (some (.int f3), w1)) : zd scr 66 0 [some (.ref a0), some (.int x1), some (.int x2)] [] w = if f3 = 0 then zd scr 66 16 [some (.ref a0), some (.int x1), some (.int x2)] [] w1 else zd scr 66 18 [some (.ref a0), some (.int x1), some (.int x2)] [] w1 := by
  refine Eq.trans (zd_aload_n zh66 rfl rfl) ?_
  refine Eq.trans (zd_getfield zh66 (ci := 5) (k := 0) rfl h1 rfl) ?_
  refine Eq.trans (zd_getfield zh66 (ci := 3) (k := 0) rfl h2 rfl) ?_
  refine Eq.trans (zd_bipush zh66 (v := (nI 6)) rfl rfl) ?_
  refine Eq.trans (zd_iload_n zh66 rfl rfl) ?_
  refine Eq.trans (zd_invVi zh66 zh9 rfl rfl ⟨Nat.le_of_ble_eq_true rfl, Nat.le_of_ble_eq_true rfl, Nat.le_of_ble_eq_true rfl, Nat.le_of_ble_eq_true rfl⟩ rfl h3 h4 rfl) ?_
  exact zd_ifne zh66 (t := 18) (by decide) rfl
theorem b66_16 {scr : List Int32} {w : zAW} {a0 : Nat} {x1 : Int32} {x2 : Int32}  : zd scr 66 16 [some (.ref a0), some (.int x1), some (.int x2)] [] w = some (some (.int (-1)), w) := by
  refine Eq.trans (zd_iconst zh66 (v := (-1)) rfl rfl) ?_
  exact zd_iret zh66 rfl rfl
set_option maxRecDepth 20000 in
theorem b66_18 {scr : List Int32} {w : zAW} {a0 : Nat} {x1 : Int32} {x2 : Int32} {g1 : Nat} (h1 : zgf w a0 5 0 = some (.ref g1)) {g2 : Nat} (h2 : zgf w g1 3 0 = some (.ref g2)) (h3 : zob w g2 1 = true) {f3 : Int32} {w1 : zAW} (h4 : zC scr 12 [.ref g2, .int (nI 6), .int x1, .int x2] w = some (some (.int f3), w1)) : zd scr 66 18 [some (.ref a0), some (.int x1), some (.int x2)] [] w = some (some (.int f3), w1) := by
  refine Eq.trans (zd_aload_n zh66 rfl rfl) ?_
  refine Eq.trans (zd_getfield zh66 (ci := 5) (k := 0) rfl h1 rfl) ?_
  refine Eq.trans (zd_getfield zh66 (ci := 3) (k := 0) rfl h2 rfl) ?_
  refine Eq.trans (zd_bipush zh66 (v := (nI 6)) rfl rfl) ?_
  refine Eq.trans (zd_iload_n zh66 rfl rfl) ?_
  refine Eq.trans (zd_iload_n zh66 rfl rfl) ?_
  refine Eq.trans (zd_invVi zh66 zh12 rfl rfl ⟨Nat.le_of_ble_eq_true rfl, Nat.le_of_ble_eq_true rfl, Nat.le_of_ble_eq_true rfl, Nat.le_of_ble_eq_true rfl⟩ rfl h3 h4 rfl) ?_
  exact zd_iret zh66 rfl rfl
/-! yX5_vetoes: 67, MarbleHeirs.vetoes(I)I -/
set_option maxRecDepth 20000 in
theorem b67_0 {scr : List Int32} {w : zAW} {a0 : Nat} {x1 : Int32} {f1 : Int32} {w1 : zAW} (h1 : zC scr 81 [.int x1] w = some (some (.int f1), w1)) : zd scr 67 0 [some (.ref a0), some (.int x1)] [] w = if f1 = 0 then zd scr 67 7 [some (.ref a0), some (.int x1)] [] w1 else zd scr 67 9 [some (.ref a0), some (.int x1)] [] w1 := by
  refine Eq.trans (zd_iload_n zh67 rfl rfl) ?_
  refine Eq.trans (zd_invSi zh67 zh81 rfl rfl ⟨Nat.le_of_ble_eq_true rfl, Nat.le_of_ble_eq_true rfl, Nat.le_of_ble_eq_true rfl, Nat.le_of_ble_eq_true rfl, Nat.le_of_ble_eq_true rfl⟩ rfl h1 rfl) ?_
  exact zd_ifne zh67 (t := 9) (by decide) rfl
theorem b67_7 {scr : List Int32} {w : zAW} {a0 : Nat} {x1 : Int32}  : zd scr 67 7 [some (.ref a0), some (.int x1)] [] w = some (some (.int (-1)), w) := by
  refine Eq.trans (zd_iconst zh67 (v := (-1)) rfl rfl) ?_
  exact zd_iret zh67 rfl rfl
theorem b67_9 {scr : List Int32} {w : zAW} {a0 : Nat} {x1 : Int32} {g1 : Nat} (h1 : zgf w a0 5 0 = some (.ref g1)) {g2 : Nat} (h2 : zgf w g1 3 5 = some (.ref g2)) {f3 : Int32} (h3 : zal w g2 x1 = some f3) : zd scr 67 9 [some (.ref a0), some (.int x1)] [] w = some (some (.int f3), w) := by
  refine Eq.trans (zd_aload_n zh67 rfl rfl) ?_
  refine Eq.trans (zd_getfield zh67 (ci := 5) (k := 0) rfl h1 rfl) ?_
  refine Eq.trans (zd_getfield zh67 (ci := 3) (k := 5) rfl h2 rfl) ?_
  refine Eq.trans (zd_iload_n zh67 rfl rfl) ?_
  refine Eq.trans (zd_iaload zh67 h3 rfl) ?_
  exact zd_iret zh67 rfl rfl
/-! yX5_at: 68, MarbleHeirs.at(I)I -/
theorem b68_0 {scr : List Int32} {w : zAW} {a0 : Nat} {x1 : Int32}  : zd scr 68 0 [some (.ref a0), some (.int x1)] [] w = if x1 < 0 then zd scr 68 15 [some (.ref a0), some (.int x1)] [] w else zd scr 68 4 [some (.ref a0), some (.int x1)] [] w := by
  refine Eq.trans (zd_iload_n zh68 rfl rfl) ?_
  exact zd_iflt zh68 (t := 15) (by decide) rfl
theorem b68_15 {scr : List Int32} {w : zAW} {a0 : Nat} {x1 : Int32}  : zd scr 68 15 [some (.ref a0), some (.int x1)] [] w = some (some (.int (-1)), w) := by
  refine Eq.trans (zd_iconst zh68 (v := (-1)) rfl rfl) ?_
  exact zd_iret zh68 rfl rfl
theorem b68_4 {scr : List Int32} {w : zAW} {a0 : Nat} {x1 : Int32} {g1 : Nat} (h1 : zgf w a0 5 0 = some (.ref g1)) {f2 : Int32} (h2 : zgf w g1 3 1 = some (.int f2)) : zd scr 68 4 [some (.ref a0), some (.int x1)] [] w = if x1 < f2 then zd scr 68 17 [some (.ref a0), some (.int x1)] [] w else zd scr 68 15 [some (.ref a0), some (.int x1)] [] w := by
  refine Eq.trans (zd_iload_n zh68 rfl rfl) ?_
  refine Eq.trans (zd_aload_n zh68 rfl rfl) ?_
  refine Eq.trans (zd_getfield zh68 (ci := 5) (k := 0) rfl h1 rfl) ?_
  refine Eq.trans (zd_getfield zh68 (ci := 3) (k := 1) rfl h2 rfl) ?_
  exact zd_icmplt zh68 (t := 17) (by decide) rfl
theorem b68_17 {scr : List Int32} {w : zAW} {a0 : Nat} {x1 : Int32} {g1 : Nat} (h1 : zgf w a0 5 0 = some (.ref g1)) {g2 : Nat} (h2 : zgf w g1 3 4 = some (.ref g2)) {f3 : Int32} (h3 : zal w g2 x1 = some f3) : zd scr 68 17 [some (.ref a0), some (.int x1)] [] w = some (some (.int f3), w) := by
  refine Eq.trans (zd_aload_n zh68 rfl rfl) ?_
  refine Eq.trans (zd_getfield zh68 (ci := 5) (k := 0) rfl h1 rfl) ?_
  refine Eq.trans (zd_getfield zh68 (ci := 3) (k := 4) rfl h2 rfl) ?_
  refine Eq.trans (zd_iload_n zh68 rfl rfl) ?_
  refine Eq.trans (zd_iaload zh68 h3 rfl) ?_
  exact zd_iret zh68 rfl rfl
/-! yX5_total: 69, MarbleHeirs.total(I)I -/
theorem b69_0 {scr : List Int32} {w : zAW} {a0 : Nat} {x1 : Int32}  : zd scr 69 0 [some (.ref a0), some (.int x1)] [] w = if x1 < 0 then zd scr 69 10 [some (.ref a0), some (.int x1)] [] w else zd scr 69 4 [some (.ref a0), some (.int x1)] [] w := by
  refine Eq.trans (zd_iload_n zh69 rfl rfl) ?_
  exact zd_iflt zh69 (t := 10) (by decide) rfl
theorem b69_10 {scr : List Int32} {w : zAW} {a0 : Nat} {x1 : Int32}  : zd scr 69 10 [some (.ref a0), some (.int x1)] [] w = some (some (.int (-2)), w) := by
  refine Eq.trans (zd_bipush zh69 (v := (-2)) rfl rfl) ?_
  exact zd_iret zh69 rfl rfl
theorem b69_4 {scr : List Int32} {w : zAW} {a0 : Nat} {x1 : Int32}  : zd scr 69 4 [some (.ref a0), some (.int x1)] [] w = if (nI 12) < x1 then zd scr 69 10 [some (.ref a0), some (.int x1)] [] w else zd scr 69 13 [some (.ref a0), some (.int x1)] [] w := by
  refine Eq.trans (zd_iload_n zh69 rfl rfl) ?_
  refine Eq.trans (zd_bipush zh69 (v := (nI 12)) rfl rfl) ?_
  exact zd_icmple zh69 (t := 13) (by decide) rfl
set_option maxRecDepth 20000 in
theorem b69_13 {scr : List Int32} {w : zAW} {a0 : Nat} {x1 : Int32} {g1 : Nat} (h1 : zgf w a0 5 0 = some (.ref g1)) (h2 : zob w g1 3 = true) {f2 : Int32} {w1 : zAW} (h3 : zC scr 41 [.ref g1, .int x1] w = some (some (.int f2), w1)) : zd scr 69 13 [some (.ref a0), some (.int x1)] [] w = some (some (.int f2), w1) := by
  refine Eq.trans (zd_aload_n zh69 rfl rfl) ?_
  refine Eq.trans (zd_getfield zh69 (ci := 5) (k := 0) rfl h1 rfl) ?_
  refine Eq.trans (zd_iload_n zh69 rfl rfl) ?_
  refine Eq.trans (zd_invVi zh69 zh41 rfl rfl ⟨Nat.le_of_ble_eq_true rfl, Nat.le_of_ble_eq_true rfl, Nat.le_of_ble_eq_true rfl, Nat.le_of_ble_eq_true rfl⟩ rfl h2 h3 rfl) ?_
  exact zd_iret zh69 rfl rfl
/-! yX5_ifDivided: 70, MarbleHeirs.ifDivided(II)I -/
set_option maxRecDepth 20000 in
theorem b70_0 {scr : List Int32} {w : zAW} {a0 : Nat} {x1 : Int32} {x2 : Int32} {g1 : Nat} (h1 : zgf w a0 5 0 = some (.ref g1)) (h2 : zob w g1 3 = true) {f2 : Int32} {w1 : zAW} (h3 : zC scr 26 [.ref g1, .int x1] w = some (some (.int f2), w1)) : zd scr 70 0 [some (.ref a0), some (.int x1), some (.int x2)] [] w = if f2 = 0 then zd scr 70 11 [some (.ref a0), some (.int x1), some (.int x2)] [] w1 else zd scr 70 13 [some (.ref a0), some (.int x1), some (.int x2)] [] w1 := by
  refine Eq.trans (zd_aload_n zh70 rfl rfl) ?_
  refine Eq.trans (zd_getfield zh70 (ci := 5) (k := 0) rfl h1 rfl) ?_
  refine Eq.trans (zd_iload_n zh70 rfl rfl) ?_
  refine Eq.trans (zd_invVi zh70 zh26 rfl rfl ⟨Nat.le_of_ble_eq_true rfl, Nat.le_of_ble_eq_true rfl, Nat.le_of_ble_eq_true rfl, Nat.le_of_ble_eq_true rfl⟩ rfl h2 h3 rfl) ?_
  exact zd_ifne zh70 (t := 13) (by decide) rfl
theorem b70_11 {scr : List Int32} {w : zAW} {a0 : Nat} {x1 : Int32} {x2 : Int32}  : zd scr 70 11 [some (.ref a0), some (.int x1), some (.int x2)] [] w = some (some (.int (-1)), w) := by
  refine Eq.trans (zd_iconst zh70 (v := (-1)) rfl rfl) ?_
  exact zd_iret zh70 rfl rfl
theorem b70_13 {scr : List Int32} {w : zAW} {a0 : Nat} {x1 : Int32} {x2 : Int32}  : zd scr 70 13 [some (.ref a0), some (.int x1), some (.int x2)] [] w = if x2 < 0 then zd scr 70 22 [some (.ref a0), some (.int x1), some (.int x2)] [] w else zd scr 70 17 [some (.ref a0), some (.int x1), some (.int x2)] [] w := by
  refine Eq.trans (zd_iload_n zh70 rfl rfl) ?_
  exact zd_iflt zh70 (t := 22) (by decide) rfl
theorem b70_22 {scr : List Int32} {w : zAW} {a0 : Nat} {x1 : Int32} {x2 : Int32}  : zd scr 70 22 [some (.ref a0), some (.int x1), some (.int x2)] [] w = some (some (.int (-2)), w) := by
  refine Eq.trans (zd_bipush zh70 (v := (-2)) rfl rfl) ?_
  exact zd_iret zh70 rfl rfl
theorem b70_17 {scr : List Int32} {w : zAW} {a0 : Nat} {x1 : Int32} {x2 : Int32}  : zd scr 70 17 [some (.ref a0), some (.int x1), some (.int x2)] [] w = if (nI 2) < x2 then zd scr 70 22 [some (.ref a0), some (.int x1), some (.int x2)] [] w else zd scr 70 25 [some (.ref a0), some (.int x1), some (.int x2)] [] w := by
  refine Eq.trans (zd_iload_n zh70 rfl rfl) ?_
  refine Eq.trans (zd_iconst zh70 (v := (nI 2)) rfl rfl) ?_
  exact zd_icmple zh70 (t := 25) (by decide) rfl
set_option maxRecDepth 20000 in
theorem b70_25 {scr : List Int32} {w : zAW} {a0 : Nat} {x1 : Int32} {x2 : Int32} {g1 : Nat} (h1 : zgf w a0 5 1 = some (.ref g1)) {g2 : Nat} (h2 : zgf w a0 5 0 = some (.ref g2)) (h3 : zob w g1 3 = true) {w1 : zAW} (h4 : zC scr 25 [.ref g1, .ref g2] w = some (none, w1)) {g3 : Nat} (h5 : zgf w1 a0 5 1 = some (.ref g3)) (h6 : zob w1 g3 3 = true) {f4 : Int32} {w2 : zAW} (h7 : zC scr 31 [.ref g3] w1 = some (some (.int f4), w2)) {g5 : Nat} (h8 : zgf w2 a0 5 1 = some (.ref g5)) (h9 : zob w2 g5 3 = true) {f6 : Int32} {w3 : zAW} (h10 : zC scr 40 [.ref g5, .int x1, .int ((nI 2) + x2)] w2 = some (some (.int f6), w3)) : zd scr 70 25 [some (.ref a0), some (.int x1), some (.int x2)] [] w = some (some (.int f6), w3) := by
  refine Eq.trans (zd_aload_n zh70 rfl rfl) ?_
  refine Eq.trans (zd_getfield zh70 (ci := 5) (k := 1) rfl h1 rfl) ?_
  refine Eq.trans (zd_aload_n zh70 rfl rfl) ?_
  refine Eq.trans (zd_getfield zh70 (ci := 5) (k := 0) rfl h2 rfl) ?_
  refine Eq.trans (zd_invVv zh70 zh25 rfl rfl ⟨Nat.le_of_ble_eq_true rfl, Nat.le_of_ble_eq_true rfl, Nat.le_of_ble_eq_true rfl, Nat.le_of_ble_eq_true rfl⟩ rfl h3 h4 rfl) ?_
  refine Eq.trans (zd_aload_n zh70 rfl rfl) ?_
  refine Eq.trans (zd_getfield zh70 (ci := 5) (k := 1) rfl h5 rfl) ?_
  refine Eq.trans (zd_invVi zh70 zh31 rfl rfl ⟨Nat.le_of_ble_eq_true rfl, Nat.le_of_ble_eq_true rfl, Nat.le_of_ble_eq_true rfl, Nat.le_of_ble_eq_true rfl⟩ rfl h6 h7 rfl) ?_
  refine Eq.trans (zd_pop zh70 rfl) ?_
  refine Eq.trans (zd_aload_n zh70 rfl rfl) ?_
  refine Eq.trans (zd_getfield zh70 (ci := 5) (k := 1) rfl h8 rfl) ?_
  refine Eq.trans (zd_iload_n zh70 rfl rfl) ?_
  refine Eq.trans (zd_iconst zh70 (v := (nI 2)) rfl rfl) ?_
  refine Eq.trans (zd_iload_n zh70 rfl rfl) ?_
  refine Eq.trans (zd_iadd zh70 rfl) ?_
  refine Eq.trans (zd_invVi zh70 zh40 rfl rfl ⟨Nat.le_of_ble_eq_true rfl, Nat.le_of_ble_eq_true rfl, Nat.le_of_ble_eq_true rfl, Nat.le_of_ble_eq_true rfl⟩ rfl h9 h10 rfl) ?_
  exact zd_iret zh70 rfl rfl
/-! yX5_fairestRule: 71, MarbleHeirs.fairestRule()I -/
theorem b71_0 {scr : List Int32} {w : zAW} {a0 : Nat} {g1 : Nat} (h1 : zgf w a0 5 0 = some (.ref g1)) {f2 : Int32} (h2 : zgf w g1 3 1 = some (.int f2)) : zd scr 71 0 [some (.ref a0), none, none, none, none] [] w = if f2 = 0 then zd scr 71 10 [some (.ref a0), none, none, none, none] [] w else zd scr 71 13 [some (.ref a0), none, none, none, none] [] w := by
  refine Eq.trans (zd_aload_n zh71 rfl rfl) ?_
  refine Eq.trans (zd_getfield zh71 (ci := 5) (k := 0) rfl h1 rfl) ?_
  refine Eq.trans (zd_getfield zh71 (ci := 3) (k := 1) rfl h2 rfl) ?_
  exact zd_ifne zh71 (t := 13) (by decide) rfl
theorem b71_23 {scr : List Int32} {w : zAW} {a0 : Nat} {x1 : Int32} {x2 : Int32} {x3 : Int32} {v4 : Option Value}  : zd scr 71 23 [some (.ref a0), some (.int x1), some (.int x2), some (.int x3), v4] [] w = if x3 ≤ (nI 2) then zd scr 71 28 [some (.ref a0), some (.int x1), some (.int x2), some (.int x3), v4] [] w else zd scr 71 52 [some (.ref a0), some (.int x1), some (.int x2), some (.int x3), v4] [] w := by
  refine Eq.trans (zd_iload_n zh71 rfl rfl) ?_
  refine Eq.trans (zd_iconst zh71 (v := (nI 2)) rfl rfl) ?_
  exact zd_icmpgt zh71 (t := 52) (by decide) rfl
theorem b71_10 {scr : List Int32} {w : zAW} {a0 : Nat}  : zd scr 71 10 [some (.ref a0), none, none, none, none] [] w = some (some (.int (-6)), w) := by
  refine Eq.trans (zd_bipush zh71 (v := (-6)) rfl rfl) ?_
  exact zd_iret zh71 rfl rfl
set_option maxRecDepth 20000 in
theorem b71_13 {scr : List Int32} {w : zAW} {a0 : Nat} (h1 : zob w a0 5 = true) {f1 : Int32} {w1 : zAW} (h2 : zC scr 85 [.ref a0, .int (nI 0)] w = some (some (.int f1), w1)) : zd scr 71 13 [some (.ref a0), none, none, none, none] [] w = zd scr 71 23 [some (.ref a0), some (.int (nI 0)), some (.int f1), some (.int (nI 1)), none] [] w1 := by
  refine Eq.trans (zd_iconst zh71 (v := (nI 0)) rfl rfl) ?_
  refine Eq.trans (zd_istore_n zh71 (ls' := [some (.ref a0), some (.int (nI 0)), none, none, none]) (Nat.le_of_ble_eq_true rfl) rfl rfl) ?_
  refine Eq.trans (zd_aload_n zh71 rfl rfl) ?_
  refine Eq.trans (zd_iconst zh71 (v := (nI 0)) rfl rfl) ?_
  refine Eq.trans (zd_invVi zh71 zh85 rfl rfl ⟨Nat.le_of_ble_eq_true rfl, Nat.le_of_ble_eq_true rfl, Nat.le_of_ble_eq_true rfl, Nat.le_of_ble_eq_true rfl⟩ rfl h1 h2 rfl) ?_
  refine Eq.trans (zd_istore_n zh71 (ls' := [some (.ref a0), some (.int (nI 0)), some (.int f1), none, none]) (Nat.le_of_ble_eq_true rfl) rfl rfl) ?_
  refine Eq.trans (zd_iconst zh71 (v := (nI 1)) rfl rfl) ?_
  refine Eq.trans (zd_istore_n zh71 (ls' := [some (.ref a0), some (.int (nI 0)), some (.int f1), some (.int (nI 1)), none]) (Nat.le_of_ble_eq_true rfl) rfl rfl) ?_
  exact rfl
set_option maxRecDepth 20000 in
theorem b71_28 {scr : List Int32} {w : zAW} {a0 : Nat} {x1 : Int32} {x2 : Int32} {x3 : Int32} {v4 : Option Value} (h1 : zob w a0 5 = true) {f1 : Int32} {w1 : zAW} (h2 : zC scr 85 [.ref a0, .int x3] w = some (some (.int f1), w1)) : zd scr 71 28 [some (.ref a0), some (.int x1), some (.int x2), some (.int x3), v4] [] w = if f1 < x2 then zd scr 71 41 [some (.ref a0), some (.int x1), some (.int x2), some (.int x3), some (.int f1)] [] w1 else zd scr 71 46 [some (.ref a0), some (.int x1), some (.int x2), some (.int x3), some (.int f1)] [] w1 := by
  refine Eq.trans (zd_aload_n zh71 rfl rfl) ?_
  refine Eq.trans (zd_iload_n zh71 rfl rfl) ?_
  refine Eq.trans (zd_invVi zh71 zh85 rfl rfl ⟨Nat.le_of_ble_eq_true rfl, Nat.le_of_ble_eq_true rfl, Nat.le_of_ble_eq_true rfl, Nat.le_of_ble_eq_true rfl⟩ rfl h1 h2 rfl) ?_
  refine Eq.trans (zd_istore zh71 (ls' := [some (.ref a0), some (.int x1), some (.int x2), some (.int x3), some (.int f1)]) (Nat.le_of_ble_eq_true rfl) rfl rfl) ?_
  refine Eq.trans (zd_iload zh71 rfl rfl) ?_
  refine Eq.trans (zd_iload_n zh71 rfl rfl) ?_
  exact zd_icmpge zh71 (t := 46) (by decide) rfl
theorem b71_52 {scr : List Int32} {w : zAW} {a0 : Nat} {x1 : Int32} {x2 : Int32} {x3 : Int32} {v4 : Option Value}  : zd scr 71 52 [some (.ref a0), some (.int x1), some (.int x2), some (.int x3), v4] [] w = some (some (.int x1), w) := by
  refine Eq.trans (zd_iload_n zh71 rfl rfl) ?_
  exact zd_iret zh71 rfl rfl
theorem b71_41 {scr : List Int32} {w : zAW} {a0 : Nat} {x1 : Int32} {x2 : Int32} {x3 : Int32} {x4 : Int32}  : zd scr 71 41 [some (.ref a0), some (.int x1), some (.int x2), some (.int x3), some (.int x4)] [] w = zd scr 71 23 [some (.ref a0), some (.int x3), some (.int x4), some (.int (x3 + (nI 1))), some (.int x4)] [] w := by
  refine Eq.trans (zd_iload zh71 rfl rfl) ?_
  refine Eq.trans (zd_istore_n zh71 (ls' := [some (.ref a0), some (.int x1), some (.int x4), some (.int x3), some (.int x4)]) (Nat.le_of_ble_eq_true rfl) rfl rfl) ?_
  refine Eq.trans (zd_iload_n zh71 rfl rfl) ?_
  refine Eq.trans (zd_istore_n zh71 (ls' := [some (.ref a0), some (.int x3), some (.int x4), some (.int x3), some (.int x4)]) (Nat.le_of_ble_eq_true rfl) rfl rfl) ?_
  refine Eq.trans (zd_iinc zh71 (ls' := [some (.ref a0), some (.int x3), some (.int x4), some (.int (x3 + (nI 1))), some (.int x4)]) (v := (x3 + (nI 1))) rfl rfl rfl rfl) ?_
  refine Eq.trans (zd_goto zh71 (t := 23) (by decide) rfl) ?_
  exact rfl
theorem b71_46 {scr : List Int32} {w : zAW} {a0 : Nat} {x1 : Int32} {x2 : Int32} {x3 : Int32} {x4 : Int32}  : zd scr 71 46 [some (.ref a0), some (.int x1), some (.int x2), some (.int x3), some (.int x4)] [] w = zd scr 71 23 [some (.ref a0), some (.int x1), some (.int x2), some (.int (x3 + (nI 1))), some (.int x4)] [] w := by
  refine Eq.trans (zd_iinc zh71 (ls' := [some (.ref a0), some (.int x1), some (.int x2), some (.int (x3 + (nI 1))), some (.int x4)]) (v := (x3 + (nI 1))) rfl rfl rfl rfl) ?_
  refine Eq.trans (zd_goto zh71 (t := 23) (by decide) rfl) ?_
  exact rfl
/-! yX5_whoVetoes: 72, MarbleHeirs.whoVetoes(IIII)I -/
set_option maxRecDepth 20000 in
theorem b72_0 {scr : List Int32} {w : zAW} {a0 : Nat} {x1 : Int32} {x2 : Int32} {x3 : Int32} {x4 : Int32} (h1 : zob w a0 5 = true) {f1 : Int32} {w1 : zAW} (h2 : zC scr 84 [.ref a0, .int x1, .int x2, .int x3, .int x4] w = some (some (.int f1), w1)) : zd scr 72 0 [some (.ref a0), some (.int x1), some (.int x2), some (.int x3), some (.int x4), none] [] w = if f1 = 0 then zd scr 72 19 [some (.ref a0), some (.int x1), some (.int x2), some (.int x3), some (.int x4), some (.int f1)] [] w1 else zd scr 72 16 [some (.ref a0), some (.int x1), some (.int x2), some (.int x3), some (.int x4), some (.int f1)] [] w1 := by
  refine Eq.trans (zd_aload_n zh72 rfl rfl) ?_
  refine Eq.trans (zd_iload_n zh72 rfl rfl) ?_
  refine Eq.trans (zd_iload_n zh72 rfl rfl) ?_
  refine Eq.trans (zd_iload_n zh72 rfl rfl) ?_
  refine Eq.trans (zd_iload zh72 rfl rfl) ?_
  refine Eq.trans (zd_invVi zh72 zh84 rfl rfl ⟨Nat.le_of_ble_eq_true rfl, Nat.le_of_ble_eq_true rfl, Nat.le_of_ble_eq_true rfl, Nat.le_of_ble_eq_true rfl⟩ rfl h1 h2 rfl) ?_
  refine Eq.trans (zd_istore zh72 (ls' := [some (.ref a0), some (.int x1), some (.int x2), some (.int x3), some (.int x4), some (.int f1)]) (Nat.le_of_ble_eq_true rfl) rfl rfl) ?_
  refine Eq.trans (zd_iload zh72 rfl rfl) ?_
  exact zd_ifeq zh72 (t := 19) (by decide) rfl
set_option maxRecDepth 20000 in
theorem b72_19 {scr : List Int32} {w : zAW} {a0 : Nat} {x1 : Int32} {x2 : Int32} {x3 : Int32} {x4 : Int32} {x5 : Int32} {g1 : Nat} (h1 : zgf w a0 5 0 = some (.ref g1)) (h2 : zob w g1 3 = true) {f2 : Int32} {w1 : zAW} (h3 : zC scr 38 [.ref g1, .int x1, .int x2, .int x3, .int x4] w = some (some (.int f2), w1)) : zd scr 72 19 [some (.ref a0), some (.int x1), some (.int x2), some (.int x3), some (.int x4), some (.int x5)] [] w = some (some (.int f2), w1) := by
  refine Eq.trans (zd_aload_n zh72 rfl rfl) ?_
  refine Eq.trans (zd_getfield zh72 (ci := 5) (k := 0) rfl h1 rfl) ?_
  refine Eq.trans (zd_iload_n zh72 rfl rfl) ?_
  refine Eq.trans (zd_iload_n zh72 rfl rfl) ?_
  refine Eq.trans (zd_iload_n zh72 rfl rfl) ?_
  refine Eq.trans (zd_iload zh72 rfl rfl) ?_
  refine Eq.trans (zd_invVi zh72 zh38 rfl rfl ⟨Nat.le_of_ble_eq_true rfl, Nat.le_of_ble_eq_true rfl, Nat.le_of_ble_eq_true rfl, Nat.le_of_ble_eq_true rfl⟩ rfl h2 h3 rfl) ?_
  exact zd_iret zh72 rfl rfl
theorem b72_16 {scr : List Int32} {w : zAW} {a0 : Nat} {x1 : Int32} {x2 : Int32} {x3 : Int32} {x4 : Int32} {x5 : Int32}  : zd scr 72 16 [some (.ref a0), some (.int x1), some (.int x2), some (.int x3), some (.int x4), some (.int x5)] [] w = some (some (.int x5), w) := by
  refine Eq.trans (zd_iload zh72 rfl rfl) ?_
  exact zd_iret zh72 rfl rfl
/-! yX5_bestSwap: 73, MarbleHeirs.bestSwap(I)I -/
theorem b73_0 {scr : List Int32} {w : zAW} {a0 : Nat} {x1 : Int32}  : zd scr 73 0 [some (.ref a0), some (.int x1)] [] w = if x1 < 0 then zd scr 73 9 [some (.ref a0), some (.int x1)] [] w else zd scr 73 4 [some (.ref a0), some (.int x1)] [] w := by
  refine Eq.trans (zd_iload_n zh73 rfl rfl) ?_
  exact zd_iflt zh73 (t := 9) (by decide) rfl
theorem b73_9 {scr : List Int32} {w : zAW} {a0 : Nat} {x1 : Int32}  : zd scr 73 9 [some (.ref a0), some (.int x1)] [] w = some (some (.int (-2)), w) := by
  refine Eq.trans (zd_bipush zh73 (v := (-2)) rfl rfl) ?_
  exact zd_iret zh73 rfl rfl
theorem b73_4 {scr : List Int32} {w : zAW} {a0 : Nat} {x1 : Int32}  : zd scr 73 4 [some (.ref a0), some (.int x1)] [] w = if (nI 4) < x1 then zd scr 73 9 [some (.ref a0), some (.int x1)] [] w else zd scr 73 12 [some (.ref a0), some (.int x1)] [] w := by
  refine Eq.trans (zd_iload_n zh73 rfl rfl) ?_
  refine Eq.trans (zd_iconst zh73 (v := (nI 4)) rfl rfl) ?_
  exact zd_icmple zh73 (t := 12) (by decide) rfl
set_option maxRecDepth 20000 in
theorem b73_12 {scr : List Int32} {w : zAW} {a0 : Nat} {x1 : Int32} {g1 : Nat} (h1 : zgf w a0 5 6 = some (.ref g1)) {g2 : Nat} (h2 : zgf w a0 5 0 = some (.ref g2)) (h3 : zob w g1 0 = true) {w1 : zAW} (h4 : zC scr 2 [.ref g1, .ref g2] w = some (none, w1)) {g3 : Nat} (h5 : zgf w1 a0 5 6 = some (.ref g3)) (h6 : zob w1 g3 0 = true) {f4 : Int32} {w2 : zAW} (h7 : zC scr 1 [.ref g3, .int x1] w1 = some (some (.int f4), w2)) : zd scr 73 12 [some (.ref a0), some (.int x1)] [] w = some (some (.int f4), w2) := by
  refine Eq.trans (zd_aload_n zh73 rfl rfl) ?_
  refine Eq.trans (zd_getfield zh73 (ci := 5) (k := 6) rfl h1 rfl) ?_
  refine Eq.trans (zd_aload_n zh73 rfl rfl) ?_
  refine Eq.trans (zd_getfield zh73 (ci := 5) (k := 0) rfl h2 rfl) ?_
  refine Eq.trans (zd_invVv zh73 zh2 rfl rfl ⟨Nat.le_of_ble_eq_true rfl, Nat.le_of_ble_eq_true rfl, Nat.le_of_ble_eq_true rfl, Nat.le_of_ble_eq_true rfl⟩ rfl h3 h4 rfl) ?_
  refine Eq.trans (zd_aload_n zh73 rfl rfl) ?_
  refine Eq.trans (zd_getfield zh73 (ci := 5) (k := 6) rfl h5 rfl) ?_
  refine Eq.trans (zd_iload_n zh73 rfl rfl) ?_
  refine Eq.trans (zd_invVi zh73 zh1 rfl rfl ⟨Nat.le_of_ble_eq_true rfl, Nat.le_of_ble_eq_true rfl, Nat.le_of_ble_eq_true rfl, Nat.le_of_ble_eq_true rfl⟩ rfl h6 h7 rfl) ?_
  exact zd_iret zh73 rfl rfl
/-! yX5_append: 74, MarbleHeirs.append(I)I -/
theorem b74_0 {scr : List Int32} {w : zAW} {a0 : Nat} {x1 : Int32}  : zd scr 74 0 [some (.ref a0), some (.int x1)] [] w = if x1 < (nI 33) then zd scr 74 12 [some (.ref a0), some (.int x1)] [] w else zd scr 74 6 [some (.ref a0), some (.int x1)] [] w := by
  refine Eq.trans (zd_iload_n zh74 rfl rfl) ?_
  refine Eq.trans (zd_bipush zh74 (v := (nI 33)) rfl rfl) ?_
  exact zd_icmplt zh74 (t := 12) (by decide) rfl
theorem b74_12 {scr : List Int32} {w : zAW} {a0 : Nat} {x1 : Int32}  : zd scr 74 12 [some (.ref a0), some (.int x1)] [] w = some (some (.int (-2)), w) := by
  refine Eq.trans (zd_bipush zh74 (v := (-2)) rfl rfl) ?_
  exact zd_iret zh74 rfl rfl
theorem b74_6 {scr : List Int32} {w : zAW} {a0 : Nat} {x1 : Int32}  : zd scr 74 6 [some (.ref a0), some (.int x1)] [] w = if (nI 126) < x1 then zd scr 74 12 [some (.ref a0), some (.int x1)] [] w else zd scr 74 15 [some (.ref a0), some (.int x1)] [] w := by
  refine Eq.trans (zd_iload_n zh74 rfl rfl) ?_
  refine Eq.trans (zd_bipush zh74 (v := (nI 126)) rfl rfl) ?_
  exact zd_icmple zh74 (t := 15) (by decide) rfl
theorem b74_15 {scr : List Int32} {w : zAW} {a0 : Nat} {x1 : Int32} {g1 : Nat} (h1 : zgf w a0 5 5 = some (.ref g1)) {f2 : Int32} (h2 : zgf w g1 4 1 = some (.int f2)) : zd scr 74 15 [some (.ref a0), some (.int x1)] [] w = if f2 < (nI 50) then zd scr 74 30 [some (.ref a0), some (.int x1)] [] w else zd scr 74 27 [some (.ref a0), some (.int x1)] [] w := by
  refine Eq.trans (zd_aload_n zh74 rfl rfl) ?_
  refine Eq.trans (zd_getfield zh74 (ci := 5) (k := 5) rfl h1 rfl) ?_
  refine Eq.trans (zd_getfield zh74 (ci := 4) (k := 1) rfl h2 rfl) ?_
  refine Eq.trans (zd_bipush zh74 (v := (nI 50)) rfl rfl) ?_
  exact zd_icmplt zh74 (t := 30) (by decide) rfl
set_option maxRecDepth 20000 in
theorem b74_30 {scr : List Int32} {w : zAW} {a0 : Nat} {x1 : Int32} {g1 : Nat} (h1 : zgf w a0 5 5 = some (.ref g1)) (h2 : zob w g1 4 = true) {w1 : zAW} (h3 : zC scr 45 [.ref g1, .int x1] w = some (none, w1)) {g2 : Nat} (h4 : zgf w1 a0 5 5 = some (.ref g2)) {f3 : Int32} (h5 : zgf w1 g2 4 1 = some (.int f3)) : zd scr 74 30 [some (.ref a0), some (.int x1)] [] w = some (some (.int f3), w1) := by
  refine Eq.trans (zd_aload_n zh74 rfl rfl) ?_
  refine Eq.trans (zd_getfield zh74 (ci := 5) (k := 5) rfl h1 rfl) ?_
  refine Eq.trans (zd_iload_n zh74 rfl rfl) ?_
  refine Eq.trans (zd_invVv zh74 zh45 rfl rfl ⟨Nat.le_of_ble_eq_true rfl, Nat.le_of_ble_eq_true rfl, Nat.le_of_ble_eq_true rfl, Nat.le_of_ble_eq_true rfl⟩ rfl h2 h3 rfl) ?_
  refine Eq.trans (zd_aload_n zh74 rfl rfl) ?_
  refine Eq.trans (zd_getfield zh74 (ci := 5) (k := 5) rfl h4 rfl) ?_
  refine Eq.trans (zd_getfield zh74 (ci := 4) (k := 1) rfl h5 rfl) ?_
  exact zd_iret zh74 rfl rfl
theorem b74_27 {scr : List Int32} {w : zAW} {a0 : Nat} {x1 : Int32}  : zd scr 74 27 [some (.ref a0), some (.int x1)] [] w = some (some (.int (-4)), w) := by
  refine Eq.trans (zd_bipush zh74 (v := (-4)) rfl rfl) ?_
  exact zd_iret zh74 rfl rfl
/-! yX5_clearText: 75, MarbleHeirs.clearText()I -/
theorem b75_0 {scr : List Int32} {w : zAW} {a0 : Nat} {g1 : Nat} (h1 : zgf w a0 5 5 = some (.ref g1)) {f2 : Int32} (h2 : zgf w g1 4 1 = some (.int f2)) {g3 : Nat} (h3 : zgf w a0 5 5 = some (.ref g3)) {w1 : zAW} (h4 : zpf w g3 4 1 (.int (nI 0)) = some w1) : zd scr 75 0 [some (.ref a0), none] [] w = some (some (.int f2), w1) := by
  refine Eq.trans (zd_aload_n zh75 rfl rfl) ?_
  refine Eq.trans (zd_getfield zh75 (ci := 5) (k := 5) rfl h1 rfl) ?_
  refine Eq.trans (zd_getfield zh75 (ci := 4) (k := 1) rfl h2 rfl) ?_
  refine Eq.trans (zd_istore_n zh75 (ls' := [some (.ref a0), some (.int f2)]) (Nat.le_of_ble_eq_true rfl) rfl rfl) ?_
  refine Eq.trans (zd_aload_n zh75 rfl rfl) ?_
  refine Eq.trans (zd_getfield zh75 (ci := 5) (k := 5) rfl h3 rfl) ?_
  refine Eq.trans (zd_iconst zh75 (v := (nI 0)) rfl rfl) ?_
  refine Eq.trans (zd_putfield zh75 (ci := 4) (k := 1) rfl rfl h4 rfl) ?_
  refine Eq.trans (zd_iload_n zh75 rfl rfl) ?_
  exact zd_iret zh75 rfl rfl
/-! yX5_errorPosition: 76, MarbleHeirs.errorPosition()I -/
set_option maxRecDepth 20000 in
theorem b76_0 {scr : List Int32} {w : zAW} {a0 : Nat} {g1 : Nat} (h1 : zgf w a0 5 5 = some (.ref g1)) (h2 : zob w g1 4 = true) {f2 : Int32} {w1 : zAW} (h3 : zC scr 46 [.ref g1] w = some (some (.int f2), w1)) : zd scr 76 0 [some (.ref a0)] [] w = some (some (.int f2), w1) := by
  refine Eq.trans (zd_aload_n zh76 rfl rfl) ?_
  refine Eq.trans (zd_getfield zh76 (ci := 5) (k := 5) rfl h1 rfl) ?_
  refine Eq.trans (zd_invVi zh76 zh46 rfl rfl ⟨Nat.le_of_ble_eq_true rfl, Nat.le_of_ble_eq_true rfl, Nat.le_of_ble_eq_true rfl, Nat.le_of_ble_eq_true rfl⟩ rfl h2 h3 rfl) ?_
  exact zd_iret zh76 rfl rfl
/-! yX5_pour: 77, MarbleHeirs.pour()I -/
set_option maxRecDepth 20000 in
theorem b77_0 {scr : List Int32} {w : zAW} {a0 : Nat} {g1 : Nat} (h1 : zgf w a0 5 5 = some (.ref g1)) (h2 : zob w g1 4 = true) {f2 : Int32} {w1 : zAW} (h3 : zC scr 46 [.ref g1] w = some (some (.int f2), w1)) : zd scr 77 0 [some (.ref a0)] [] w = if f2 = (-6) then zd scr 77 15 [some (.ref a0)] [] w1 else zd scr 77 12 [some (.ref a0)] [] w1 := by
  refine Eq.trans (zd_aload_n zh77 rfl rfl) ?_
  refine Eq.trans (zd_getfield zh77 (ci := 5) (k := 5) rfl h1 rfl) ?_
  refine Eq.trans (zd_invVi zh77 zh46 rfl rfl ⟨Nat.le_of_ble_eq_true rfl, Nat.le_of_ble_eq_true rfl, Nat.le_of_ble_eq_true rfl, Nat.le_of_ble_eq_true rfl⟩ rfl h2 h3 rfl) ?_
  refine Eq.trans (zd_bipush zh77 (v := (-6)) rfl rfl) ?_
  exact zd_icmpeq zh77 (t := 15) (by decide) rfl
set_option maxRecDepth 20000 in
theorem b77_15 {scr : List Int32} {w : zAW} {a0 : Nat} {g1 : Nat} (h1 : zgf w a0 5 1 = some (.ref g1)) {g2 : Nat} (h2 : zgf w a0 5 0 = some (.ref g2)) (h3 : zob w g1 3 = true) {w1 : zAW} (h4 : zC scr 25 [.ref g1, .ref g2] w = some (none, w1)) {g3 : Nat} (h5 : zgf w1 a0 5 5 = some (.ref g3)) {g4 : Nat} (h6 : zgf w1 a0 5 1 = some (.ref g4)) {g5 : Nat} (h7 : zgf w1 g4 3 0 = some (.ref g5)) (h8 : zob w1 g3 4 = true) {f6 : Int32} {w2 : zAW} (h9 : zC scr 47 [.ref g3, .ref g5] w1 = some (some (.int f6), w2)) : zd scr 77 15 [some (.ref a0)] [] w = if f6 = 0 then zd scr 77 43 [some (.ref a0)] [] w2 else zd scr 77 46 [some (.ref a0)] [] w2 := by
  refine Eq.trans (zd_aload_n zh77 rfl rfl) ?_
  refine Eq.trans (zd_getfield zh77 (ci := 5) (k := 1) rfl h1 rfl) ?_
  refine Eq.trans (zd_aload_n zh77 rfl rfl) ?_
  refine Eq.trans (zd_getfield zh77 (ci := 5) (k := 0) rfl h2 rfl) ?_
  refine Eq.trans (zd_invVv zh77 zh25 rfl rfl ⟨Nat.le_of_ble_eq_true rfl, Nat.le_of_ble_eq_true rfl, Nat.le_of_ble_eq_true rfl, Nat.le_of_ble_eq_true rfl⟩ rfl h3 h4 rfl) ?_
  refine Eq.trans (zd_aload_n zh77 rfl rfl) ?_
  refine Eq.trans (zd_getfield zh77 (ci := 5) (k := 5) rfl h5 rfl) ?_
  refine Eq.trans (zd_aload_n zh77 rfl rfl) ?_
  refine Eq.trans (zd_getfield zh77 (ci := 5) (k := 1) rfl h6 rfl) ?_
  refine Eq.trans (zd_getfield zh77 (ci := 3) (k := 0) rfl h7 rfl) ?_
  refine Eq.trans (zd_invVi zh77 zh47 rfl rfl ⟨Nat.le_of_ble_eq_true rfl, Nat.le_of_ble_eq_true rfl, Nat.le_of_ble_eq_true rfl, Nat.le_of_ble_eq_true rfl⟩ rfl h8 h9 rfl) ?_
  exact zd_ifne zh77 (t := 46) (by decide) rfl
theorem b77_12 {scr : List Int32} {w : zAW} {a0 : Nat}  : zd scr 77 12 [some (.ref a0)] [] w = some (some (.int (-5)), w) := by
  refine Eq.trans (zd_bipush zh77 (v := (-5)) rfl rfl) ?_
  exact zd_iret zh77 rfl rfl
theorem b77_43 {scr : List Int32} {w : zAW} {a0 : Nat}  : zd scr 77 43 [some (.ref a0)] [] w = some (some (.int (-4)), w) := by
  refine Eq.trans (zd_bipush zh77 (v := (-4)) rfl rfl) ?_
  exact zd_iret zh77 rfl rfl
set_option maxRecDepth 20000 in
theorem b77_46 {scr : List Int32} {w : zAW} {a0 : Nat} {g1 : Nat} (h1 : zgf w a0 5 4 = some (.ref g1)) {g2 : Nat} (h2 : zgf w a0 5 0 = some (.ref g2)) (h3 : zob w g1 2 = true) {w1 : zAW} (h4 : zC scr 21 [.ref g1, .ref g2] w = some (none, w1)) {g3 : Nat} (h5 : zgf w1 a0 5 0 = some (.ref g3)) {g4 : Nat} (h6 : zgf w1 a0 5 1 = some (.ref g4)) (h7 : zob w1 g3 3 = true) {w2 : zAW} (h8 : zC scr 25 [.ref g3, .ref g4] w1 = some (none, w2)) {g5 : Nat} (h9 : zgf w2 a0 5 5 = some (.ref g5)) {w3 : zAW} (h10 : zpf w2 g5 4 1 (.int (nI 0)) = some w3) {g6 : Nat} (h11 : zgf w3 a0 5 0 = some (.ref g6)) {g7 : Nat} (h12 : zgf w3 g6 3 0 = some (.ref g7)) (h13 : zob w3 g7 1 = true) {f8 : Int32} {w4 : zAW} (h14 : zC scr 8 [.ref g7, .int (nI 6)] w3 = some (some (.int f8), w4)) : zd scr 77 46 [some (.ref a0)] [] w = some (some (.int f8), w4) := by
  refine Eq.trans (zd_aload_n zh77 rfl rfl) ?_
  refine Eq.trans (zd_getfield zh77 (ci := 5) (k := 4) rfl h1 rfl) ?_
  refine Eq.trans (zd_aload_n zh77 rfl rfl) ?_
  refine Eq.trans (zd_getfield zh77 (ci := 5) (k := 0) rfl h2 rfl) ?_
  refine Eq.trans (zd_invVv zh77 zh21 rfl rfl ⟨Nat.le_of_ble_eq_true rfl, Nat.le_of_ble_eq_true rfl, Nat.le_of_ble_eq_true rfl, Nat.le_of_ble_eq_true rfl⟩ rfl h3 h4 rfl) ?_
  refine Eq.trans (zd_aload_n zh77 rfl rfl) ?_
  refine Eq.trans (zd_getfield zh77 (ci := 5) (k := 0) rfl h5 rfl) ?_
  refine Eq.trans (zd_aload_n zh77 rfl rfl) ?_
  refine Eq.trans (zd_getfield zh77 (ci := 5) (k := 1) rfl h6 rfl) ?_
  refine Eq.trans (zd_invVv zh77 zh25 rfl rfl ⟨Nat.le_of_ble_eq_true rfl, Nat.le_of_ble_eq_true rfl, Nat.le_of_ble_eq_true rfl, Nat.le_of_ble_eq_true rfl⟩ rfl h7 h8 rfl) ?_
  refine Eq.trans (zd_aload_n zh77 rfl rfl) ?_
  refine Eq.trans (zd_getfield zh77 (ci := 5) (k := 5) rfl h9 rfl) ?_
  refine Eq.trans (zd_iconst zh77 (v := (nI 0)) rfl rfl) ?_
  refine Eq.trans (zd_putfield zh77 (ci := 4) (k := 1) rfl rfl h10 rfl) ?_
  refine Eq.trans (zd_aload_n zh77 rfl rfl) ?_
  refine Eq.trans (zd_getfield zh77 (ci := 5) (k := 0) rfl h11 rfl) ?_
  refine Eq.trans (zd_getfield zh77 (ci := 3) (k := 0) rfl h12 rfl) ?_
  refine Eq.trans (zd_bipush zh77 (v := (nI 6)) rfl rfl) ?_
  refine Eq.trans (zd_invVi zh77 zh8 rfl rfl ⟨Nat.le_of_ble_eq_true rfl, Nat.le_of_ble_eq_true rfl, Nat.le_of_ble_eq_true rfl, Nat.le_of_ble_eq_true rfl⟩ rfl h13 h14 rfl) ?_
  exact zd_iret zh77 rfl rfl
/-! yX5_undo: 78, MarbleHeirs.undo()I -/
theorem b78_0 {scr : List Int32} {w : zAW} {a0 : Nat} {g1 : Nat} (h1 : zgf w a0 5 4 = some (.ref g1)) {f2 : Int32} (h2 : zgf w g1 2 1 = some (.int f2)) : zd scr 78 0 [some (.ref a0)] [] w = if f2 = 0 then zd scr 78 10 [some (.ref a0)] [] w else zd scr 78 13 [some (.ref a0)] [] w := by
  refine Eq.trans (zd_aload_n zh78 rfl rfl) ?_
  refine Eq.trans (zd_getfield zh78 (ci := 5) (k := 4) rfl h1 rfl) ?_
  refine Eq.trans (zd_getfield zh78 (ci := 2) (k := 1) rfl h2 rfl) ?_
  exact zd_ifne zh78 (t := 13) (by decide) rfl
theorem b78_10 {scr : List Int32} {w : zAW} {a0 : Nat}  : zd scr 78 10 [some (.ref a0)] [] w = some (some (.int (-3)), w) := by
  refine Eq.trans (zd_bipush zh78 (v := (-3)) rfl rfl) ?_
  exact zd_iret zh78 rfl rfl
set_option maxRecDepth 20000 in
theorem b78_13 {scr : List Int32} {w : zAW} {a0 : Nat} {g1 : Nat} (h1 : zgf w a0 5 4 = some (.ref g1)) {g2 : Nat} (h2 : zgf w a0 5 0 = some (.ref g2)) (h3 : zob w g1 2 = true) {w1 : zAW} (h4 : zC scr 23 [.ref g1, .ref g2] w = some (none, w1)) {g3 : Nat} (h5 : zgf w1 a0 5 4 = some (.ref g3)) {f4 : Int32} (h6 : zgf w1 g3 2 1 = some (.int f4)) : zd scr 78 13 [some (.ref a0)] [] w = some (some (.int f4), w1) := by
  refine Eq.trans (zd_aload_n zh78 rfl rfl) ?_
  refine Eq.trans (zd_getfield zh78 (ci := 5) (k := 4) rfl h1 rfl) ?_
  refine Eq.trans (zd_aload_n zh78 rfl rfl) ?_
  refine Eq.trans (zd_getfield zh78 (ci := 5) (k := 0) rfl h2 rfl) ?_
  refine Eq.trans (zd_invVv zh78 zh23 rfl rfl ⟨Nat.le_of_ble_eq_true rfl, Nat.le_of_ble_eq_true rfl, Nat.le_of_ble_eq_true rfl, Nat.le_of_ble_eq_true rfl⟩ rfl h3 h4 rfl) ?_
  refine Eq.trans (zd_aload_n zh78 rfl rfl) ?_
  refine Eq.trans (zd_getfield zh78 (ci := 5) (k := 4) rfl h5 rfl) ?_
  refine Eq.trans (zd_getfield zh78 (ci := 2) (k := 1) rfl h6 rfl) ?_
  exact zd_iret zh78 rfl rfl
/-! yX5_save: 79, MarbleHeirs.save()I -/
set_option maxRecDepth 20000 in
theorem b79_0 {scr : List Int32} {w : zAW} {a0 : Nat} {g1 : Nat} (h1 : zgf w a0 5 2 = some (.ref g1)) {g2 : Nat} (h2 : zgf w a0 5 0 = some (.ref g2)) (h3 : zob w g1 3 = true) {w1 : zAW} (h4 : zC scr 25 [.ref g1, .ref g2] w = some (none, w1)) {w2 : zAW} (h5 : zpf w1 a0 5 3 (.int (nI 1)) = some w2) {g3 : Nat} (h6 : zgf w2 a0 5 0 = some (.ref g3)) {f4 : Int32} (h7 : zgf w2 g3 3 1 = some (.int f4)) : zd scr 79 0 [some (.ref a0)] [] w = some (some (.int f4), w2) := by
  refine Eq.trans (zd_aload_n zh79 rfl rfl) ?_
  refine Eq.trans (zd_getfield zh79 (ci := 5) (k := 2) rfl h1 rfl) ?_
  refine Eq.trans (zd_aload_n zh79 rfl rfl) ?_
  refine Eq.trans (zd_getfield zh79 (ci := 5) (k := 0) rfl h2 rfl) ?_
  refine Eq.trans (zd_invVv zh79 zh25 rfl rfl ⟨Nat.le_of_ble_eq_true rfl, Nat.le_of_ble_eq_true rfl, Nat.le_of_ble_eq_true rfl, Nat.le_of_ble_eq_true rfl⟩ rfl h3 h4 rfl) ?_
  refine Eq.trans (zd_aload_n zh79 rfl rfl) ?_
  refine Eq.trans (zd_iconst zh79 (v := (nI 1)) rfl rfl) ?_
  refine Eq.trans (zd_putfield zh79 (ci := 5) (k := 3) rfl rfl h5 rfl) ?_
  refine Eq.trans (zd_aload_n zh79 rfl rfl) ?_
  refine Eq.trans (zd_getfield zh79 (ci := 5) (k := 0) rfl h6 rfl) ?_
  refine Eq.trans (zd_getfield zh79 (ci := 3) (k := 1) rfl h7 rfl) ?_
  exact zd_iret zh79 rfl rfl
/-! yX5_restore: 80, MarbleHeirs.restore()I -/
theorem b80_0 {scr : List Int32} {w : zAW} {a0 : Nat} {f1 : Int32} (h1 : zgf w a0 5 3 = some (.int f1)) : zd scr 80 0 [some (.ref a0)] [] w = if f1 = 0 then zd scr 80 7 [some (.ref a0)] [] w else zd scr 80 10 [some (.ref a0)] [] w := by
  refine Eq.trans (zd_aload_n zh80 rfl rfl) ?_
  refine Eq.trans (zd_getfield zh80 (ci := 5) (k := 3) rfl h1 rfl) ?_
  exact zd_ifne zh80 (t := 10) (by decide) rfl
theorem b80_7 {scr : List Int32} {w : zAW} {a0 : Nat}  : zd scr 80 7 [some (.ref a0)] [] w = some (some (.int (-3)), w) := by
  refine Eq.trans (zd_bipush zh80 (v := (-3)) rfl rfl) ?_
  exact zd_iret zh80 rfl rfl
set_option maxRecDepth 20000 in
theorem b80_10 {scr : List Int32} {w : zAW} {a0 : Nat} {g1 : Nat} (h1 : zgf w a0 5 4 = some (.ref g1)) {g2 : Nat} (h2 : zgf w a0 5 0 = some (.ref g2)) (h3 : zob w g1 2 = true) {w1 : zAW} (h4 : zC scr 21 [.ref g1, .ref g2] w = some (none, w1)) {g3 : Nat} (h5 : zgf w1 a0 5 0 = some (.ref g3)) {g4 : Nat} (h6 : zgf w1 a0 5 2 = some (.ref g4)) (h7 : zob w1 g3 3 = true) {w2 : zAW} (h8 : zC scr 25 [.ref g3, .ref g4] w1 = some (none, w2)) {g5 : Nat} (h9 : zgf w2 a0 5 0 = some (.ref g5)) {f6 : Int32} (h10 : zgf w2 g5 3 1 = some (.int f6)) : zd scr 80 10 [some (.ref a0)] [] w = some (some (.int f6), w2) := by
  refine Eq.trans (zd_aload_n zh80 rfl rfl) ?_
  refine Eq.trans (zd_getfield zh80 (ci := 5) (k := 4) rfl h1 rfl) ?_
  refine Eq.trans (zd_aload_n zh80 rfl rfl) ?_
  refine Eq.trans (zd_getfield zh80 (ci := 5) (k := 0) rfl h2 rfl) ?_
  refine Eq.trans (zd_invVv zh80 zh21 rfl rfl ⟨Nat.le_of_ble_eq_true rfl, Nat.le_of_ble_eq_true rfl, Nat.le_of_ble_eq_true rfl, Nat.le_of_ble_eq_true rfl⟩ rfl h3 h4 rfl) ?_
  refine Eq.trans (zd_aload_n zh80 rfl rfl) ?_
  refine Eq.trans (zd_getfield zh80 (ci := 5) (k := 0) rfl h5 rfl) ?_
  refine Eq.trans (zd_aload_n zh80 rfl rfl) ?_
  refine Eq.trans (zd_getfield zh80 (ci := 5) (k := 2) rfl h6 rfl) ?_
  refine Eq.trans (zd_invVv zh80 zh25 rfl rfl ⟨Nat.le_of_ble_eq_true rfl, Nat.le_of_ble_eq_true rfl, Nat.le_of_ble_eq_true rfl, Nat.le_of_ble_eq_true rfl⟩ rfl h7 h8 rfl) ?_
  refine Eq.trans (zd_aload_n zh80 rfl rfl) ?_
  refine Eq.trans (zd_getfield zh80 (ci := 5) (k := 0) rfl h9 rfl) ?_
  refine Eq.trans (zd_getfield zh80 (ci := 3) (k := 1) rfl h10 rfl) ?_
  exact zd_iret zh80 rfl rfl
/-! yX5_isMother: 81, MarbleHeirs.isMother(I)Z -/
theorem b81_0 {scr : List Int32} {w : zAW} {x0 : Int32}  : zd scr 81 0 [some (.int x0)] [] w = if x0 < 0 then zd scr 81 13 [some (.int x0)] [] w else zd scr 81 4 [some (.int x0)] [] w := by
  refine Eq.trans (zd_iload_n zh81 rfl rfl) ?_
  exact zd_iflt zh81 (t := 13) (by decide) rfl
theorem b81_13 {scr : List Int32} {w : zAW} {x0 : Int32}  : zd scr 81 13 [some (.int x0)] [] w = some (some (.int (nI 0)), w) := by
  refine Eq.trans (zd_iconst zh81 (v := (nI 0)) rfl rfl) ?_
  exact zd_iret zh81 rfl rfl
theorem b81_4 {scr : List Int32} {w : zAW} {x0 : Int32}  : zd scr 81 4 [some (.int x0)] [] w = if x0 < (nI 4) then zd scr 81 9 [some (.int x0)] [] w else zd scr 81 13 [some (.int x0)] [] w := by
  refine Eq.trans (zd_iload_n zh81 rfl rfl) ?_
  refine Eq.trans (zd_iconst zh81 (v := (nI 4)) rfl rfl) ?_
  exact zd_icmpge zh81 (t := 13) (by decide) rfl
theorem b81_9 {scr : List Int32} {w : zAW} {x0 : Int32}  : zd scr 81 9 [some (.int x0)] [] w = some (some (.int (nI 1)), w) := by
  refine Eq.trans (zd_iconst zh81 (v := (nI 1)) rfl rfl) ?_
  refine Eq.trans (zd_goto zh81 (t := 14) (by decide) rfl) ?_
  exact zd_iret zh81 rfl rfl
