/-! yX6_errorPosition: 149, MarbleHeirsModel.errorPosition()I -/
set_option maxRecDepth 20000 in
theorem b149_0 {scr : List Int32} {w : zAW} {a0 : Nat} (h1 : zob w a0 6 = true) {f1 : Int32} {w1 : zAW} (h2 : zC scr 148 [.ref a0, .int (nI 0)] w = some (some (.int f1), w1)) : zd scr 149 0 [some (.ref a0)] [] w = some (some (.int f1), w1) := by
  refine Eq.trans (zd_aload_n zh149 rfl rfl) ?_
  refine Eq.trans (zd_iconst zh149 (v := (nI 0)) rfl rfl) ?_
  refine Eq.trans (zd_invVi zh149 zh148 rfl rfl ⟨Nat.le_of_ble_eq_true rfl, Nat.le_of_ble_eq_true rfl, Nat.le_of_ble_eq_true rfl, Nat.le_of_ble_eq_true rfl⟩ rfl h1 h2 rfl) ?_
  exact zd_iret zh149 rfl rfl
/-! yX6_pour: 150, MarbleHeirsModel.pour()I -/
set_option maxRecDepth 20000 in
theorem b150_0 {scr : List Int32} {w : zAW} {a0 : Nat} (h1 : zob w a0 6 = true) {f1 : Int32} {w1 : zAW} (h2 : zC scr 148 [.ref a0, .int (nI 0)] w = some (some (.int f1), w1)) : zd scr 150 0 [some (.ref a0), none] [] w = if f1 = (-6) then zd scr 150 13 [some (.ref a0), none] [] w1 else zd scr 150 10 [some (.ref a0), none] [] w1 := by
  refine Eq.trans (zd_aload_n zh150 rfl rfl) ?_
  refine Eq.trans (zd_iconst zh150 (v := (nI 0)) rfl rfl) ?_
  refine Eq.trans (zd_invVi zh150 zh148 rfl rfl ⟨Nat.le_of_ble_eq_true rfl, Nat.le_of_ble_eq_true rfl, Nat.le_of_ble_eq_true rfl, Nat.le_of_ble_eq_true rfl⟩ rfl h1 h2 rfl) ?_
  refine Eq.trans (zd_bipush zh150 (v := (-6)) rfl rfl) ?_
  exact zd_icmpeq zh150 (t := 13) (by decide) rfl
set_option maxRecDepth 20000 in
theorem b150_13 {scr : List Int32} {w : zAW} {a0 : Nat} {f1 : Int32} (h1 : zgf w a0 6 9 = some (.int f1)) (h2 : zob w a0 6 = true) {f2 : Int32} {w1 : zAW} (h3 : zC scr 124 [.ref a0, .int f1] w = some (some (.int f2), w1)) : zd scr 150 13 [some (.ref a0), none] [] w = if f2 = 0 then zd scr 150 24 [some (.ref a0), none] [] w1 else zd scr 150 27 [some (.ref a0), none] [] w1 := by
  refine Eq.trans (zd_aload_n zh150 rfl rfl) ?_
  refine Eq.trans (zd_aload_n zh150 rfl rfl) ?_
  refine Eq.trans (zd_getfield zh150 (ci := 6) (k := 9) rfl h1 rfl) ?_
  refine Eq.trans (zd_invVi zh150 zh124 rfl rfl ⟨Nat.le_of_ble_eq_true rfl, Nat.le_of_ble_eq_true rfl, Nat.le_of_ble_eq_true rfl, Nat.le_of_ble_eq_true rfl⟩ rfl h2 h3 rfl) ?_
  exact zd_ifne zh150 (t := 27) (by decide) rfl
theorem b150_10 {scr : List Int32} {w : zAW} {a0 : Nat}  : zd scr 150 10 [some (.ref a0), none] [] w = some (some (.int (-5)), w) := by
  refine Eq.trans (zd_bipush zh150 (v := (-5)) rfl rfl) ?_
  exact zd_iret zh150 rfl rfl
theorem b150_24 {scr : List Int32} {w : zAW} {a0 : Nat}  : zd scr 150 24 [some (.ref a0), none] [] w = some (some (.int (-4)), w) := by
  refine Eq.trans (zd_bipush zh150 (v := (-4)) rfl rfl) ?_
  exact zd_iret zh150 rfl rfl
set_option maxRecDepth 20000 in
theorem b150_27 {scr : List Int32} {w : zAW} {a0 : Nat} (h1 : zob w a0 6 = true) {w1 : zAW} (h2 : zC scr 92 [.ref a0] w = some (none, w1)) (h3 : zob w1 a0 6 = true) {f1 : Int32} {w2 : zAW} (h4 : zC scr 148 [.ref a0, .int (nI 1)] w1 = some (some (.int f1), w2)) {w3 : zAW} (h5 : zpf w2 a0 6 7 (.int (nI 0)) = some w3) {g2 : Nat} (h6 : zgf w3 a0 6 0 = some (.ref g2)) {f3 : Int32} (h7 : zal w3 g2 (nI 6) = some f3) : zd scr 150 27 [some (.ref a0), none] [] w = some (some (.int f3), w3) := by
  refine Eq.trans (zd_aload_n zh150 rfl rfl) ?_
  refine Eq.trans (zd_invVv zh150 zh92 rfl rfl ⟨Nat.le_of_ble_eq_true rfl, Nat.le_of_ble_eq_true rfl, Nat.le_of_ble_eq_true rfl, Nat.le_of_ble_eq_true rfl⟩ rfl h1 h2 rfl) ?_
  refine Eq.trans (zd_aload_n zh150 rfl rfl) ?_
  refine Eq.trans (zd_iconst zh150 (v := (nI 1)) rfl rfl) ?_
  refine Eq.trans (zd_invVi zh150 zh148 rfl rfl ⟨Nat.le_of_ble_eq_true rfl, Nat.le_of_ble_eq_true rfl, Nat.le_of_ble_eq_true rfl, Nat.le_of_ble_eq_true rfl⟩ rfl h3 h4 rfl) ?_
  refine Eq.trans (zd_istore_n zh150 (ls' := [some (.ref a0), some (.int f1)]) (Nat.le_of_ble_eq_true rfl) rfl rfl) ?_
  refine Eq.trans (zd_aload_n zh150 rfl rfl) ?_
  refine Eq.trans (zd_iconst zh150 (v := (nI 0)) rfl rfl) ?_
  refine Eq.trans (zd_putfield zh150 (ci := 6) (k := 7) rfl rfl h5 rfl) ?_
  refine Eq.trans (zd_aload_n zh150 rfl rfl) ?_
  refine Eq.trans (zd_getfield zh150 (ci := 6) (k := 0) rfl h6 rfl) ?_
  refine Eq.trans (zd_bipush zh150 (v := (nI 6)) rfl rfl) ?_
  refine Eq.trans (zd_iaload zh150 h7 rfl) ?_
  exact zd_iret zh150 rfl rfl
/-! yX6_undo: 151, MarbleHeirsModel.undo()I -/
theorem b151_0 {scr : List Int32} {w : zAW} {a0 : Nat} {f1 : Int32} (h1 : zgf w a0 6 3 = some (.int f1)) : zd scr 151 0 [some (.ref a0), none] [] w = if f1 = 0 then zd scr 151 7 [some (.ref a0), none] [] w else zd scr 151 10 [some (.ref a0), none] [] w := by
  refine Eq.trans (zd_aload_n zh151 rfl rfl) ?_
  refine Eq.trans (zd_getfield zh151 (ci := 6) (k := 3) rfl h1 rfl) ?_
  exact zd_ifne zh151 (t := 10) (by decide) rfl
theorem b151_22 {scr : List Int32} {w : zAW} {a0 : Nat} {x1 : Int32}  : zd scr 151 22 [some (.ref a0), some (.int x1)] [] w = if x1 < (nI 190) then zd scr 151 29 [some (.ref a0), some (.int x1)] [] w else zd scr 151 56 [some (.ref a0), some (.int x1)] [] w := by
  refine Eq.trans (zd_iload_n zh151 rfl rfl) ?_
  refine Eq.trans (zd_sipush zh151 (v := (nI 190)) rfl rfl) ?_
  exact zd_icmpge zh151 (t := 56) (by decide) rfl
theorem b151_7 {scr : List Int32} {w : zAW} {a0 : Nat}  : zd scr 151 7 [some (.ref a0), none] [] w = some (some (.int (-3)), w) := by
  refine Eq.trans (zd_bipush zh151 (v := (-3)) rfl rfl) ?_
  exact zd_iret zh151 rfl rfl
theorem b151_10 {scr : List Int32} {w : zAW} {a0 : Nat} {f1 : Int32} (h1 : zgf w a0 6 3 = some (.int f1)) {w1 : zAW} (h2 : zpf w a0 6 3 (.int (f1 - (nI 1))) = some w1) : zd scr 151 10 [some (.ref a0), none] [] w = zd scr 151 22 [some (.ref a0), some (.int (nI 0))] [] w1 := by
  refine Eq.trans (zd_aload_n zh151 rfl rfl) ?_
  refine Eq.trans (zd_dup zh151 rfl) ?_
  refine Eq.trans (zd_getfield zh151 (ci := 6) (k := 3) rfl h1 rfl) ?_
  refine Eq.trans (zd_iconst zh151 (v := (nI 1)) rfl rfl) ?_
  refine Eq.trans (zd_isub zh151 rfl) ?_
  refine Eq.trans (zd_putfield zh151 (ci := 6) (k := 3) rfl rfl h2 rfl) ?_
  refine Eq.trans (zd_iconst zh151 (v := (nI 0)) rfl rfl) ?_
  refine Eq.trans (zd_istore_n zh151 (ls' := [some (.ref a0), some (.int (nI 0))]) (Nat.le_of_ble_eq_true rfl) rfl rfl) ?_
  exact rfl
theorem b151_29 {scr : List Int32} {w : zAW} {a0 : Nat} {x1 : Int32} {g1 : Nat} (h1 : zgf w a0 6 0 = some (.ref g1)) {g2 : Nat} (h2 : zgf w a0 6 2 = some (.ref g2)) {f3 : Int32} (h3 : zgf w a0 6 3 = some (.int f3)) {f4 : Int32} (h4 : zal w g2 (((nI 190) * f3) + x1) = some f4) {w1 : zAW} (h5 : zas w g1 x1 f4 = some w1) : zd scr 151 29 [some (.ref a0), some (.int x1)] [] w = zd scr 151 22 [some (.ref a0), some (.int (x1 + (nI 1)))] [] w1 := by
  refine Eq.trans (zd_aload_n zh151 rfl rfl) ?_
  refine Eq.trans (zd_getfield zh151 (ci := 6) (k := 0) rfl h1 rfl) ?_
  refine Eq.trans (zd_iload_n zh151 rfl rfl) ?_
  refine Eq.trans (zd_aload_n zh151 rfl rfl) ?_
  refine Eq.trans (zd_getfield zh151 (ci := 6) (k := 2) rfl h2 rfl) ?_
  refine Eq.trans (zd_sipush zh151 (v := (nI 190)) rfl rfl) ?_
  refine Eq.trans (zd_aload_n zh151 rfl rfl) ?_
  refine Eq.trans (zd_getfield zh151 (ci := 6) (k := 3) rfl h3 rfl) ?_
  refine Eq.trans (zd_imul zh151 rfl) ?_
  refine Eq.trans (zd_iload_n zh151 rfl rfl) ?_
  refine Eq.trans (zd_iadd zh151 rfl) ?_
  refine Eq.trans (zd_iaload zh151 h4 rfl) ?_
  refine Eq.trans (zd_iastore zh151 h5 rfl) ?_
  refine Eq.trans (zd_iinc zh151 (ls' := [some (.ref a0), some (.int (x1 + (nI 1)))]) (v := (x1 + (nI 1))) rfl rfl rfl rfl) ?_
  refine Eq.trans (zd_goto zh151 (t := 22) (by decide) rfl) ?_
  exact rfl
theorem b151_56 {scr : List Int32} {w : zAW} {a0 : Nat} {x1 : Int32} {f1 : Int32} (h1 : zgf w a0 6 3 = some (.int f1)) : zd scr 151 56 [some (.ref a0), some (.int x1)] [] w = some (some (.int f1), w) := by
  refine Eq.trans (zd_aload_n zh151 rfl rfl) ?_
  refine Eq.trans (zd_getfield zh151 (ci := 6) (k := 3) rfl h1 rfl) ?_
  exact zd_iret zh151 rfl rfl
/-! yX6_save: 152, MarbleHeirsModel.save()I -/
theorem b152_0 {scr : List Int32} {w : zAW} {a0 : Nat}  : zd scr 152 0 [some (.ref a0), none] [] w = zd scr 152 2 [some (.ref a0), some (.int (nI 0))] [] w := by
  refine Eq.trans (zd_iconst zh152 (v := (nI 0)) rfl rfl) ?_
  refine Eq.trans (zd_istore_n zh152 (ls' := [some (.ref a0), some (.int (nI 0))]) (Nat.le_of_ble_eq_true rfl) rfl rfl) ?_
  exact rfl
theorem b152_2 {scr : List Int32} {w : zAW} {a0 : Nat} {x1 : Int32}  : zd scr 152 2 [some (.ref a0), some (.int x1)] [] w = if x1 < (nI 190) then zd scr 152 9 [some (.ref a0), some (.int x1)] [] w else zd scr 152 27 [some (.ref a0), some (.int x1)] [] w := by
  refine Eq.trans (zd_iload_n zh152 rfl rfl) ?_
  refine Eq.trans (zd_sipush zh152 (v := (nI 190)) rfl rfl) ?_
  exact zd_icmpge zh152 (t := 27) (by decide) rfl
theorem b152_9 {scr : List Int32} {w : zAW} {a0 : Nat} {x1 : Int32} {g1 : Nat} (h1 : zgf w a0 6 4 = some (.ref g1)) {g2 : Nat} (h2 : zgf w a0 6 0 = some (.ref g2)) {f3 : Int32} (h3 : zal w g2 x1 = some f3) {w1 : zAW} (h4 : zas w g1 x1 f3 = some w1) : zd scr 152 9 [some (.ref a0), some (.int x1)] [] w = zd scr 152 2 [some (.ref a0), some (.int (x1 + (nI 1)))] [] w1 := by
  refine Eq.trans (zd_aload_n zh152 rfl rfl) ?_
  refine Eq.trans (zd_getfield zh152 (ci := 6) (k := 4) rfl h1 rfl) ?_
  refine Eq.trans (zd_iload_n zh152 rfl rfl) ?_
  refine Eq.trans (zd_aload_n zh152 rfl rfl) ?_
  refine Eq.trans (zd_getfield zh152 (ci := 6) (k := 0) rfl h2 rfl) ?_
  refine Eq.trans (zd_iload_n zh152 rfl rfl) ?_
  refine Eq.trans (zd_iaload zh152 h3 rfl) ?_
  refine Eq.trans (zd_iastore zh152 h4 rfl) ?_
  refine Eq.trans (zd_iinc zh152 (ls' := [some (.ref a0), some (.int (x1 + (nI 1)))]) (v := (x1 + (nI 1))) rfl rfl rfl rfl) ?_
  refine Eq.trans (zd_goto zh152 (t := 2) (by decide) rfl) ?_
  exact rfl
theorem b152_27 {scr : List Int32} {w : zAW} {a0 : Nat} {x1 : Int32} {w1 : zAW} (h1 : zpf w a0 6 5 (.int (nI 1)) = some w1) {g1 : Nat} (h2 : zgf w1 a0 6 0 = some (.ref g1)) {f2 : Int32} (h3 : zal w1 g1 (nI 0) = some f2) : zd scr 152 27 [some (.ref a0), some (.int x1)] [] w = some (some (.int f2), w1) := by
  refine Eq.trans (zd_aload_n zh152 rfl rfl) ?_
  refine Eq.trans (zd_iconst zh152 (v := (nI 1)) rfl rfl) ?_
  refine Eq.trans (zd_putfield zh152 (ci := 6) (k := 5) rfl rfl h1 rfl) ?_
  refine Eq.trans (zd_aload_n zh152 rfl rfl) ?_
  refine Eq.trans (zd_getfield zh152 (ci := 6) (k := 0) rfl h2 rfl) ?_
  refine Eq.trans (zd_iconst zh152 (v := (nI 0)) rfl rfl) ?_
  refine Eq.trans (zd_iaload zh152 h3 rfl) ?_
  exact zd_iret zh152 rfl rfl
/-! yX6_restore: 153, MarbleHeirsModel.restore()I -/
theorem b153_0 {scr : List Int32} {w : zAW} {a0 : Nat} {f1 : Int32} (h1 : zgf w a0 6 5 = some (.int f1)) : zd scr 153 0 [some (.ref a0), none] [] w = if f1 = 0 then zd scr 153 7 [some (.ref a0), none] [] w else zd scr 153 10 [some (.ref a0), none] [] w := by
  refine Eq.trans (zd_aload_n zh153 rfl rfl) ?_
  refine Eq.trans (zd_getfield zh153 (ci := 6) (k := 5) rfl h1 rfl) ?_
  exact zd_ifne zh153 (t := 10) (by decide) rfl
theorem b153_16 {scr : List Int32} {w : zAW} {a0 : Nat} {x1 : Int32}  : zd scr 153 16 [some (.ref a0), some (.int x1)] [] w = if x1 < (nI 190) then zd scr 153 23 [some (.ref a0), some (.int x1)] [] w else zd scr 153 41 [some (.ref a0), some (.int x1)] [] w := by
  refine Eq.trans (zd_iload_n zh153 rfl rfl) ?_
  refine Eq.trans (zd_sipush zh153 (v := (nI 190)) rfl rfl) ?_
  exact zd_icmpge zh153 (t := 41) (by decide) rfl
theorem b153_7 {scr : List Int32} {w : zAW} {a0 : Nat}  : zd scr 153 7 [some (.ref a0), none] [] w = some (some (.int (-3)), w) := by
  refine Eq.trans (zd_bipush zh153 (v := (-3)) rfl rfl) ?_
  exact zd_iret zh153 rfl rfl
set_option maxRecDepth 20000 in
theorem b153_10 {scr : List Int32} {w : zAW} {a0 : Nat} (h1 : zob w a0 6 = true) {w1 : zAW} (h2 : zC scr 92 [.ref a0] w = some (none, w1)) : zd scr 153 10 [some (.ref a0), none] [] w = zd scr 153 16 [some (.ref a0), some (.int (nI 0))] [] w1 := by
  refine Eq.trans (zd_aload_n zh153 rfl rfl) ?_
  refine Eq.trans (zd_invVv zh153 zh92 rfl rfl ⟨Nat.le_of_ble_eq_true rfl, Nat.le_of_ble_eq_true rfl, Nat.le_of_ble_eq_true rfl, Nat.le_of_ble_eq_true rfl⟩ rfl h1 h2 rfl) ?_
  refine Eq.trans (zd_iconst zh153 (v := (nI 0)) rfl rfl) ?_
  refine Eq.trans (zd_istore_n zh153 (ls' := [some (.ref a0), some (.int (nI 0))]) (Nat.le_of_ble_eq_true rfl) rfl rfl) ?_
  exact rfl
theorem b153_23 {scr : List Int32} {w : zAW} {a0 : Nat} {x1 : Int32} {g1 : Nat} (h1 : zgf w a0 6 0 = some (.ref g1)) {g2 : Nat} (h2 : zgf w a0 6 4 = some (.ref g2)) {f3 : Int32} (h3 : zal w g2 x1 = some f3) {w1 : zAW} (h4 : zas w g1 x1 f3 = some w1) : zd scr 153 23 [some (.ref a0), some (.int x1)] [] w = zd scr 153 16 [some (.ref a0), some (.int (x1 + (nI 1)))] [] w1 := by
  refine Eq.trans (zd_aload_n zh153 rfl rfl) ?_
  refine Eq.trans (zd_getfield zh153 (ci := 6) (k := 0) rfl h1 rfl) ?_
  refine Eq.trans (zd_iload_n zh153 rfl rfl) ?_
  refine Eq.trans (zd_aload_n zh153 rfl rfl) ?_
  refine Eq.trans (zd_getfield zh153 (ci := 6) (k := 4) rfl h2 rfl) ?_
  refine Eq.trans (zd_iload_n zh153 rfl rfl) ?_
  refine Eq.trans (zd_iaload zh153 h3 rfl) ?_
  refine Eq.trans (zd_iastore zh153 h4 rfl) ?_
  refine Eq.trans (zd_iinc zh153 (ls' := [some (.ref a0), some (.int (x1 + (nI 1)))]) (v := (x1 + (nI 1))) rfl rfl rfl rfl) ?_
  refine Eq.trans (zd_goto zh153 (t := 16) (by decide) rfl) ?_
  exact rfl
theorem b153_41 {scr : List Int32} {w : zAW} {a0 : Nat} {x1 : Int32} {g1 : Nat} (h1 : zgf w a0 6 0 = some (.ref g1)) {f2 : Int32} (h2 : zal w g1 (nI 0) = some f2) : zd scr 153 41 [some (.ref a0), some (.int x1)] [] w = some (some (.int f2), w) := by
  refine Eq.trans (zd_aload_n zh153 rfl rfl) ?_
  refine Eq.trans (zd_getfield zh153 (ci := 6) (k := 0) rfl h1 rfl) ?_
  refine Eq.trans (zd_iconst zh153 (v := (nI 0)) rfl rfl) ?_
  refine Eq.trans (zd_iaload zh153 h2 rfl) ?_
  exact zd_iret zh153 rfl rfl
/-! yL_law: 154, MarbleHeirsLaw.law([I)Z -/
set_option maxRecDepth 20000 in
theorem b154_18 {scr : List Int32} {w : zAW} {a1 : Nat} {a2 : Nat} {x3 : Int32}  : zd scr 154 18 [some (.retAddr 0), some (.ref a1), some (.ref a2), some (.int x3)] [] w = if x3 ≤ ((Int32.ofNat scr.length) - (nI 5)) then zd scr 154 26 [some (.retAddr 0), some (.ref a1), some (.ref a2), some (.int x3)] [] w else zd scr 154 860 [some (.retAddr 0), some (.ref a1), some (.ref a2), some (.int x3)] [] w := by
  refine Eq.trans (zd_iload_n zh154 rfl rfl) ?_
  refine Eq.trans (zd_aload_s zh154 rfl rfl) ?_
  refine Eq.trans (zd_slen zh154 rfl) ?_
  refine Eq.trans (zd_iconst zh154 (v := (nI 5)) rfl rfl) ?_
  refine Eq.trans (zd_isub zh154 rfl) ?_
  exact zd_icmpgt zh154 (t := 860) (by decide) rfl
set_option maxRecDepth 20000 in
theorem b154_26_c0 {scr : List Int32} {w : zAW} {a1 : Nat} {a2 : Nat} {x3 : Int32} {f1 : Int32} (h1 : ¬ x3 < 0) (h2 : scr[(x3).toNatClampNeg]? = some f1) (hx : (f1 &&& (nI 31)) = (nI 0)) : zd scr 154 26 [some (.retAddr 0), some (.ref a1), some (.ref a2), some (.int x3)] [] w = zd scr 154 160 [some (.retAddr 0), some (.ref a1), some (.ref a2), some (.int x3)] [] w := by
  refine Eq.trans (zd_aload_s zh154 rfl rfl) ?_
  refine Eq.trans (zd_iload_n zh154 rfl rfl) ?_
  refine Eq.trans (zd_sld zh154 h1 h2 rfl) ?_
  refine Eq.trans (zd_bipush zh154 (v := (nI 31)) rfl rfl) ?_
  refine Eq.trans (zd_iand zh154 rfl) ?_
  exact zd_tabIn zh154 (off := 128) (by rw [hx]; decide) (by rw [hx]; rfl) (by decide) rfl
set_option maxRecDepth 20000 in
theorem b154_26_c1 {scr : List Int32} {w : zAW} {a1 : Nat} {a2 : Nat} {x3 : Int32} {f1 : Int32} (h1 : ¬ x3 < 0) (h2 : scr[(x3).toNatClampNeg]? = some f1) (hx : (f1 &&& (nI 31)) = (nI 1)) : zd scr 154 26 [some (.retAddr 0), some (.ref a1), some (.ref a2), some (.int x3)] [] w = zd scr 154 193 [some (.retAddr 0), some (.ref a1), some (.ref a2), some (.int x3)] [] w := by
  refine Eq.trans (zd_aload_s zh154 rfl rfl) ?_
  refine Eq.trans (zd_iload_n zh154 rfl rfl) ?_
  refine Eq.trans (zd_sld zh154 h1 h2 rfl) ?_
  refine Eq.trans (zd_bipush zh154 (v := (nI 31)) rfl rfl) ?_
  refine Eq.trans (zd_iand zh154 rfl) ?_
  exact zd_tabIn zh154 (off := 161) (by rw [hx]; decide) (by rw [hx]; rfl) (by decide) rfl
set_option maxRecDepth 20000 in
theorem b154_26_c2 {scr : List Int32} {w : zAW} {a1 : Nat} {a2 : Nat} {x3 : Int32} {f1 : Int32} (h1 : ¬ x3 < 0) (h2 : scr[(x3).toNatClampNeg]? = some f1) (hx : (f1 &&& (nI 31)) = (nI 2)) : zd scr 154 26 [some (.retAddr 0), some (.ref a1), some (.ref a2), some (.int x3)] [] w = zd scr 154 216 [some (.retAddr 0), some (.ref a1), some (.ref a2), some (.int x3)] [] w := by
  refine Eq.trans (zd_aload_s zh154 rfl rfl) ?_
  refine Eq.trans (zd_iload_n zh154 rfl rfl) ?_
  refine Eq.trans (zd_sld zh154 h1 h2 rfl) ?_
  refine Eq.trans (zd_bipush zh154 (v := (nI 31)) rfl rfl) ?_
  refine Eq.trans (zd_iand zh154 rfl) ?_
  exact zd_tabIn zh154 (off := 184) (by rw [hx]; decide) (by rw [hx]; rfl) (by decide) rfl
set_option maxRecDepth 20000 in
theorem b154_26_c3 {scr : List Int32} {w : zAW} {a1 : Nat} {a2 : Nat} {x3 : Int32} {f1 : Int32} (h1 : ¬ x3 < 0) (h2 : scr[(x3).toNatClampNeg]? = some f1) (hx : (f1 &&& (nI 31)) = (nI 3)) : zd scr 154 26 [some (.retAddr 0), some (.ref a1), some (.ref a2), some (.int x3)] [] w = zd scr 154 249 [some (.retAddr 0), some (.ref a1), some (.ref a2), some (.int x3)] [] w := by
  refine Eq.trans (zd_aload_s zh154 rfl rfl) ?_
  refine Eq.trans (zd_iload_n zh154 rfl rfl) ?_
  refine Eq.trans (zd_sld zh154 h1 h2 rfl) ?_
  refine Eq.trans (zd_bipush zh154 (v := (nI 31)) rfl rfl) ?_
  refine Eq.trans (zd_iand zh154 rfl) ?_
  exact zd_tabIn zh154 (off := 217) (by rw [hx]; decide) (by rw [hx]; rfl) (by decide) rfl
set_option maxRecDepth 20000 in
theorem b154_26_c4 {scr : List Int32} {w : zAW} {a1 : Nat} {a2 : Nat} {x3 : Int32} {f1 : Int32} (h1 : ¬ x3 < 0) (h2 : scr[(x3).toNatClampNeg]? = some f1) (hx : (f1 &&& (nI 31)) = (nI 4)) : zd scr 154 26 [some (.retAddr 0), some (.ref a1), some (.ref a2), some (.int x3)] [] w = zd scr 154 272 [some (.retAddr 0), some (.ref a1), some (.ref a2), some (.int x3)] [] w := by
  refine Eq.trans (zd_aload_s zh154 rfl rfl) ?_
  refine Eq.trans (zd_iload_n zh154 rfl rfl) ?_
  refine Eq.trans (zd_sld zh154 h1 h2 rfl) ?_
  refine Eq.trans (zd_bipush zh154 (v := (nI 31)) rfl rfl) ?_
  refine Eq.trans (zd_iand zh154 rfl) ?_
  exact zd_tabIn zh154 (off := 240) (by rw [hx]; decide) (by rw [hx]; rfl) (by decide) rfl
set_option maxRecDepth 20000 in
theorem b154_26_c5 {scr : List Int32} {w : zAW} {a1 : Nat} {a2 : Nat} {x3 : Int32} {f1 : Int32} (h1 : ¬ x3 < 0) (h2 : scr[(x3).toNatClampNeg]? = some f1) (hx : (f1 &&& (nI 31)) = (nI 5)) : zd scr 154 26 [some (.retAddr 0), some (.ref a1), some (.ref a2), some (.int x3)] [] w = zd scr 154 295 [some (.retAddr 0), some (.ref a1), some (.ref a2), some (.int x3)] [] w := by
  refine Eq.trans (zd_aload_s zh154 rfl rfl) ?_
  refine Eq.trans (zd_iload_n zh154 rfl rfl) ?_
  refine Eq.trans (zd_sld zh154 h1 h2 rfl) ?_
  refine Eq.trans (zd_bipush zh154 (v := (nI 31)) rfl rfl) ?_
  refine Eq.trans (zd_iand zh154 rfl) ?_
  exact zd_tabIn zh154 (off := 263) (by rw [hx]; decide) (by rw [hx]; rfl) (by decide) rfl
set_option maxRecDepth 20000 in
theorem b154_26_c6 {scr : List Int32} {w : zAW} {a1 : Nat} {a2 : Nat} {x3 : Int32} {f1 : Int32} (h1 : ¬ x3 < 0) (h2 : scr[(x3).toNatClampNeg]? = some f1) (hx : (f1 &&& (nI 31)) = (nI 6)) : zd scr 154 26 [some (.retAddr 0), some (.ref a1), some (.ref a2), some (.int x3)] [] w = zd scr 154 328 [some (.retAddr 0), some (.ref a1), some (.ref a2), some (.int x3)] [] w := by
  refine Eq.trans (zd_aload_s zh154 rfl rfl) ?_
  refine Eq.trans (zd_iload_n zh154 rfl rfl) ?_
  refine Eq.trans (zd_sld zh154 h1 h2 rfl) ?_
  refine Eq.trans (zd_bipush zh154 (v := (nI 31)) rfl rfl) ?_
  refine Eq.trans (zd_iand zh154 rfl) ?_
  exact zd_tabIn zh154 (off := 296) (by rw [hx]; decide) (by rw [hx]; rfl) (by decide) rfl
set_option maxRecDepth 20000 in
theorem b154_26_c7 {scr : List Int32} {w : zAW} {a1 : Nat} {a2 : Nat} {x3 : Int32} {f1 : Int32} (h1 : ¬ x3 < 0) (h2 : scr[(x3).toNatClampNeg]? = some f1) (hx : (f1 &&& (nI 31)) = (nI 7)) : zd scr 154 26 [some (.retAddr 0), some (.ref a1), some (.ref a2), some (.int x3)] [] w = zd scr 154 361 [some (.retAddr 0), some (.ref a1), some (.ref a2), some (.int x3)] [] w := by
  refine Eq.trans (zd_aload_s zh154 rfl rfl) ?_
  refine Eq.trans (zd_iload_n zh154 rfl rfl) ?_
  refine Eq.trans (zd_sld zh154 h1 h2 rfl) ?_
  refine Eq.trans (zd_bipush zh154 (v := (nI 31)) rfl rfl) ?_
  refine Eq.trans (zd_iand zh154 rfl) ?_
  exact zd_tabIn zh154 (off := 329) (by rw [hx]; decide) (by rw [hx]; rfl) (by decide) rfl
set_option maxRecDepth 20000 in
theorem b154_26_c8 {scr : List Int32} {w : zAW} {a1 : Nat} {a2 : Nat} {x3 : Int32} {f1 : Int32} (h1 : ¬ x3 < 0) (h2 : scr[(x3).toNatClampNeg]? = some f1) (hx : (f1 &&& (nI 31)) = (nI 8)) : zd scr 154 26 [some (.retAddr 0), some (.ref a1), some (.ref a2), some (.int x3)] [] w = zd scr 154 374 [some (.retAddr 0), some (.ref a1), some (.ref a2), some (.int x3)] [] w := by
  refine Eq.trans (zd_aload_s zh154 rfl rfl) ?_
  refine Eq.trans (zd_iload_n zh154 rfl rfl) ?_
  refine Eq.trans (zd_sld zh154 h1 h2 rfl) ?_
  refine Eq.trans (zd_bipush zh154 (v := (nI 31)) rfl rfl) ?_
  refine Eq.trans (zd_iand zh154 rfl) ?_
  exact zd_tabIn zh154 (off := 342) (by rw [hx]; decide) (by rw [hx]; rfl) (by decide) rfl
set_option maxRecDepth 20000 in
theorem b154_26_c9 {scr : List Int32} {w : zAW} {a1 : Nat} {a2 : Nat} {x3 : Int32} {f1 : Int32} (h1 : ¬ x3 < 0) (h2 : scr[(x3).toNatClampNeg]? = some f1) (hx : (f1 &&& (nI 31)) = (nI 9)) : zd scr 154 26 [some (.retAddr 0), some (.ref a1), some (.ref a2), some (.int x3)] [] w = zd scr 154 387 [some (.retAddr 0), some (.ref a1), some (.ref a2), some (.int x3)] [] w := by
  refine Eq.trans (zd_aload_s zh154 rfl rfl) ?_
  refine Eq.trans (zd_iload_n zh154 rfl rfl) ?_
  refine Eq.trans (zd_sld zh154 h1 h2 rfl) ?_
  refine Eq.trans (zd_bipush zh154 (v := (nI 31)) rfl rfl) ?_
  refine Eq.trans (zd_iand zh154 rfl) ?_
  exact zd_tabIn zh154 (off := 355) (by rw [hx]; decide) (by rw [hx]; rfl) (by decide) rfl
set_option maxRecDepth 20000 in
theorem b154_26_c10 {scr : List Int32} {w : zAW} {a1 : Nat} {a2 : Nat} {x3 : Int32} {f1 : Int32} (h1 : ¬ x3 < 0) (h2 : scr[(x3).toNatClampNeg]? = some f1) (hx : (f1 &&& (nI 31)) = (nI 10)) : zd scr 154 26 [some (.retAddr 0), some (.ref a1), some (.ref a2), some (.int x3)] [] w = zd scr 154 440 [some (.retAddr 0), some (.ref a1), some (.ref a2), some (.int x3)] [] w := by
  refine Eq.trans (zd_aload_s zh154 rfl rfl) ?_
  refine Eq.trans (zd_iload_n zh154 rfl rfl) ?_
  refine Eq.trans (zd_sld zh154 h1 h2 rfl) ?_
  refine Eq.trans (zd_bipush zh154 (v := (nI 31)) rfl rfl) ?_
  refine Eq.trans (zd_iand zh154 rfl) ?_
  exact zd_tabIn zh154 (off := 408) (by rw [hx]; decide) (by rw [hx]; rfl) (by decide) rfl
set_option maxRecDepth 20000 in
theorem b154_26_c11 {scr : List Int32} {w : zAW} {a1 : Nat} {a2 : Nat} {x3 : Int32} {f1 : Int32} (h1 : ¬ x3 < 0) (h2 : scr[(x3).toNatClampNeg]? = some f1) (hx : (f1 &&& (nI 31)) = (nI 11)) : zd scr 154 26 [some (.retAddr 0), some (.ref a1), some (.ref a2), some (.int x3)] [] w = zd scr 154 453 [some (.retAddr 0), some (.ref a1), some (.ref a2), some (.int x3)] [] w := by
  refine Eq.trans (zd_aload_s zh154 rfl rfl) ?_
  refine Eq.trans (zd_iload_n zh154 rfl rfl) ?_
  refine Eq.trans (zd_sld zh154 h1 h2 rfl) ?_
  refine Eq.trans (zd_bipush zh154 (v := (nI 31)) rfl rfl) ?_
  refine Eq.trans (zd_iand zh154 rfl) ?_
  exact zd_tabIn zh154 (off := 421) (by rw [hx]; decide) (by rw [hx]; rfl) (by decide) rfl
set_option maxRecDepth 20000 in
theorem b154_26_c12 {scr : List Int32} {w : zAW} {a1 : Nat} {a2 : Nat} {x3 : Int32} {f1 : Int32} (h1 : ¬ x3 < 0) (h2 : scr[(x3).toNatClampNeg]? = some f1) (hx : (f1 &&& (nI 31)) = (nI 12)) : zd scr 154 26 [some (.retAddr 0), some (.ref a1), some (.ref a2), some (.int x3)] [] w = zd scr 154 486 [some (.retAddr 0), some (.ref a1), some (.ref a2), some (.int x3)] [] w := by
  refine Eq.trans (zd_aload_s zh154 rfl rfl) ?_
  refine Eq.trans (zd_iload_n zh154 rfl rfl) ?_
  refine Eq.trans (zd_sld zh154 h1 h2 rfl) ?_
  refine Eq.trans (zd_bipush zh154 (v := (nI 31)) rfl rfl) ?_
  refine Eq.trans (zd_iand zh154 rfl) ?_
  exact zd_tabIn zh154 (off := 454) (by rw [hx]; decide) (by rw [hx]; rfl) (by decide) rfl
set_option maxRecDepth 20000 in
theorem b154_26_c13 {scr : List Int32} {w : zAW} {a1 : Nat} {a2 : Nat} {x3 : Int32} {f1 : Int32} (h1 : ¬ x3 < 0) (h2 : scr[(x3).toNatClampNeg]? = some f1) (hx : (f1 &&& (nI 31)) = (nI 13)) : zd scr 154 26 [some (.retAddr 0), some (.ref a1), some (.ref a2), some (.int x3)] [] w = zd scr 154 529 [some (.retAddr 0), some (.ref a1), some (.ref a2), some (.int x3)] [] w := by
  refine Eq.trans (zd_aload_s zh154 rfl rfl) ?_
  refine Eq.trans (zd_iload_n zh154 rfl rfl) ?_
  refine Eq.trans (zd_sld zh154 h1 h2 rfl) ?_
  refine Eq.trans (zd_bipush zh154 (v := (nI 31)) rfl rfl) ?_
  refine Eq.trans (zd_iand zh154 rfl) ?_
  exact zd_tabIn zh154 (off := 497) (by rw [hx]; decide) (by rw [hx]; rfl) (by decide) rfl
set_option maxRecDepth 20000 in
theorem b154_26_c14 {scr : List Int32} {w : zAW} {a1 : Nat} {a2 : Nat} {x3 : Int32} {f1 : Int32} (h1 : ¬ x3 < 0) (h2 : scr[(x3).toNatClampNeg]? = some f1) (hx : (f1 &&& (nI 31)) = (nI 14)) : zd scr 154 26 [some (.retAddr 0), some (.ref a1), some (.ref a2), some (.int x3)] [] w = zd scr 154 562 [some (.retAddr 0), some (.ref a1), some (.ref a2), some (.int x3)] [] w := by
  refine Eq.trans (zd_aload_s zh154 rfl rfl) ?_
  refine Eq.trans (zd_iload_n zh154 rfl rfl) ?_
  refine Eq.trans (zd_sld zh154 h1 h2 rfl) ?_
  refine Eq.trans (zd_bipush zh154 (v := (nI 31)) rfl rfl) ?_
  refine Eq.trans (zd_iand zh154 rfl) ?_
  exact zd_tabIn zh154 (off := 530) (by rw [hx]; decide) (by rw [hx]; rfl) (by decide) rfl
set_option maxRecDepth 20000 in
theorem b154_26_c15 {scr : List Int32} {w : zAW} {a1 : Nat} {a2 : Nat} {x3 : Int32} {f1 : Int32} (h1 : ¬ x3 < 0) (h2 : scr[(x3).toNatClampNeg]? = some f1) (hx : (f1 &&& (nI 31)) = (nI 15)) : zd scr 154 26 [some (.retAddr 0), some (.ref a1), some (.ref a2), some (.int x3)] [] w = zd scr 154 585 [some (.retAddr 0), some (.ref a1), some (.ref a2), some (.int x3)] [] w := by
  refine Eq.trans (zd_aload_s zh154 rfl rfl) ?_
  refine Eq.trans (zd_iload_n zh154 rfl rfl) ?_
  refine Eq.trans (zd_sld zh154 h1 h2 rfl) ?_
  refine Eq.trans (zd_bipush zh154 (v := (nI 31)) rfl rfl) ?_
  refine Eq.trans (zd_iand zh154 rfl) ?_
  exact zd_tabIn zh154 (off := 553) (by rw [hx]; decide) (by rw [hx]; rfl) (by decide) rfl
set_option maxRecDepth 20000 in
theorem b154_26_c16 {scr : List Int32} {w : zAW} {a1 : Nat} {a2 : Nat} {x3 : Int32} {f1 : Int32} (h1 : ¬ x3 < 0) (h2 : scr[(x3).toNatClampNeg]? = some f1) (hx : (f1 &&& (nI 31)) = (nI 16)) : zd scr 154 26 [some (.retAddr 0), some (.ref a1), some (.ref a2), some (.int x3)] [] w = zd scr 154 608 [some (.retAddr 0), some (.ref a1), some (.ref a2), some (.int x3)] [] w := by
  refine Eq.trans (zd_aload_s zh154 rfl rfl) ?_
  refine Eq.trans (zd_iload_n zh154 rfl rfl) ?_
  refine Eq.trans (zd_sld zh154 h1 h2 rfl) ?_
  refine Eq.trans (zd_bipush zh154 (v := (nI 31)) rfl rfl) ?_
  refine Eq.trans (zd_iand zh154 rfl) ?_
  exact zd_tabIn zh154 (off := 576) (by rw [hx]; decide) (by rw [hx]; rfl) (by decide) rfl
set_option maxRecDepth 20000 in
theorem b154_26_c17 {scr : List Int32} {w : zAW} {a1 : Nat} {a2 : Nat} {x3 : Int32} {f1 : Int32} (h1 : ¬ x3 < 0) (h2 : scr[(x3).toNatClampNeg]? = some f1) (hx : (f1 &&& (nI 31)) = (nI 17)) : zd scr 154 26 [some (.retAddr 0), some (.ref a1), some (.ref a2), some (.int x3)] [] w = zd scr 154 631 [some (.retAddr 0), some (.ref a1), some (.ref a2), some (.int x3)] [] w := by
  refine Eq.trans (zd_aload_s zh154 rfl rfl) ?_
  refine Eq.trans (zd_iload_n zh154 rfl rfl) ?_
  refine Eq.trans (zd_sld zh154 h1 h2 rfl) ?_
  refine Eq.trans (zd_bipush zh154 (v := (nI 31)) rfl rfl) ?_
  refine Eq.trans (zd_iand zh154 rfl) ?_
  exact zd_tabIn zh154 (off := 599) (by rw [hx]; decide) (by rw [hx]; rfl) (by decide) rfl
set_option maxRecDepth 20000 in
theorem b154_26_c18 {scr : List Int32} {w : zAW} {a1 : Nat} {a2 : Nat} {x3 : Int32} {f1 : Int32} (h1 : ¬ x3 < 0) (h2 : scr[(x3).toNatClampNeg]? = some f1) (hx : (f1 &&& (nI 31)) = (nI 18)) : zd scr 154 26 [some (.retAddr 0), some (.ref a1), some (.ref a2), some (.int x3)] [] w = zd scr 154 664 [some (.retAddr 0), some (.ref a1), some (.ref a2), some (.int x3)] [] w := by
  refine Eq.trans (zd_aload_s zh154 rfl rfl) ?_
  refine Eq.trans (zd_iload_n zh154 rfl rfl) ?_
  refine Eq.trans (zd_sld zh154 h1 h2 rfl) ?_
  refine Eq.trans (zd_bipush zh154 (v := (nI 31)) rfl rfl) ?_
  refine Eq.trans (zd_iand zh154 rfl) ?_
  exact zd_tabIn zh154 (off := 632) (by rw [hx]; decide) (by rw [hx]; rfl) (by decide) rfl
set_option maxRecDepth 20000 in
theorem b154_26_c19 {scr : List Int32} {w : zAW} {a1 : Nat} {a2 : Nat} {x3 : Int32} {f1 : Int32} (h1 : ¬ x3 < 0) (h2 : scr[(x3).toNatClampNeg]? = some f1) (hx : (f1 &&& (nI 31)) = (nI 19)) : zd scr 154 26 [some (.retAddr 0), some (.ref a1), some (.ref a2), some (.int x3)] [] w = zd scr 154 677 [some (.retAddr 0), some (.ref a1), some (.ref a2), some (.int x3)] [] w := by
  refine Eq.trans (zd_aload_s zh154 rfl rfl) ?_
  refine Eq.trans (zd_iload_n zh154 rfl rfl) ?_
  refine Eq.trans (zd_sld zh154 h1 h2 rfl) ?_
  refine Eq.trans (zd_bipush zh154 (v := (nI 31)) rfl rfl) ?_
  refine Eq.trans (zd_iand zh154 rfl) ?_
  exact zd_tabIn zh154 (off := 645) (by rw [hx]; decide) (by rw [hx]; rfl) (by decide) rfl
set_option maxRecDepth 20000 in
theorem b154_26_c20 {scr : List Int32} {w : zAW} {a1 : Nat} {a2 : Nat} {x3 : Int32} {f1 : Int32} (h1 : ¬ x3 < 0) (h2 : scr[(x3).toNatClampNeg]? = some f1) (hx : (f1 &&& (nI 31)) = (nI 20)) : zd scr 154 26 [some (.retAddr 0), some (.ref a1), some (.ref a2), some (.int x3)] [] w = zd scr 154 730 [some (.retAddr 0), some (.ref a1), some (.ref a2), some (.int x3)] [] w := by
  refine Eq.trans (zd_aload_s zh154 rfl rfl) ?_
  refine Eq.trans (zd_iload_n zh154 rfl rfl) ?_
  refine Eq.trans (zd_sld zh154 h1 h2 rfl) ?_
  refine Eq.trans (zd_bipush zh154 (v := (nI 31)) rfl rfl) ?_
  refine Eq.trans (zd_iand zh154 rfl) ?_
  exact zd_tabIn zh154 (off := 698) (by rw [hx]; decide) (by rw [hx]; rfl) (by decide) rfl
set_option maxRecDepth 20000 in
theorem b154_26_c21 {scr : List Int32} {w : zAW} {a1 : Nat} {a2 : Nat} {x3 : Int32} {f1 : Int32} (h1 : ¬ x3 < 0) (h2 : scr[(x3).toNatClampNeg]? = some f1) (hx : (f1 &&& (nI 31)) = (nI 21)) : zd scr 154 26 [some (.retAddr 0), some (.ref a1), some (.ref a2), some (.int x3)] [] w = zd scr 154 753 [some (.retAddr 0), some (.ref a1), some (.ref a2), some (.int x3)] [] w := by
  refine Eq.trans (zd_aload_s zh154 rfl rfl) ?_
  refine Eq.trans (zd_iload_n zh154 rfl rfl) ?_
  refine Eq.trans (zd_sld zh154 h1 h2 rfl) ?_
  refine Eq.trans (zd_bipush zh154 (v := (nI 31)) rfl rfl) ?_
  refine Eq.trans (zd_iand zh154 rfl) ?_
  exact zd_tabIn zh154 (off := 721) (by rw [hx]; decide) (by rw [hx]; rfl) (by decide) rfl
set_option maxRecDepth 20000 in
theorem b154_26_c22 {scr : List Int32} {w : zAW} {a1 : Nat} {a2 : Nat} {x3 : Int32} {f1 : Int32} (h1 : ¬ x3 < 0) (h2 : scr[(x3).toNatClampNeg]? = some f1) (hx : (f1 &&& (nI 31)) = (nI 22)) : zd scr 154 26 [some (.retAddr 0), some (.ref a1), some (.ref a2), some (.int x3)] [] w = zd scr 154 776 [some (.retAddr 0), some (.ref a1), some (.ref a2), some (.int x3)] [] w := by
  refine Eq.trans (zd_aload_s zh154 rfl rfl) ?_
  refine Eq.trans (zd_iload_n zh154 rfl rfl) ?_
  refine Eq.trans (zd_sld zh154 h1 h2 rfl) ?_
  refine Eq.trans (zd_bipush zh154 (v := (nI 31)) rfl rfl) ?_
  refine Eq.trans (zd_iand zh154 rfl) ?_
  exact zd_tabIn zh154 (off := 744) (by rw [hx]; decide) (by rw [hx]; rfl) (by decide) rfl
set_option maxRecDepth 20000 in
theorem b154_26_c23 {scr : List Int32} {w : zAW} {a1 : Nat} {a2 : Nat} {x3 : Int32} {f1 : Int32} (h1 : ¬ x3 < 0) (h2 : scr[(x3).toNatClampNeg]? = some f1) (hx : (f1 &&& (nI 31)) = (nI 23)) : zd scr 154 26 [some (.retAddr 0), some (.ref a1), some (.ref a2), some (.int x3)] [] w = zd scr 154 789 [some (.retAddr 0), some (.ref a1), some (.ref a2), some (.int x3)] [] w := by
  refine Eq.trans (zd_aload_s zh154 rfl rfl) ?_
  refine Eq.trans (zd_iload_n zh154 rfl rfl) ?_
  refine Eq.trans (zd_sld zh154 h1 h2 rfl) ?_
  refine Eq.trans (zd_bipush zh154 (v := (nI 31)) rfl rfl) ?_
  refine Eq.trans (zd_iand zh154 rfl) ?_
  exact zd_tabIn zh154 (off := 757) (by rw [hx]; decide) (by rw [hx]; rfl) (by decide) rfl
set_option maxRecDepth 20000 in
theorem b154_26_c24 {scr : List Int32} {w : zAW} {a1 : Nat} {a2 : Nat} {x3 : Int32} {f1 : Int32} (h1 : ¬ x3 < 0) (h2 : scr[(x3).toNatClampNeg]? = some f1) (hx : (f1 &&& (nI 31)) = (nI 24)) : zd scr 154 26 [some (.retAddr 0), some (.ref a1), some (.ref a2), some (.int x3)] [] w = zd scr 154 802 [some (.retAddr 0), some (.ref a1), some (.ref a2), some (.int x3)] [] w := by
  refine Eq.trans (zd_aload_s zh154 rfl rfl) ?_
  refine Eq.trans (zd_iload_n zh154 rfl rfl) ?_
  refine Eq.trans (zd_sld zh154 h1 h2 rfl) ?_
  refine Eq.trans (zd_bipush zh154 (v := (nI 31)) rfl rfl) ?_
  refine Eq.trans (zd_iand zh154 rfl) ?_
  exact zd_tabIn zh154 (off := 770) (by rw [hx]; decide) (by rw [hx]; rfl) (by decide) rfl
set_option maxRecDepth 20000 in
theorem b154_26_c25 {scr : List Int32} {w : zAW} {a1 : Nat} {a2 : Nat} {x3 : Int32} {f1 : Int32} (h1 : ¬ x3 < 0) (h2 : scr[(x3).toNatClampNeg]? = some f1) (hx : (f1 &&& (nI 31)) = (nI 25)) : zd scr 154 26 [some (.retAddr 0), some (.ref a1), some (.ref a2), some (.int x3)] [] w = zd scr 154 815 [some (.retAddr 0), some (.ref a1), some (.ref a2), some (.int x3)] [] w := by
  refine Eq.trans (zd_aload_s zh154 rfl rfl) ?_
  refine Eq.trans (zd_iload_n zh154 rfl rfl) ?_
  refine Eq.trans (zd_sld zh154 h1 h2 rfl) ?_
  refine Eq.trans (zd_bipush zh154 (v := (nI 31)) rfl rfl) ?_
  refine Eq.trans (zd_iand zh154 rfl) ?_
  exact zd_tabIn zh154 (off := 783) (by rw [hx]; decide) (by rw [hx]; rfl) (by decide) rfl
set_option maxRecDepth 20000 in
theorem b154_26_c26 {scr : List Int32} {w : zAW} {a1 : Nat} {a2 : Nat} {x3 : Int32} {f1 : Int32} (h1 : ¬ x3 < 0) (h2 : scr[(x3).toNatClampNeg]? = some f1) (hx : (f1 &&& (nI 31)) = (nI 26)) : zd scr 154 26 [some (.retAddr 0), some (.ref a1), some (.ref a2), some (.int x3)] [] w = zd scr 154 828 [some (.retAddr 0), some (.ref a1), some (.ref a2), some (.int x3)] [] w := by
  refine Eq.trans (zd_aload_s zh154 rfl rfl) ?_
  refine Eq.trans (zd_iload_n zh154 rfl rfl) ?_
  refine Eq.trans (zd_sld zh154 h1 h2 rfl) ?_
  refine Eq.trans (zd_bipush zh154 (v := (nI 31)) rfl rfl) ?_
  refine Eq.trans (zd_iand zh154 rfl) ?_
  exact zd_tabIn zh154 (off := 796) (by rw [hx]; decide) (by rw [hx]; rfl) (by decide) rfl
set_option maxRecDepth 20000 in
theorem b154_26_c27 {scr : List Int32} {w : zAW} {a1 : Nat} {a2 : Nat} {x3 : Int32} {f1 : Int32} (h1 : ¬ x3 < 0) (h2 : scr[(x3).toNatClampNeg]? = some f1) (hx : (f1 &&& (nI 31)) = (nI 27)) : zd scr 154 26 [some (.retAddr 0), some (.ref a1), some (.ref a2), some (.int x3)] [] w = zd scr 154 841 [some (.retAddr 0), some (.ref a1), some (.ref a2), some (.int x3)] [] w := by
  refine Eq.trans (zd_aload_s zh154 rfl rfl) ?_
  refine Eq.trans (zd_iload_n zh154 rfl rfl) ?_
  refine Eq.trans (zd_sld zh154 h1 h2 rfl) ?_
  refine Eq.trans (zd_bipush zh154 (v := (nI 31)) rfl rfl) ?_
  refine Eq.trans (zd_iand zh154 rfl) ?_
  exact zd_tabIn zh154 (off := 809) (by rw [hx]; decide) (by rw [hx]; rfl) (by decide) rfl
set_option maxRecDepth 20000 in
theorem b154_26_d {scr : List Int32} {w : zAW} {a1 : Nat} {a2 : Nat} {x3 : Int32} {f1 : Int32} (h1 : ¬ x3 < 0) (h2 : scr[(x3).toNatClampNeg]? = some f1) (hx : ((f1 &&& (nI 31))).toInt < 0 ∨ 27 < ((f1 &&& (nI 31))).toInt) : zd scr 154 26 [some (.retAddr 0), some (.ref a1), some (.ref a2), some (.int x3)] [] w = zd scr 154 854 [some (.retAddr 0), some (.ref a1), some (.ref a2), some (.int x3)] [] w := by
  refine Eq.trans (zd_aload_s zh154 rfl rfl) ?_
  refine Eq.trans (zd_iload_n zh154 rfl rfl) ?_
  refine Eq.trans (zd_sld zh154 h1 h2 rfl) ?_
  refine Eq.trans (zd_bipush zh154 (v := (nI 31)) rfl rfl) ?_
  refine Eq.trans (zd_iand zh154 rfl) ?_
  exact zd_tabOut zh154 hx (by decide) rfl
set_option maxRecDepth 20000 in
theorem b154_860 {scr : List Int32} {w : zAW} {a1 : Nat} {a2 : Nat} {x3 : Int32}  : zd scr 154 860 [some (.retAddr 0), some (.ref a1), some (.ref a2), some (.int x3)] [] w = some (some (.int (nI 1)), w) := by
  refine Eq.trans (zd_iconst zh154 (v := (nI 1)) rfl rfl) ?_
  exact zd_iret zh154 rfl rfl
set_option maxRecDepth 20000 in
theorem b154_160 {scr : List Int32} {w : zAW} {a1 : Nat} {a2 : Nat} {x3 : Int32} {f1 : Int32} (h1 : ¬ (x3 + (nI 1)) < 0) (h2 : scr[((x3 + (nI 1))).toNatClampNeg]? = some f1) {f2 : Int32} (h3 : ¬ (x3 + (nI 2)) < 0) (h4 : scr[((x3 + (nI 2))).toNatClampNeg]? = some f2) (h5 : zob w a1 5 = true) {f3 : Int32} {w1 : zAW} (h6 : zC scr 53 [.ref a1, .int f1, .int f2] w = some (some (.int f3), w1)) {f4 : Int32} (h7 : ¬ (x3 + (nI 1)) < 0) (h8 : scr[((x3 + (nI 1))).toNatClampNeg]? = some f4) {f5 : Int32} (h9 : ¬ (x3 + (nI 2)) < 0) (h10 : scr[((x3 + (nI 2))).toNatClampNeg]? = some f5) (h11 : zob w1 a2 6 = true) {f6 : Int32} {w2 : zAW} (h12 : zC scr 116 [.ref a2, .int f4, .int f5] w1 = some (some (.int f6), w2)) : zd scr 154 160 [some (.retAddr 0), some (.ref a1), some (.ref a2), some (.int x3)] [] w = if f3 = f6 then zd scr 154 854 [some (.retAddr 0), some (.ref a1), some (.ref a2), some (.int x3)] [] w2 else zd scr 154 191 [some (.retAddr 0), some (.ref a1), some (.ref a2), some (.int x3)] [] w2 := by
  refine Eq.trans (zd_aload_n zh154 rfl rfl) ?_
  refine Eq.trans (zd_aload_s zh154 rfl rfl) ?_
  refine Eq.trans (zd_iload_n zh154 rfl rfl) ?_
  refine Eq.trans (zd_iconst zh154 (v := (nI 1)) rfl rfl) ?_
  refine Eq.trans (zd_iadd zh154 rfl) ?_
  refine Eq.trans (zd_sld zh154 h1 h2 rfl) ?_
  refine Eq.trans (zd_aload_s zh154 rfl rfl) ?_
  refine Eq.trans (zd_iload_n zh154 rfl rfl) ?_
  refine Eq.trans (zd_iconst zh154 (v := (nI 2)) rfl rfl) ?_
  refine Eq.trans (zd_iadd zh154 rfl) ?_
  refine Eq.trans (zd_sld zh154 h3 h4 rfl) ?_
  refine Eq.trans (zd_invVi zh154 zh53 rfl rfl ⟨Nat.le_of_ble_eq_true rfl, Nat.le_of_ble_eq_true rfl, Nat.le_of_ble_eq_true rfl, Nat.le_of_ble_eq_true rfl⟩ rfl h5 h6 rfl) ?_
  refine Eq.trans (zd_aload_n zh154 rfl rfl) ?_
  refine Eq.trans (zd_aload_s zh154 rfl rfl) ?_
  refine Eq.trans (zd_iload_n zh154 rfl rfl) ?_
  refine Eq.trans (zd_iconst zh154 (v := (nI 1)) rfl rfl) ?_
  refine Eq.trans (zd_iadd zh154 rfl) ?_
  refine Eq.trans (zd_sld zh154 h7 h8 rfl) ?_
  refine Eq.trans (zd_aload_s zh154 rfl rfl) ?_
  refine Eq.trans (zd_iload_n zh154 rfl rfl) ?_
  refine Eq.trans (zd_iconst zh154 (v := (nI 2)) rfl rfl) ?_
  refine Eq.trans (zd_iadd zh154 rfl) ?_
  refine Eq.trans (zd_sld zh154 h9 h10 rfl) ?_
  refine Eq.trans (zd_invVi zh154 zh116 rfl rfl ⟨Nat.le_of_ble_eq_true rfl, Nat.le_of_ble_eq_true rfl, Nat.le_of_ble_eq_true rfl, Nat.le_of_ble_eq_true rfl⟩ rfl h11 h12 rfl) ?_
  exact zd_icmpeq zh154 (t := 854) (by decide) rfl
set_option maxRecDepth 20000 in
theorem b154_193 {scr : List Int32} {w : zAW} {a1 : Nat} {a2 : Nat} {x3 : Int32} {f1 : Int32} (h1 : ¬ (x3 + (nI 1)) < 0) (h2 : scr[((x3 + (nI 1))).toNatClampNeg]? = some f1) (h3 : zob w a1 5 = true) {f2 : Int32} {w1 : zAW} (h4 : zC scr 54 [.ref a1, .int f1] w = some (some (.int f2), w1)) {f3 : Int32} (h5 : ¬ (x3 + (nI 1)) < 0) (h6 : scr[((x3 + (nI 1))).toNatClampNeg]? = some f3) (h7 : zob w1 a2 6 = true) {f4 : Int32} {w2 : zAW} (h8 : zC scr 118 [.ref a2, .int f3] w1 = some (some (.int f4), w2)) : zd scr 154 193 [some (.retAddr 0), some (.ref a1), some (.ref a2), some (.int x3)] [] w = if f2 = f4 then zd scr 154 854 [some (.retAddr 0), some (.ref a1), some (.ref a2), some (.int x3)] [] w2 else zd scr 154 214 [some (.retAddr 0), some (.ref a1), some (.ref a2), some (.int x3)] [] w2 := by
  refine Eq.trans (zd_aload_n zh154 rfl rfl) ?_
  refine Eq.trans (zd_aload_s zh154 rfl rfl) ?_
  refine Eq.trans (zd_iload_n zh154 rfl rfl) ?_
  refine Eq.trans (zd_iconst zh154 (v := (nI 1)) rfl rfl) ?_
  refine Eq.trans (zd_iadd zh154 rfl) ?_
  refine Eq.trans (zd_sld zh154 h1 h2 rfl) ?_
  refine Eq.trans (zd_invVi zh154 zh54 rfl rfl ⟨Nat.le_of_ble_eq_true rfl, Nat.le_of_ble_eq_true rfl, Nat.le_of_ble_eq_true rfl, Nat.le_of_ble_eq_true rfl⟩ rfl h3 h4 rfl) ?_
  refine Eq.trans (zd_aload_n zh154 rfl rfl) ?_
  refine Eq.trans (zd_aload_s zh154 rfl rfl) ?_
  refine Eq.trans (zd_iload_n zh154 rfl rfl) ?_
  refine Eq.trans (zd_iconst zh154 (v := (nI 1)) rfl rfl) ?_
  refine Eq.trans (zd_iadd zh154 rfl) ?_
  refine Eq.trans (zd_sld zh154 h5 h6 rfl) ?_
  refine Eq.trans (zd_invVi zh154 zh118 rfl rfl ⟨Nat.le_of_ble_eq_true rfl, Nat.le_of_ble_eq_true rfl, Nat.le_of_ble_eq_true rfl, Nat.le_of_ble_eq_true rfl⟩ rfl h7 h8 rfl) ?_
  exact zd_icmpeq zh154 (t := 854) (by decide) rfl
set_option maxRecDepth 20000 in
theorem b154_216 {scr : List Int32} {w : zAW} {a1 : Nat} {a2 : Nat} {x3 : Int32} {f1 : Int32} (h1 : ¬ (x3 + (nI 1)) < 0) (h2 : scr[((x3 + (nI 1))).toNatClampNeg]? = some f1) {f2 : Int32} (h3 : ¬ (x3 + (nI 2)) < 0) (h4 : scr[((x3 + (nI 2))).toNatClampNeg]? = some f2) (h5 : zob w a1 5 = true) {f3 : Int32} {w1 : zAW} (h6 : zC scr 55 [.ref a1, .int f1, .int f2] w = some (some (.int f3), w1)) {f4 : Int32} (h7 : ¬ (x3 + (nI 1)) < 0) (h8 : scr[((x3 + (nI 1))).toNatClampNeg]? = some f4) {f5 : Int32} (h9 : ¬ (x3 + (nI 2)) < 0) (h10 : scr[((x3 + (nI 2))).toNatClampNeg]? = some f5) (h11 : zob w1 a2 6 = true) {f6 : Int32} {w2 : zAW} (h12 : zC scr 119 [.ref a2, .int f4, .int f5] w1 = some (some (.int f6), w2)) : zd scr 154 216 [some (.retAddr 0), some (.ref a1), some (.ref a2), some (.int x3)] [] w = if f3 = f6 then zd scr 154 854 [some (.retAddr 0), some (.ref a1), some (.ref a2), some (.int x3)] [] w2 else zd scr 154 247 [some (.retAddr 0), some (.ref a1), some (.ref a2), some (.int x3)] [] w2 := by
  refine Eq.trans (zd_aload_n zh154 rfl rfl) ?_
  refine Eq.trans (zd_aload_s zh154 rfl rfl) ?_
  refine Eq.trans (zd_iload_n zh154 rfl rfl) ?_
  refine Eq.trans (zd_iconst zh154 (v := (nI 1)) rfl rfl) ?_
  refine Eq.trans (zd_iadd zh154 rfl) ?_
  refine Eq.trans (zd_sld zh154 h1 h2 rfl) ?_
  refine Eq.trans (zd_aload_s zh154 rfl rfl) ?_
  refine Eq.trans (zd_iload_n zh154 rfl rfl) ?_
  refine Eq.trans (zd_iconst zh154 (v := (nI 2)) rfl rfl) ?_
  refine Eq.trans (zd_iadd zh154 rfl) ?_
  refine Eq.trans (zd_sld zh154 h3 h4 rfl) ?_
  refine Eq.trans (zd_invVi zh154 zh55 rfl rfl ⟨Nat.le_of_ble_eq_true rfl, Nat.le_of_ble_eq_true rfl, Nat.le_of_ble_eq_true rfl, Nat.le_of_ble_eq_true rfl⟩ rfl h5 h6 rfl) ?_
  refine Eq.trans (zd_aload_n zh154 rfl rfl) ?_
  refine Eq.trans (zd_aload_s zh154 rfl rfl) ?_
  refine Eq.trans (zd_iload_n zh154 rfl rfl) ?_
  refine Eq.trans (zd_iconst zh154 (v := (nI 1)) rfl rfl) ?_
  refine Eq.trans (zd_iadd zh154 rfl) ?_
  refine Eq.trans (zd_sld zh154 h7 h8 rfl) ?_
  refine Eq.trans (zd_aload_s zh154 rfl rfl) ?_
  refine Eq.trans (zd_iload_n zh154 rfl rfl) ?_
  refine Eq.trans (zd_iconst zh154 (v := (nI 2)) rfl rfl) ?_
  refine Eq.trans (zd_iadd zh154 rfl) ?_
  refine Eq.trans (zd_sld zh154 h9 h10 rfl) ?_
  refine Eq.trans (zd_invVi zh154 zh119 rfl rfl ⟨Nat.le_of_ble_eq_true rfl, Nat.le_of_ble_eq_true rfl, Nat.le_of_ble_eq_true rfl, Nat.le_of_ble_eq_true rfl⟩ rfl h11 h12 rfl) ?_
  exact zd_icmpeq zh154 (t := 854) (by decide) rfl
set_option maxRecDepth 20000 in
theorem b154_249 {scr : List Int32} {w : zAW} {a1 : Nat} {a2 : Nat} {x3 : Int32} {f1 : Int32} (h1 : ¬ (x3 + (nI 1)) < 0) (h2 : scr[((x3 + (nI 1))).toNatClampNeg]? = some f1) (h3 : zob w a1 5 = true) {f2 : Int32} {w1 : zAW} (h4 : zC scr 56 [.ref a1, .int f1] w = some (some (.int f2), w1)) {f3 : Int32} (h5 : ¬ (x3 + (nI 1)) < 0) (h6 : scr[((x3 + (nI 1))).toNatClampNeg]? = some f3) (h7 : zob w1 a2 6 = true) {f4 : Int32} {w2 : zAW} (h8 : zC scr 121 [.ref a2, .int f3] w1 = some (some (.int f4), w2)) : zd scr 154 249 [some (.retAddr 0), some (.ref a1), some (.ref a2), some (.int x3)] [] w = if f2 = f4 then zd scr 154 854 [some (.retAddr 0), some (.ref a1), some (.ref a2), some (.int x3)] [] w2 else zd scr 154 270 [some (.retAddr 0), some (.ref a1), some (.ref a2), some (.int x3)] [] w2 := by
  refine Eq.trans (zd_aload_n zh154 rfl rfl) ?_
  refine Eq.trans (zd_aload_s zh154 rfl rfl) ?_
  refine Eq.trans (zd_iload_n zh154 rfl rfl) ?_
  refine Eq.trans (zd_iconst zh154 (v := (nI 1)) rfl rfl) ?_
  refine Eq.trans (zd_iadd zh154 rfl) ?_
  refine Eq.trans (zd_sld zh154 h1 h2 rfl) ?_
  refine Eq.trans (zd_invVi zh154 zh56 rfl rfl ⟨Nat.le_of_ble_eq_true rfl, Nat.le_of_ble_eq_true rfl, Nat.le_of_ble_eq_true rfl, Nat.le_of_ble_eq_true rfl⟩ rfl h3 h4 rfl) ?_
  refine Eq.trans (zd_aload_n zh154 rfl rfl) ?_
  refine Eq.trans (zd_aload_s zh154 rfl rfl) ?_
  refine Eq.trans (zd_iload_n zh154 rfl rfl) ?_
  refine Eq.trans (zd_iconst zh154 (v := (nI 1)) rfl rfl) ?_
  refine Eq.trans (zd_iadd zh154 rfl) ?_
  refine Eq.trans (zd_sld zh154 h5 h6 rfl) ?_
  refine Eq.trans (zd_invVi zh154 zh121 rfl rfl ⟨Nat.le_of_ble_eq_true rfl, Nat.le_of_ble_eq_true rfl, Nat.le_of_ble_eq_true rfl, Nat.le_of_ble_eq_true rfl⟩ rfl h7 h8 rfl) ?_
  exact zd_icmpeq zh154 (t := 854) (by decide) rfl
set_option maxRecDepth 20000 in
theorem b154_272 {scr : List Int32} {w : zAW} {a1 : Nat} {a2 : Nat} {x3 : Int32} {f1 : Int32} (h1 : ¬ (x3 + (nI 1)) < 0) (h2 : scr[((x3 + (nI 1))).toNatClampNeg]? = some f1) (h3 : zob w a1 5 = true) {f2 : Int32} {w1 : zAW} (h4 : zC scr 57 [.ref a1, .int f1] w = some (some (.int f2), w1)) {f3 : Int32} (h5 : ¬ (x3 + (nI 1)) < 0) (h6 : scr[((x3 + (nI 1))).toNatClampNeg]? = some f3) (h7 : zob w1 a2 6 = true) {f4 : Int32} {w2 : zAW} (h8 : zC scr 122 [.ref a2, .int f3] w1 = some (some (.int f4), w2)) : zd scr 154 272 [some (.retAddr 0), some (.ref a1), some (.ref a2), some (.int x3)] [] w = if f2 = f4 then zd scr 154 854 [some (.retAddr 0), some (.ref a1), some (.ref a2), some (.int x3)] [] w2 else zd scr 154 293 [some (.retAddr 0), some (.ref a1), some (.ref a2), some (.int x3)] [] w2 := by
  refine Eq.trans (zd_aload_n zh154 rfl rfl) ?_
  refine Eq.trans (zd_aload_s zh154 rfl rfl) ?_
  refine Eq.trans (zd_iload_n zh154 rfl rfl) ?_
  refine Eq.trans (zd_iconst zh154 (v := (nI 1)) rfl rfl) ?_
  refine Eq.trans (zd_iadd zh154 rfl) ?_
  refine Eq.trans (zd_sld zh154 h1 h2 rfl) ?_
  refine Eq.trans (zd_invVi zh154 zh57 rfl rfl ⟨Nat.le_of_ble_eq_true rfl, Nat.le_of_ble_eq_true rfl, Nat.le_of_ble_eq_true rfl, Nat.le_of_ble_eq_true rfl⟩ rfl h3 h4 rfl) ?_
  refine Eq.trans (zd_aload_n zh154 rfl rfl) ?_
  refine Eq.trans (zd_aload_s zh154 rfl rfl) ?_
  refine Eq.trans (zd_iload_n zh154 rfl rfl) ?_
  refine Eq.trans (zd_iconst zh154 (v := (nI 1)) rfl rfl) ?_
  refine Eq.trans (zd_iadd zh154 rfl) ?_
  refine Eq.trans (zd_sld zh154 h5 h6 rfl) ?_
  refine Eq.trans (zd_invVi zh154 zh122 rfl rfl ⟨Nat.le_of_ble_eq_true rfl, Nat.le_of_ble_eq_true rfl, Nat.le_of_ble_eq_true rfl, Nat.le_of_ble_eq_true rfl⟩ rfl h7 h8 rfl) ?_
  exact zd_icmpeq zh154 (t := 854) (by decide) rfl
set_option maxRecDepth 20000 in
theorem b154_295 {scr : List Int32} {w : zAW} {a1 : Nat} {a2 : Nat} {x3 : Int32} {f1 : Int32} (h1 : ¬ (x3 + (nI 1)) < 0) (h2 : scr[((x3 + (nI 1))).toNatClampNeg]? = some f1) {f2 : Int32} (h3 : ¬ (x3 + (nI 2)) < 0) (h4 : scr[((x3 + (nI 2))).toNatClampNeg]? = some f2) (h5 : zob w a1 5 = true) {f3 : Int32} {w1 : zAW} (h6 : zC scr 58 [.ref a1, .int f1, .int f2] w = some (some (.int f3), w1)) {f4 : Int32} (h7 : ¬ (x3 + (nI 1)) < 0) (h8 : scr[((x3 + (nI 1))).toNatClampNeg]? = some f4) {f5 : Int32} (h9 : ¬ (x3 + (nI 2)) < 0) (h10 : scr[((x3 + (nI 2))).toNatClampNeg]? = some f5) (h11 : zob w1 a2 6 = true) {f6 : Int32} {w2 : zAW} (h12 : zC scr 123 [.ref a2, .int f4, .int f5] w1 = some (some (.int f6), w2)) : zd scr 154 295 [some (.retAddr 0), some (.ref a1), some (.ref a2), some (.int x3)] [] w = if f3 = f6 then zd scr 154 854 [some (.retAddr 0), some (.ref a1), some (.ref a2), some (.int x3)] [] w2 else zd scr 154 326 [some (.retAddr 0), some (.ref a1), some (.ref a2), some (.int x3)] [] w2 := by
  refine Eq.trans (zd_aload_n zh154 rfl rfl) ?_
  refine Eq.trans (zd_aload_s zh154 rfl rfl) ?_
  refine Eq.trans (zd_iload_n zh154 rfl rfl) ?_
  refine Eq.trans (zd_iconst zh154 (v := (nI 1)) rfl rfl) ?_
  refine Eq.trans (zd_iadd zh154 rfl) ?_
  refine Eq.trans (zd_sld zh154 h1 h2 rfl) ?_
  refine Eq.trans (zd_aload_s zh154 rfl rfl) ?_
  refine Eq.trans (zd_iload_n zh154 rfl rfl) ?_
  refine Eq.trans (zd_iconst zh154 (v := (nI 2)) rfl rfl) ?_
  refine Eq.trans (zd_iadd zh154 rfl) ?_
  refine Eq.trans (zd_sld zh154 h3 h4 rfl) ?_
  refine Eq.trans (zd_invVi zh154 zh58 rfl rfl ⟨Nat.le_of_ble_eq_true rfl, Nat.le_of_ble_eq_true rfl, Nat.le_of_ble_eq_true rfl, Nat.le_of_ble_eq_true rfl⟩ rfl h5 h6 rfl) ?_
  refine Eq.trans (zd_aload_n zh154 rfl rfl) ?_
  refine Eq.trans (zd_aload_s zh154 rfl rfl) ?_
  refine Eq.trans (zd_iload_n zh154 rfl rfl) ?_
  refine Eq.trans (zd_iconst zh154 (v := (nI 1)) rfl rfl) ?_
  refine Eq.trans (zd_iadd zh154 rfl) ?_
  refine Eq.trans (zd_sld zh154 h7 h8 rfl) ?_
  refine Eq.trans (zd_aload_s zh154 rfl rfl) ?_
  refine Eq.trans (zd_iload_n zh154 rfl rfl) ?_
  refine Eq.trans (zd_iconst zh154 (v := (nI 2)) rfl rfl) ?_
  refine Eq.trans (zd_iadd zh154 rfl) ?_
  refine Eq.trans (zd_sld zh154 h9 h10 rfl) ?_
  refine Eq.trans (zd_invVi zh154 zh123 rfl rfl ⟨Nat.le_of_ble_eq_true rfl, Nat.le_of_ble_eq_true rfl, Nat.le_of_ble_eq_true rfl, Nat.le_of_ble_eq_true rfl⟩ rfl h11 h12 rfl) ?_
  exact zd_icmpeq zh154 (t := 854) (by decide) rfl
set_option maxRecDepth 20000 in
theorem b154_328 {scr : List Int32} {w : zAW} {a1 : Nat} {a2 : Nat} {x3 : Int32} {f1 : Int32} (h1 : ¬ (x3 + (nI 1)) < 0) (h2 : scr[((x3 + (nI 1))).toNatClampNeg]? = some f1) {f2 : Int32} (h3 : ¬ (x3 + (nI 2)) < 0) (h4 : scr[((x3 + (nI 2))).toNatClampNeg]? = some f2) (h5 : zob w a1 5 = true) {f3 : Int32} {w1 : zAW} (h6 : zC scr 59 [.ref a1, .int f1, .int f2] w = some (some (.int f3), w1)) {f4 : Int32} (h7 : ¬ (x3 + (nI 1)) < 0) (h8 : scr[((x3 + (nI 1))).toNatClampNeg]? = some f4) {f5 : Int32} (h9 : ¬ (x3 + (nI 2)) < 0) (h10 : scr[((x3 + (nI 2))).toNatClampNeg]? = some f5) (h11 : zob w1 a2 6 = true) {f6 : Int32} {w2 : zAW} (h12 : zC scr 126 [.ref a2, .int f4, .int f5] w1 = some (some (.int f6), w2)) : zd scr 154 328 [some (.retAddr 0), some (.ref a1), some (.ref a2), some (.int x3)] [] w = if f3 = f6 then zd scr 154 854 [some (.retAddr 0), some (.ref a1), some (.ref a2), some (.int x3)] [] w2 else zd scr 154 359 [some (.retAddr 0), some (.ref a1), some (.ref a2), some (.int x3)] [] w2 := by
  refine Eq.trans (zd_aload_n zh154 rfl rfl) ?_
  refine Eq.trans (zd_aload_s zh154 rfl rfl) ?_
  refine Eq.trans (zd_iload_n zh154 rfl rfl) ?_
  refine Eq.trans (zd_iconst zh154 (v := (nI 1)) rfl rfl) ?_
  refine Eq.trans (zd_iadd zh154 rfl) ?_
  refine Eq.trans (zd_sld zh154 h1 h2 rfl) ?_
  refine Eq.trans (zd_aload_s zh154 rfl rfl) ?_
  refine Eq.trans (zd_iload_n zh154 rfl rfl) ?_
  refine Eq.trans (zd_iconst zh154 (v := (nI 2)) rfl rfl) ?_
  refine Eq.trans (zd_iadd zh154 rfl) ?_
  refine Eq.trans (zd_sld zh154 h3 h4 rfl) ?_
  refine Eq.trans (zd_invVi zh154 zh59 rfl rfl ⟨Nat.le_of_ble_eq_true rfl, Nat.le_of_ble_eq_true rfl, Nat.le_of_ble_eq_true rfl, Nat.le_of_ble_eq_true rfl⟩ rfl h5 h6 rfl) ?_
  refine Eq.trans (zd_aload_n zh154 rfl rfl) ?_
  refine Eq.trans (zd_aload_s zh154 rfl rfl) ?_
  refine Eq.trans (zd_iload_n zh154 rfl rfl) ?_
  refine Eq.trans (zd_iconst zh154 (v := (nI 1)) rfl rfl) ?_
  refine Eq.trans (zd_iadd zh154 rfl) ?_
  refine Eq.trans (zd_sld zh154 h7 h8 rfl) ?_
  refine Eq.trans (zd_aload_s zh154 rfl rfl) ?_
  refine Eq.trans (zd_iload_n zh154 rfl rfl) ?_
  refine Eq.trans (zd_iconst zh154 (v := (nI 2)) rfl rfl) ?_
  refine Eq.trans (zd_iadd zh154 rfl) ?_
  refine Eq.trans (zd_sld zh154 h9 h10 rfl) ?_
  refine Eq.trans (zd_invVi zh154 zh126 rfl rfl ⟨Nat.le_of_ble_eq_true rfl, Nat.le_of_ble_eq_true rfl, Nat.le_of_ble_eq_true rfl, Nat.le_of_ble_eq_true rfl⟩ rfl h11 h12 rfl) ?_
  exact zd_icmpeq zh154 (t := 854) (by decide) rfl
set_option maxRecDepth 20000 in
theorem b154_361 {scr : List Int32} {w : zAW} {a1 : Nat} {a2 : Nat} {x3 : Int32} (h1 : zob w a1 5 = true) {f1 : Int32} {w1 : zAW} (h2 : zC scr 60 [.ref a1] w = some (some (.int f1), w1)) (h3 : zob w1 a2 6 = true) {f2 : Int32} {w2 : zAW} (h4 : zC scr 127 [.ref a2] w1 = some (some (.int f2), w2)) : zd scr 154 361 [some (.retAddr 0), some (.ref a1), some (.ref a2), some (.int x3)] [] w = if f1 = f2 then zd scr 154 854 [some (.retAddr 0), some (.ref a1), some (.ref a2), some (.int x3)] [] w2 else zd scr 154 372 [some (.retAddr 0), some (.ref a1), some (.ref a2), some (.int x3)] [] w2 := by
  refine Eq.trans (zd_aload_n zh154 rfl rfl) ?_
  refine Eq.trans (zd_invVi zh154 zh60 rfl rfl ⟨Nat.le_of_ble_eq_true rfl, Nat.le_of_ble_eq_true rfl, Nat.le_of_ble_eq_true rfl, Nat.le_of_ble_eq_true rfl⟩ rfl h1 h2 rfl) ?_
  refine Eq.trans (zd_aload_n zh154 rfl rfl) ?_
  refine Eq.trans (zd_invVi zh154 zh127 rfl rfl ⟨Nat.le_of_ble_eq_true rfl, Nat.le_of_ble_eq_true rfl, Nat.le_of_ble_eq_true rfl, Nat.le_of_ble_eq_true rfl⟩ rfl h3 h4 rfl) ?_
  exact zd_icmpeq zh154 (t := 854) (by decide) rfl
set_option maxRecDepth 20000 in
theorem b154_374 {scr : List Int32} {w : zAW} {a1 : Nat} {a2 : Nat} {x3 : Int32} (h1 : zob w a1 5 = true) {f1 : Int32} {w1 : zAW} (h2 : zC scr 61 [.ref a1] w = some (some (.int f1), w1)) (h3 : zob w1 a2 6 = true) {f2 : Int32} {w2 : zAW} (h4 : zC scr 128 [.ref a2] w1 = some (some (.int f2), w2)) : zd scr 154 374 [some (.retAddr 0), some (.ref a1), some (.ref a2), some (.int x3)] [] w = if f1 = f2 then zd scr 154 854 [some (.retAddr 0), some (.ref a1), some (.ref a2), some (.int x3)] [] w2 else zd scr 154 385 [some (.retAddr 0), some (.ref a1), some (.ref a2), some (.int x3)] [] w2 := by
  refine Eq.trans (zd_aload_n zh154 rfl rfl) ?_
  refine Eq.trans (zd_invVi zh154 zh61 rfl rfl ⟨Nat.le_of_ble_eq_true rfl, Nat.le_of_ble_eq_true rfl, Nat.le_of_ble_eq_true rfl, Nat.le_of_ble_eq_true rfl⟩ rfl h1 h2 rfl) ?_
  refine Eq.trans (zd_aload_n zh154 rfl rfl) ?_
  refine Eq.trans (zd_invVi zh154 zh128 rfl rfl ⟨Nat.le_of_ble_eq_true rfl, Nat.le_of_ble_eq_true rfl, Nat.le_of_ble_eq_true rfl, Nat.le_of_ble_eq_true rfl⟩ rfl h3 h4 rfl) ?_
  exact zd_icmpeq zh154 (t := 854) (by decide) rfl
set_option maxRecDepth 20000 in
theorem b154_387 {scr : List Int32} {w : zAW} {a1 : Nat} {a2 : Nat} {x3 : Int32} {f1 : Int32} (h1 : ¬ (x3 + (nI 1)) < 0) (h2 : scr[((x3 + (nI 1))).toNatClampNeg]? = some f1) {f2 : Int32} (h3 : ¬ (x3 + (nI 2)) < 0) (h4 : scr[((x3 + (nI 2))).toNatClampNeg]? = some f2) {f3 : Int32} (h5 : ¬ (x3 + (nI 3)) < 0) (h6 : scr[((x3 + (nI 3))).toNatClampNeg]? = some f3) {f4 : Int32} (h7 : ¬ (x3 + (nI 4)) < 0) (h8 : scr[((x3 + (nI 4))).toNatClampNeg]? = some f4) (h9 : zob w a1 5 = true) {f5 : Int32} {w1 : zAW} (h10 : zC scr 62 [.ref a1, .int f1, .int f2, .int f3, .int f4] w = some (some (.int f5), w1)) {f6 : Int32} (h11 : ¬ (x3 + (nI 1)) < 0) (h12 : scr[((x3 + (nI 1))).toNatClampNeg]? = some f6) {f7 : Int32} (h13 : ¬ (x3 + (nI 2)) < 0) (h14 : scr[((x3 + (nI 2))).toNatClampNeg]? = some f7) {f8 : Int32} (h15 : ¬ (x3 + (nI 3)) < 0) (h16 : scr[((x3 + (nI 3))).toNatClampNeg]? = some f8) {f9 : Int32} (h17 : ¬ (x3 + (nI 4)) < 0) (h18 : scr[((x3 + (nI 4))).toNatClampNeg]? = some f9) (h19 : zob w1 a2 6 = true) {f10 : Int32} {w2 : zAW} (h20 : zC scr 130 [.ref a2, .int f6, .int f7, .int f8, .int f9] w1 = some (some (.int f10), w2)) : zd scr 154 387 [some (.retAddr 0), some (.ref a1), some (.ref a2), some (.int x3)] [] w = if f5 = f10 then zd scr 154 854 [some (.retAddr 0), some (.ref a1), some (.ref a2), some (.int x3)] [] w2 else zd scr 154 438 [some (.retAddr 0), some (.ref a1), some (.ref a2), some (.int x3)] [] w2 := by
  refine Eq.trans (zd_aload_n zh154 rfl rfl) ?_
  refine Eq.trans (zd_aload_s zh154 rfl rfl) ?_
  refine Eq.trans (zd_iload_n zh154 rfl rfl) ?_
  refine Eq.trans (zd_iconst zh154 (v := (nI 1)) rfl rfl) ?_
  refine Eq.trans (zd_iadd zh154 rfl) ?_
  refine Eq.trans (zd_sld zh154 h1 h2 rfl) ?_
  refine Eq.trans (zd_aload_s zh154 rfl rfl) ?_
  refine Eq.trans (zd_iload_n zh154 rfl rfl) ?_
  refine Eq.trans (zd_iconst zh154 (v := (nI 2)) rfl rfl) ?_
  refine Eq.trans (zd_iadd zh154 rfl) ?_
  refine Eq.trans (zd_sld zh154 h3 h4 rfl) ?_
  refine Eq.trans (zd_aload_s zh154 rfl rfl) ?_
  refine Eq.trans (zd_iload_n zh154 rfl rfl) ?_
  refine Eq.trans (zd_iconst zh154 (v := (nI 3)) rfl rfl) ?_
  refine Eq.trans (zd_iadd zh154 rfl) ?_
  refine Eq.trans (zd_sld zh154 h5 h6 rfl) ?_
  refine Eq.trans (zd_aload_s zh154 rfl rfl) ?_
  refine Eq.trans (zd_iload_n zh154 rfl rfl) ?_
  refine Eq.trans (zd_iconst zh154 (v := (nI 4)) rfl rfl) ?_
  refine Eq.trans (zd_iadd zh154 rfl) ?_
  refine Eq.trans (zd_sld zh154 h7 h8 rfl) ?_
  refine Eq.trans (zd_invVi zh154 zh62 rfl rfl ⟨Nat.le_of_ble_eq_true rfl, Nat.le_of_ble_eq_true rfl, Nat.le_of_ble_eq_true rfl, Nat.le_of_ble_eq_true rfl⟩ rfl h9 h10 rfl) ?_
  refine Eq.trans (zd_aload_n zh154 rfl rfl) ?_
  refine Eq.trans (zd_aload_s zh154 rfl rfl) ?_
  refine Eq.trans (zd_iload_n zh154 rfl rfl) ?_
  refine Eq.trans (zd_iconst zh154 (v := (nI 1)) rfl rfl) ?_
  refine Eq.trans (zd_iadd zh154 rfl) ?_
  refine Eq.trans (zd_sld zh154 h11 h12 rfl) ?_
  refine Eq.trans (zd_aload_s zh154 rfl rfl) ?_
  refine Eq.trans (zd_iload_n zh154 rfl rfl) ?_
  refine Eq.trans (zd_iconst zh154 (v := (nI 2)) rfl rfl) ?_
  refine Eq.trans (zd_iadd zh154 rfl) ?_
  refine Eq.trans (zd_sld zh154 h13 h14 rfl) ?_
  refine Eq.trans (zd_aload_s zh154 rfl rfl) ?_
  refine Eq.trans (zd_iload_n zh154 rfl rfl) ?_
  refine Eq.trans (zd_iconst zh154 (v := (nI 3)) rfl rfl) ?_
  refine Eq.trans (zd_iadd zh154 rfl) ?_
  refine Eq.trans (zd_sld zh154 h15 h16 rfl) ?_
  refine Eq.trans (zd_aload_s zh154 rfl rfl) ?_
  refine Eq.trans (zd_iload_n zh154 rfl rfl) ?_
  refine Eq.trans (zd_iconst zh154 (v := (nI 4)) rfl rfl) ?_
  refine Eq.trans (zd_iadd zh154 rfl) ?_
  refine Eq.trans (zd_sld zh154 h17 h18 rfl) ?_
  refine Eq.trans (zd_invVi zh154 zh130 rfl rfl ⟨Nat.le_of_ble_eq_true rfl, Nat.le_of_ble_eq_true rfl, Nat.le_of_ble_eq_true rfl, Nat.le_of_ble_eq_true rfl⟩ rfl h19 h20 rfl) ?_
  exact zd_icmpeq zh154 (t := 854) (by decide) rfl
set_option maxRecDepth 20000 in
theorem b154_440 {scr : List Int32} {w : zAW} {a1 : Nat} {a2 : Nat} {x3 : Int32} (h1 : zob w a1 5 = true) {f1 : Int32} {w1 : zAW} (h2 : zC scr 63 [.ref a1] w = some (some (.int f1), w1)) (h3 : zob w1 a2 6 = true) {f2 : Int32} {w2 : zAW} (h4 : zC scr 131 [.ref a2] w1 = some (some (.int f2), w2)) : zd scr 154 440 [some (.retAddr 0), some (.ref a1), some (.ref a2), some (.int x3)] [] w = if f1 = f2 then zd scr 154 854 [some (.retAddr 0), some (.ref a1), some (.ref a2), some (.int x3)] [] w2 else zd scr 154 451 [some (.retAddr 0), some (.ref a1), some (.ref a2), some (.int x3)] [] w2 := by
  refine Eq.trans (zd_aload_n zh154 rfl rfl) ?_
  refine Eq.trans (zd_invVi zh154 zh63 rfl rfl ⟨Nat.le_of_ble_eq_true rfl, Nat.le_of_ble_eq_true rfl, Nat.le_of_ble_eq_true rfl, Nat.le_of_ble_eq_true rfl⟩ rfl h1 h2 rfl) ?_
  refine Eq.trans (zd_aload_n zh154 rfl rfl) ?_
  refine Eq.trans (zd_invVi zh154 zh131 rfl rfl ⟨Nat.le_of_ble_eq_true rfl, Nat.le_of_ble_eq_true rfl, Nat.le_of_ble_eq_true rfl, Nat.le_of_ble_eq_true rfl⟩ rfl h3 h4 rfl) ?_
  exact zd_icmpeq zh154 (t := 854) (by decide) rfl
set_option maxRecDepth 20000 in
theorem b154_453 {scr : List Int32} {w : zAW} {a1 : Nat} {a2 : Nat} {x3 : Int32} {f1 : Int32} (h1 : ¬ (x3 + (nI 1)) < 0) (h2 : scr[((x3 + (nI 1))).toNatClampNeg]? = some f1) {f2 : Int32} (h3 : ¬ (x3 + (nI 2)) < 0) (h4 : scr[((x3 + (nI 2))).toNatClampNeg]? = some f2) (h5 : zob w a1 5 = true) {f3 : Int32} {w1 : zAW} (h6 : zC scr 64 [.ref a1, .int f1, .int f2] w = some (some (.int f3), w1)) {f4 : Int32} (h7 : ¬ (x3 + (nI 1)) < 0) (h8 : scr[((x3 + (nI 1))).toNatClampNeg]? = some f4) {f5 : Int32} (h9 : ¬ (x3 + (nI 2)) < 0) (h10 : scr[((x3 + (nI 2))).toNatClampNeg]? = some f5) (h11 : zob w1 a2 6 = true) {f6 : Int32} {w2 : zAW} (h12 : zC scr 133 [.ref a2, .int f4, .int f5] w1 = some (some (.int f6), w2)) : zd scr 154 453 [some (.retAddr 0), some (.ref a1), some (.ref a2), some (.int x3)] [] w = if f3 = f6 then zd scr 154 854 [some (.retAddr 0), some (.ref a1), some (.ref a2), some (.int x3)] [] w2 else zd scr 154 484 [some (.retAddr 0), some (.ref a1), some (.ref a2), some (.int x3)] [] w2 := by
  refine Eq.trans (zd_aload_n zh154 rfl rfl) ?_
  refine Eq.trans (zd_aload_s zh154 rfl rfl) ?_
  refine Eq.trans (zd_iload_n zh154 rfl rfl) ?_
  refine Eq.trans (zd_iconst zh154 (v := (nI 1)) rfl rfl) ?_
  refine Eq.trans (zd_iadd zh154 rfl) ?_
  refine Eq.trans (zd_sld zh154 h1 h2 rfl) ?_
  refine Eq.trans (zd_aload_s zh154 rfl rfl) ?_
  refine Eq.trans (zd_iload_n zh154 rfl rfl) ?_
  refine Eq.trans (zd_iconst zh154 (v := (nI 2)) rfl rfl) ?_
  refine Eq.trans (zd_iadd zh154 rfl) ?_
  refine Eq.trans (zd_sld zh154 h3 h4 rfl) ?_
  refine Eq.trans (zd_invVi zh154 zh64 rfl rfl ⟨Nat.le_of_ble_eq_true rfl, Nat.le_of_ble_eq_true rfl, Nat.le_of_ble_eq_true rfl, Nat.le_of_ble_eq_true rfl⟩ rfl h5 h6 rfl) ?_
  refine Eq.trans (zd_aload_n zh154 rfl rfl) ?_
  refine Eq.trans (zd_aload_s zh154 rfl rfl) ?_
  refine Eq.trans (zd_iload_n zh154 rfl rfl) ?_
  refine Eq.trans (zd_iconst zh154 (v := (nI 1)) rfl rfl) ?_
  refine Eq.trans (zd_iadd zh154 rfl) ?_
  refine Eq.trans (zd_sld zh154 h7 h8 rfl) ?_
  refine Eq.trans (zd_aload_s zh154 rfl rfl) ?_
  refine Eq.trans (zd_iload_n zh154 rfl rfl) ?_
  refine Eq.trans (zd_iconst zh154 (v := (nI 2)) rfl rfl) ?_
  refine Eq.trans (zd_iadd zh154 rfl) ?_
  refine Eq.trans (zd_sld zh154 h9 h10 rfl) ?_
  refine Eq.trans (zd_invVi zh154 zh133 rfl rfl ⟨Nat.le_of_ble_eq_true rfl, Nat.le_of_ble_eq_true rfl, Nat.le_of_ble_eq_true rfl, Nat.le_of_ble_eq_true rfl⟩ rfl h11 h12 rfl) ?_
  exact zd_icmpeq zh154 (t := 854) (by decide) rfl
set_option maxRecDepth 20000 in
theorem b154_486 {scr : List Int32} {w : zAW} {a1 : Nat} {a2 : Nat} {x3 : Int32} {f1 : Int32} (h1 : ¬ (x3 + (nI 1)) < 0) (h2 : scr[((x3 + (nI 1))).toNatClampNeg]? = some f1) {f2 : Int32} (h3 : ¬ (x3 + (nI 2)) < 0) (h4 : scr[((x3 + (nI 2))).toNatClampNeg]? = some f2) {f3 : Int32} (h5 : ¬ (x3 + (nI 3)) < 0) (h6 : scr[((x3 + (nI 3))).toNatClampNeg]? = some f3) (h7 : zob w a1 5 = true) {f4 : Int32} {w1 : zAW} (h8 : zC scr 65 [.ref a1, .int f1, .int f2, .int f3] w = some (some (.int f4), w1)) {f5 : Int32} (h9 : ¬ (x3 + (nI 1)) < 0) (h10 : scr[((x3 + (nI 1))).toNatClampNeg]? = some f5) {f6 : Int32} (h11 : ¬ (x3 + (nI 2)) < 0) (h12 : scr[((x3 + (nI 2))).toNatClampNeg]? = some f6) {f7 : Int32} (h13 : ¬ (x3 + (nI 3)) < 0) (h14 : scr[((x3 + (nI 3))).toNatClampNeg]? = some f7) (h15 : zob w1 a2 6 = true) {f8 : Int32} {w2 : zAW} (h16 : zC scr 134 [.ref a2, .int f5, .int f6, .int f7] w1 = some (some (.int f8), w2)) : zd scr 154 486 [some (.retAddr 0), some (.ref a1), some (.ref a2), some (.int x3)] [] w = if f4 = f8 then zd scr 154 854 [some (.retAddr 0), some (.ref a1), some (.ref a2), some (.int x3)] [] w2 else zd scr 154 527 [some (.retAddr 0), some (.ref a1), some (.ref a2), some (.int x3)] [] w2 := by
  refine Eq.trans (zd_aload_n zh154 rfl rfl) ?_
  refine Eq.trans (zd_aload_s zh154 rfl rfl) ?_
  refine Eq.trans (zd_iload_n zh154 rfl rfl) ?_
  refine Eq.trans (zd_iconst zh154 (v := (nI 1)) rfl rfl) ?_
  refine Eq.trans (zd_iadd zh154 rfl) ?_
  refine Eq.trans (zd_sld zh154 h1 h2 rfl) ?_
  refine Eq.trans (zd_aload_s zh154 rfl rfl) ?_
  refine Eq.trans (zd_iload_n zh154 rfl rfl) ?_
  refine Eq.trans (zd_iconst zh154 (v := (nI 2)) rfl rfl) ?_
  refine Eq.trans (zd_iadd zh154 rfl) ?_
  refine Eq.trans (zd_sld zh154 h3 h4 rfl) ?_
  refine Eq.trans (zd_aload_s zh154 rfl rfl) ?_
  refine Eq.trans (zd_iload_n zh154 rfl rfl) ?_
  refine Eq.trans (zd_iconst zh154 (v := (nI 3)) rfl rfl) ?_
  refine Eq.trans (zd_iadd zh154 rfl) ?_
  refine Eq.trans (zd_sld zh154 h5 h6 rfl) ?_
  refine Eq.trans (zd_invVi zh154 zh65 rfl rfl ⟨Nat.le_of_ble_eq_true rfl, Nat.le_of_ble_eq_true rfl, Nat.le_of_ble_eq_true rfl, Nat.le_of_ble_eq_true rfl⟩ rfl h7 h8 rfl) ?_
  refine Eq.trans (zd_aload_n zh154 rfl rfl) ?_
  refine Eq.trans (zd_aload_s zh154 rfl rfl) ?_
  refine Eq.trans (zd_iload_n zh154 rfl rfl) ?_
  refine Eq.trans (zd_iconst zh154 (v := (nI 1)) rfl rfl) ?_
  refine Eq.trans (zd_iadd zh154 rfl) ?_
  refine Eq.trans (zd_sld zh154 h9 h10 rfl) ?_
  refine Eq.trans (zd_aload_s zh154 rfl rfl) ?_
  refine Eq.trans (zd_iload_n zh154 rfl rfl) ?_
  refine Eq.trans (zd_iconst zh154 (v := (nI 2)) rfl rfl) ?_
  refine Eq.trans (zd_iadd zh154 rfl) ?_
  refine Eq.trans (zd_sld zh154 h11 h12 rfl) ?_
  refine Eq.trans (zd_aload_s zh154 rfl rfl) ?_
  refine Eq.trans (zd_iload_n zh154 rfl rfl) ?_
  refine Eq.trans (zd_iconst zh154 (v := (nI 3)) rfl rfl) ?_
  refine Eq.trans (zd_iadd zh154 rfl) ?_
  refine Eq.trans (zd_sld zh154 h13 h14 rfl) ?_
  refine Eq.trans (zd_invVi zh154 zh134 rfl rfl ⟨Nat.le_of_ble_eq_true rfl, Nat.le_of_ble_eq_true rfl, Nat.le_of_ble_eq_true rfl, Nat.le_of_ble_eq_true rfl⟩ rfl h15 h16 rfl) ?_
  exact zd_icmpeq zh154 (t := 854) (by decide) rfl
set_option maxRecDepth 20000 in
theorem b154_529 {scr : List Int32} {w : zAW} {a1 : Nat} {a2 : Nat} {x3 : Int32} {f1 : Int32} (h1 : ¬ (x3 + (nI 1)) < 0) (h2 : scr[((x3 + (nI 1))).toNatClampNeg]? = some f1) {f2 : Int32} (h3 : ¬ (x3 + (nI 2)) < 0) (h4 : scr[((x3 + (nI 2))).toNatClampNeg]? = some f2) (h5 : zob w a1 5 = true) {f3 : Int32} {w1 : zAW} (h6 : zC scr 66 [.ref a1, .int f1, .int f2] w = some (some (.int f3), w1)) {f4 : Int32} (h7 : ¬ (x3 + (nI 1)) < 0) (h8 : scr[((x3 + (nI 1))).toNatClampNeg]? = some f4) {f5 : Int32} (h9 : ¬ (x3 + (nI 2)) < 0) (h10 : scr[((x3 + (nI 2))).toNatClampNeg]? = some f5) (h11 : zob w1 a2 6 = true) {f6 : Int32} {w2 : zAW} (h12 : zC scr 135 [.ref a2, .int f4, .int f5] w1 = some (some (.int f6), w2)) : zd scr 154 529 [some (.retAddr 0), some (.ref a1), some (.ref a2), some (.int x3)] [] w = if f3 = f6 then zd scr 154 854 [some (.retAddr 0), some (.ref a1), some (.ref a2), some (.int x3)] [] w2 else zd scr 154 560 [some (.retAddr 0), some (.ref a1), some (.ref a2), some (.int x3)] [] w2 := by
  refine Eq.trans (zd_aload_n zh154 rfl rfl) ?_
  refine Eq.trans (zd_aload_s zh154 rfl rfl) ?_
  refine Eq.trans (zd_iload_n zh154 rfl rfl) ?_
  refine Eq.trans (zd_iconst zh154 (v := (nI 1)) rfl rfl) ?_
  refine Eq.trans (zd_iadd zh154 rfl) ?_
  refine Eq.trans (zd_sld zh154 h1 h2 rfl) ?_
  refine Eq.trans (zd_aload_s zh154 rfl rfl) ?_
  refine Eq.trans (zd_iload_n zh154 rfl rfl) ?_
  refine Eq.trans (zd_iconst zh154 (v := (nI 2)) rfl rfl) ?_
  refine Eq.trans (zd_iadd zh154 rfl) ?_
  refine Eq.trans (zd_sld zh154 h3 h4 rfl) ?_
  refine Eq.trans (zd_invVi zh154 zh66 rfl rfl ⟨Nat.le_of_ble_eq_true rfl, Nat.le_of_ble_eq_true rfl, Nat.le_of_ble_eq_true rfl, Nat.le_of_ble_eq_true rfl⟩ rfl h5 h6 rfl) ?_
  refine Eq.trans (zd_aload_n zh154 rfl rfl) ?_
  refine Eq.trans (zd_aload_s zh154 rfl rfl) ?_
  refine Eq.trans (zd_iload_n zh154 rfl rfl) ?_
  refine Eq.trans (zd_iconst zh154 (v := (nI 1)) rfl rfl) ?_
  refine Eq.trans (zd_iadd zh154 rfl) ?_
  refine Eq.trans (zd_sld zh154 h7 h8 rfl) ?_
  refine Eq.trans (zd_aload_s zh154 rfl rfl) ?_
  refine Eq.trans (zd_iload_n zh154 rfl rfl) ?_
  refine Eq.trans (zd_iconst zh154 (v := (nI 2)) rfl rfl) ?_
  refine Eq.trans (zd_iadd zh154 rfl) ?_
  refine Eq.trans (zd_sld zh154 h9 h10 rfl) ?_
  refine Eq.trans (zd_invVi zh154 zh135 rfl rfl ⟨Nat.le_of_ble_eq_true rfl, Nat.le_of_ble_eq_true rfl, Nat.le_of_ble_eq_true rfl, Nat.le_of_ble_eq_true rfl⟩ rfl h11 h12 rfl) ?_
  exact zd_icmpeq zh154 (t := 854) (by decide) rfl
set_option maxRecDepth 20000 in
theorem b154_562 {scr : List Int32} {w : zAW} {a1 : Nat} {a2 : Nat} {x3 : Int32} {f1 : Int32} (h1 : ¬ (x3 + (nI 1)) < 0) (h2 : scr[((x3 + (nI 1))).toNatClampNeg]? = some f1) (h3 : zob w a1 5 = true) {f2 : Int32} {w1 : zAW} (h4 : zC scr 67 [.ref a1, .int f1] w = some (some (.int f2), w1)) {f3 : Int32} (h5 : ¬ (x3 + (nI 1)) < 0) (h6 : scr[((x3 + (nI 1))).toNatClampNeg]? = some f3) (h7 : zob w1 a2 6 = true) {f4 : Int32} {w2 : zAW} (h8 : zC scr 136 [.ref a2, .int f3] w1 = some (some (.int f4), w2)) : zd scr 154 562 [some (.retAddr 0), some (.ref a1), some (.ref a2), some (.int x3)] [] w = if f2 = f4 then zd scr 154 854 [some (.retAddr 0), some (.ref a1), some (.ref a2), some (.int x3)] [] w2 else zd scr 154 583 [some (.retAddr 0), some (.ref a1), some (.ref a2), some (.int x3)] [] w2 := by
  refine Eq.trans (zd_aload_n zh154 rfl rfl) ?_
  refine Eq.trans (zd_aload_s zh154 rfl rfl) ?_
  refine Eq.trans (zd_iload_n zh154 rfl rfl) ?_
  refine Eq.trans (zd_iconst zh154 (v := (nI 1)) rfl rfl) ?_
  refine Eq.trans (zd_iadd zh154 rfl) ?_
  refine Eq.trans (zd_sld zh154 h1 h2 rfl) ?_
  refine Eq.trans (zd_invVi zh154 zh67 rfl rfl ⟨Nat.le_of_ble_eq_true rfl, Nat.le_of_ble_eq_true rfl, Nat.le_of_ble_eq_true rfl, Nat.le_of_ble_eq_true rfl⟩ rfl h3 h4 rfl) ?_
  refine Eq.trans (zd_aload_n zh154 rfl rfl) ?_
  refine Eq.trans (zd_aload_s zh154 rfl rfl) ?_
  refine Eq.trans (zd_iload_n zh154 rfl rfl) ?_
  refine Eq.trans (zd_iconst zh154 (v := (nI 1)) rfl rfl) ?_
  refine Eq.trans (zd_iadd zh154 rfl) ?_
  refine Eq.trans (zd_sld zh154 h5 h6 rfl) ?_
  refine Eq.trans (zd_invVi zh154 zh136 rfl rfl ⟨Nat.le_of_ble_eq_true rfl, Nat.le_of_ble_eq_true rfl, Nat.le_of_ble_eq_true rfl, Nat.le_of_ble_eq_true rfl⟩ rfl h7 h8 rfl) ?_
  exact zd_icmpeq zh154 (t := 854) (by decide) rfl
set_option maxRecDepth 20000 in
theorem b154_585 {scr : List Int32} {w : zAW} {a1 : Nat} {a2 : Nat} {x3 : Int32} {f1 : Int32} (h1 : ¬ (x3 + (nI 1)) < 0) (h2 : scr[((x3 + (nI 1))).toNatClampNeg]? = some f1) (h3 : zob w a1 5 = true) {f2 : Int32} {w1 : zAW} (h4 : zC scr 68 [.ref a1, .int f1] w = some (some (.int f2), w1)) {f3 : Int32} (h5 : ¬ (x3 + (nI 1)) < 0) (h6 : scr[((x3 + (nI 1))).toNatClampNeg]? = some f3) (h7 : zob w1 a2 6 = true) {f4 : Int32} {w2 : zAW} (h8 : zC scr 137 [.ref a2, .int f3] w1 = some (some (.int f4), w2)) : zd scr 154 585 [some (.retAddr 0), some (.ref a1), some (.ref a2), some (.int x3)] [] w = if f2 = f4 then zd scr 154 854 [some (.retAddr 0), some (.ref a1), some (.ref a2), some (.int x3)] [] w2 else zd scr 154 606 [some (.retAddr 0), some (.ref a1), some (.ref a2), some (.int x3)] [] w2 := by
  refine Eq.trans (zd_aload_n zh154 rfl rfl) ?_
  refine Eq.trans (zd_aload_s zh154 rfl rfl) ?_
  refine Eq.trans (zd_iload_n zh154 rfl rfl) ?_
  refine Eq.trans (zd_iconst zh154 (v := (nI 1)) rfl rfl) ?_
  refine Eq.trans (zd_iadd zh154 rfl) ?_
  refine Eq.trans (zd_sld zh154 h1 h2 rfl) ?_
  refine Eq.trans (zd_invVi zh154 zh68 rfl rfl ⟨Nat.le_of_ble_eq_true rfl, Nat.le_of_ble_eq_true rfl, Nat.le_of_ble_eq_true rfl, Nat.le_of_ble_eq_true rfl⟩ rfl h3 h4 rfl) ?_
  refine Eq.trans (zd_aload_n zh154 rfl rfl) ?_
  refine Eq.trans (zd_aload_s zh154 rfl rfl) ?_
  refine Eq.trans (zd_iload_n zh154 rfl rfl) ?_
  refine Eq.trans (zd_iconst zh154 (v := (nI 1)) rfl rfl) ?_
  refine Eq.trans (zd_iadd zh154 rfl) ?_
  refine Eq.trans (zd_sld zh154 h5 h6 rfl) ?_
  refine Eq.trans (zd_invVi zh154 zh137 rfl rfl ⟨Nat.le_of_ble_eq_true rfl, Nat.le_of_ble_eq_true rfl, Nat.le_of_ble_eq_true rfl, Nat.le_of_ble_eq_true rfl⟩ rfl h7 h8 rfl) ?_
  exact zd_icmpeq zh154 (t := 854) (by decide) rfl
set_option maxRecDepth 20000 in
theorem b154_608 {scr : List Int32} {w : zAW} {a1 : Nat} {a2 : Nat} {x3 : Int32} {f1 : Int32} (h1 : ¬ (x3 + (nI 1)) < 0) (h2 : scr[((x3 + (nI 1))).toNatClampNeg]? = some f1) (h3 : zob w a1 5 = true) {f2 : Int32} {w1 : zAW} (h4 : zC scr 69 [.ref a1, .int f1] w = some (some (.int f2), w1)) {f3 : Int32} (h5 : ¬ (x3 + (nI 1)) < 0) (h6 : scr[((x3 + (nI 1))).toNatClampNeg]? = some f3) (h7 : zob w1 a2 6 = true) {f4 : Int32} {w2 : zAW} (h8 : zC scr 139 [.ref a2, .int f3] w1 = some (some (.int f4), w2)) : zd scr 154 608 [some (.retAddr 0), some (.ref a1), some (.ref a2), some (.int x3)] [] w = if f2 = f4 then zd scr 154 854 [some (.retAddr 0), some (.ref a1), some (.ref a2), some (.int x3)] [] w2 else zd scr 154 629 [some (.retAddr 0), some (.ref a1), some (.ref a2), some (.int x3)] [] w2 := by
  refine Eq.trans (zd_aload_n zh154 rfl rfl) ?_
  refine Eq.trans (zd_aload_s zh154 rfl rfl) ?_
  refine Eq.trans (zd_iload_n zh154 rfl rfl) ?_
  refine Eq.trans (zd_iconst zh154 (v := (nI 1)) rfl rfl) ?_
  refine Eq.trans (zd_iadd zh154 rfl) ?_
  refine Eq.trans (zd_sld zh154 h1 h2 rfl) ?_
  refine Eq.trans (zd_invVi zh154 zh69 rfl rfl ⟨Nat.le_of_ble_eq_true rfl, Nat.le_of_ble_eq_true rfl, Nat.le_of_ble_eq_true rfl, Nat.le_of_ble_eq_true rfl⟩ rfl h3 h4 rfl) ?_
  refine Eq.trans (zd_aload_n zh154 rfl rfl) ?_
  refine Eq.trans (zd_aload_s zh154 rfl rfl) ?_
  refine Eq.trans (zd_iload_n zh154 rfl rfl) ?_
  refine Eq.trans (zd_iconst zh154 (v := (nI 1)) rfl rfl) ?_
  refine Eq.trans (zd_iadd zh154 rfl) ?_
  refine Eq.trans (zd_sld zh154 h5 h6 rfl) ?_
  refine Eq.trans (zd_invVi zh154 zh139 rfl rfl ⟨Nat.le_of_ble_eq_true rfl, Nat.le_of_ble_eq_true rfl, Nat.le_of_ble_eq_true rfl, Nat.le_of_ble_eq_true rfl⟩ rfl h7 h8 rfl) ?_
  exact zd_icmpeq zh154 (t := 854) (by decide) rfl
set_option maxRecDepth 20000 in
theorem b154_631 {scr : List Int32} {w : zAW} {a1 : Nat} {a2 : Nat} {x3 : Int32} {f1 : Int32} (h1 : ¬ (x3 + (nI 1)) < 0) (h2 : scr[((x3 + (nI 1))).toNatClampNeg]? = some f1) {f2 : Int32} (h3 : ¬ (x3 + (nI 2)) < 0) (h4 : scr[((x3 + (nI 2))).toNatClampNeg]? = some f2) (h5 : zob w a1 5 = true) {f3 : Int32} {w1 : zAW} (h6 : zC scr 70 [.ref a1, .int f1, .int f2] w = some (some (.int f3), w1)) {f4 : Int32} (h7 : ¬ (x3 + (nI 1)) < 0) (h8 : scr[((x3 + (nI 1))).toNatClampNeg]? = some f4) {f5 : Int32} (h9 : ¬ (x3 + (nI 2)) < 0) (h10 : scr[((x3 + (nI 2))).toNatClampNeg]? = some f5) (h11 : zob w1 a2 6 = true) {f6 : Int32} {w2 : zAW} (h12 : zC scr 140 [.ref a2, .int f4, .int f5] w1 = some (some (.int f6), w2)) : zd scr 154 631 [some (.retAddr 0), some (.ref a1), some (.ref a2), some (.int x3)] [] w = if f3 = f6 then zd scr 154 854 [some (.retAddr 0), some (.ref a1), some (.ref a2), some (.int x3)] [] w2 else zd scr 154 662 [some (.retAddr 0), some (.ref a1), some (.ref a2), some (.int x3)] [] w2 := by
  refine Eq.trans (zd_aload_n zh154 rfl rfl) ?_
  refine Eq.trans (zd_aload_s zh154 rfl rfl) ?_
  refine Eq.trans (zd_iload_n zh154 rfl rfl) ?_
  refine Eq.trans (zd_iconst zh154 (v := (nI 1)) rfl rfl) ?_
  refine Eq.trans (zd_iadd zh154 rfl) ?_
  refine Eq.trans (zd_sld zh154 h1 h2 rfl) ?_
  refine Eq.trans (zd_aload_s zh154 rfl rfl) ?_
  refine Eq.trans (zd_iload_n zh154 rfl rfl) ?_
  refine Eq.trans (zd_iconst zh154 (v := (nI 2)) rfl rfl) ?_
  refine Eq.trans (zd_iadd zh154 rfl) ?_
  refine Eq.trans (zd_sld zh154 h3 h4 rfl) ?_
  refine Eq.trans (zd_invVi zh154 zh70 rfl rfl ⟨Nat.le_of_ble_eq_true rfl, Nat.le_of_ble_eq_true rfl, Nat.le_of_ble_eq_true rfl, Nat.le_of_ble_eq_true rfl⟩ rfl h5 h6 rfl) ?_
  refine Eq.trans (zd_aload_n zh154 rfl rfl) ?_
  refine Eq.trans (zd_aload_s zh154 rfl rfl) ?_
  refine Eq.trans (zd_iload_n zh154 rfl rfl) ?_
  refine Eq.trans (zd_iconst zh154 (v := (nI 1)) rfl rfl) ?_
  refine Eq.trans (zd_iadd zh154 rfl) ?_
  refine Eq.trans (zd_sld zh154 h7 h8 rfl) ?_
  refine Eq.trans (zd_aload_s zh154 rfl rfl) ?_
  refine Eq.trans (zd_iload_n zh154 rfl rfl) ?_
  refine Eq.trans (zd_iconst zh154 (v := (nI 2)) rfl rfl) ?_
  refine Eq.trans (zd_iadd zh154 rfl) ?_
  refine Eq.trans (zd_sld zh154 h9 h10 rfl) ?_
  refine Eq.trans (zd_invVi zh154 zh140 rfl rfl ⟨Nat.le_of_ble_eq_true rfl, Nat.le_of_ble_eq_true rfl, Nat.le_of_ble_eq_true rfl, Nat.le_of_ble_eq_true rfl⟩ rfl h11 h12 rfl) ?_
  exact zd_icmpeq zh154 (t := 854) (by decide) rfl
set_option maxRecDepth 20000 in
theorem b154_664 {scr : List Int32} {w : zAW} {a1 : Nat} {a2 : Nat} {x3 : Int32} (h1 : zob w a1 5 = true) {f1 : Int32} {w1 : zAW} (h2 : zC scr 71 [.ref a1] w = some (some (.int f1), w1)) (h3 : zob w1 a2 6 = true) {f2 : Int32} {w2 : zAW} (h4 : zC scr 141 [.ref a2] w1 = some (some (.int f2), w2)) : zd scr 154 664 [some (.retAddr 0), some (.ref a1), some (.ref a2), some (.int x3)] [] w = if f1 = f2 then zd scr 154 854 [some (.retAddr 0), some (.ref a1), some (.ref a2), some (.int x3)] [] w2 else zd scr 154 675 [some (.retAddr 0), some (.ref a1), some (.ref a2), some (.int x3)] [] w2 := by
  refine Eq.trans (zd_aload_n zh154 rfl rfl) ?_
  refine Eq.trans (zd_invVi zh154 zh71 rfl rfl ⟨Nat.le_of_ble_eq_true rfl, Nat.le_of_ble_eq_true rfl, Nat.le_of_ble_eq_true rfl, Nat.le_of_ble_eq_true rfl⟩ rfl h1 h2 rfl) ?_
  refine Eq.trans (zd_aload_n zh154 rfl rfl) ?_
  refine Eq.trans (zd_invVi zh154 zh141 rfl rfl ⟨Nat.le_of_ble_eq_true rfl, Nat.le_of_ble_eq_true rfl, Nat.le_of_ble_eq_true rfl, Nat.le_of_ble_eq_true rfl⟩ rfl h3 h4 rfl) ?_
  exact zd_icmpeq zh154 (t := 854) (by decide) rfl
set_option maxRecDepth 20000 in
theorem b154_677 {scr : List Int32} {w : zAW} {a1 : Nat} {a2 : Nat} {x3 : Int32} {f1 : Int32} (h1 : ¬ (x3 + (nI 1)) < 0) (h2 : scr[((x3 + (nI 1))).toNatClampNeg]? = some f1) {f2 : Int32} (h3 : ¬ (x3 + (nI 2)) < 0) (h4 : scr[((x3 + (nI 2))).toNatClampNeg]? = some f2) {f3 : Int32} (h5 : ¬ (x3 + (nI 3)) < 0) (h6 : scr[((x3 + (nI 3))).toNatClampNeg]? = some f3) {f4 : Int32} (h7 : ¬ (x3 + (nI 4)) < 0) (h8 : scr[((x3 + (nI 4))).toNatClampNeg]? = some f4) (h9 : zob w a1 5 = true) {f5 : Int32} {w1 : zAW} (h10 : zC scr 72 [.ref a1, .int f1, .int f2, .int f3, .int f4] w = some (some (.int f5), w1)) {f6 : Int32} (h11 : ¬ (x3 + (nI 1)) < 0) (h12 : scr[((x3 + (nI 1))).toNatClampNeg]? = some f6) {f7 : Int32} (h13 : ¬ (x3 + (nI 2)) < 0) (h14 : scr[((x3 + (nI 2))).toNatClampNeg]? = some f7) {f8 : Int32} (h15 : ¬ (x3 + (nI 3)) < 0) (h16 : scr[((x3 + (nI 3))).toNatClampNeg]? = some f8) {f9 : Int32} (h17 : ¬ (x3 + (nI 4)) < 0) (h18 : scr[((x3 + (nI 4))).toNatClampNeg]? = some f9) (h19 : zob w1 a2 6 = true) {f10 : Int32} {w2 : zAW} (h20 : zC scr 142 [.ref a2, .int f6, .int f7, .int f8, .int f9] w1 = some (some (.int f10), w2)) : zd scr 154 677 [some (.retAddr 0), some (.ref a1), some (.ref a2), some (.int x3)] [] w = if f5 = f10 then zd scr 154 854 [some (.retAddr 0), some (.ref a1), some (.ref a2), some (.int x3)] [] w2 else zd scr 154 728 [some (.retAddr 0), some (.ref a1), some (.ref a2), some (.int x3)] [] w2 := by
  refine Eq.trans (zd_aload_n zh154 rfl rfl) ?_
  refine Eq.trans (zd_aload_s zh154 rfl rfl) ?_
  refine Eq.trans (zd_iload_n zh154 rfl rfl) ?_
  refine Eq.trans (zd_iconst zh154 (v := (nI 1)) rfl rfl) ?_
  refine Eq.trans (zd_iadd zh154 rfl) ?_
  refine Eq.trans (zd_sld zh154 h1 h2 rfl) ?_
  refine Eq.trans (zd_aload_s zh154 rfl rfl) ?_
  refine Eq.trans (zd_iload_n zh154 rfl rfl) ?_
  refine Eq.trans (zd_iconst zh154 (v := (nI 2)) rfl rfl) ?_
  refine Eq.trans (zd_iadd zh154 rfl) ?_
  refine Eq.trans (zd_sld zh154 h3 h4 rfl) ?_
  refine Eq.trans (zd_aload_s zh154 rfl rfl) ?_
  refine Eq.trans (zd_iload_n zh154 rfl rfl) ?_
  refine Eq.trans (zd_iconst zh154 (v := (nI 3)) rfl rfl) ?_
  refine Eq.trans (zd_iadd zh154 rfl) ?_
  refine Eq.trans (zd_sld zh154 h5 h6 rfl) ?_
  refine Eq.trans (zd_aload_s zh154 rfl rfl) ?_
  refine Eq.trans (zd_iload_n zh154 rfl rfl) ?_
  refine Eq.trans (zd_iconst zh154 (v := (nI 4)) rfl rfl) ?_
  refine Eq.trans (zd_iadd zh154 rfl) ?_
  refine Eq.trans (zd_sld zh154 h7 h8 rfl) ?_
  refine Eq.trans (zd_invVi zh154 zh72 rfl rfl ⟨Nat.le_of_ble_eq_true rfl, Nat.le_of_ble_eq_true rfl, Nat.le_of_ble_eq_true rfl, Nat.le_of_ble_eq_true rfl⟩ rfl h9 h10 rfl) ?_
  refine Eq.trans (zd_aload_n zh154 rfl rfl) ?_
  refine Eq.trans (zd_aload_s zh154 rfl rfl) ?_
  refine Eq.trans (zd_iload_n zh154 rfl rfl) ?_
  refine Eq.trans (zd_iconst zh154 (v := (nI 1)) rfl rfl) ?_
  refine Eq.trans (zd_iadd zh154 rfl) ?_
  refine Eq.trans (zd_sld zh154 h11 h12 rfl) ?_
  refine Eq.trans (zd_aload_s zh154 rfl rfl) ?_
  refine Eq.trans (zd_iload_n zh154 rfl rfl) ?_
  refine Eq.trans (zd_iconst zh154 (v := (nI 2)) rfl rfl) ?_
  refine Eq.trans (zd_iadd zh154 rfl) ?_
  refine Eq.trans (zd_sld zh154 h13 h14 rfl) ?_
  refine Eq.trans (zd_aload_s zh154 rfl rfl) ?_
  refine Eq.trans (zd_iload_n zh154 rfl rfl) ?_
  refine Eq.trans (zd_iconst zh154 (v := (nI 3)) rfl rfl) ?_
  refine Eq.trans (zd_iadd zh154 rfl) ?_
  refine Eq.trans (zd_sld zh154 h15 h16 rfl) ?_
  refine Eq.trans (zd_aload_s zh154 rfl rfl) ?_
  refine Eq.trans (zd_iload_n zh154 rfl rfl) ?_
  refine Eq.trans (zd_iconst zh154 (v := (nI 4)) rfl rfl) ?_
  refine Eq.trans (zd_iadd zh154 rfl) ?_
  refine Eq.trans (zd_sld zh154 h17 h18 rfl) ?_
  refine Eq.trans (zd_invVi zh154 zh142 rfl rfl ⟨Nat.le_of_ble_eq_true rfl, Nat.le_of_ble_eq_true rfl, Nat.le_of_ble_eq_true rfl, Nat.le_of_ble_eq_true rfl⟩ rfl h19 h20 rfl) ?_
  exact zd_icmpeq zh154 (t := 854) (by decide) rfl
set_option maxRecDepth 20000 in
theorem b154_730 {scr : List Int32} {w : zAW} {a1 : Nat} {a2 : Nat} {x3 : Int32} {f1 : Int32} (h1 : ¬ (x3 + (nI 1)) < 0) (h2 : scr[((x3 + (nI 1))).toNatClampNeg]? = some f1) (h3 : zob w a1 5 = true) {f2 : Int32} {w1 : zAW} (h4 : zC scr 73 [.ref a1, .int f1] w = some (some (.int f2), w1)) {f3 : Int32} (h5 : ¬ (x3 + (nI 1)) < 0) (h6 : scr[((x3 + (nI 1))).toNatClampNeg]? = some f3) (h7 : zob w1 a2 6 = true) {f4 : Int32} {w2 : zAW} (h8 : zC scr 143 [.ref a2, .int f3] w1 = some (some (.int f4), w2)) : zd scr 154 730 [some (.retAddr 0), some (.ref a1), some (.ref a2), some (.int x3)] [] w = if f2 = f4 then zd scr 154 854 [some (.retAddr 0), some (.ref a1), some (.ref a2), some (.int x3)] [] w2 else zd scr 154 751 [some (.retAddr 0), some (.ref a1), some (.ref a2), some (.int x3)] [] w2 := by
  refine Eq.trans (zd_aload_n zh154 rfl rfl) ?_
  refine Eq.trans (zd_aload_s zh154 rfl rfl) ?_
  refine Eq.trans (zd_iload_n zh154 rfl rfl) ?_
  refine Eq.trans (zd_iconst zh154 (v := (nI 1)) rfl rfl) ?_
  refine Eq.trans (zd_iadd zh154 rfl) ?_
  refine Eq.trans (zd_sld zh154 h1 h2 rfl) ?_
  refine Eq.trans (zd_invVi zh154 zh73 rfl rfl ⟨Nat.le_of_ble_eq_true rfl, Nat.le_of_ble_eq_true rfl, Nat.le_of_ble_eq_true rfl, Nat.le_of_ble_eq_true rfl⟩ rfl h3 h4 rfl) ?_
  refine Eq.trans (zd_aload_n zh154 rfl rfl) ?_
  refine Eq.trans (zd_aload_s zh154 rfl rfl) ?_
  refine Eq.trans (zd_iload_n zh154 rfl rfl) ?_
  refine Eq.trans (zd_iconst zh154 (v := (nI 1)) rfl rfl) ?_
  refine Eq.trans (zd_iadd zh154 rfl) ?_
  refine Eq.trans (zd_sld zh154 h5 h6 rfl) ?_
  refine Eq.trans (zd_invVi zh154 zh143 rfl rfl ⟨Nat.le_of_ble_eq_true rfl, Nat.le_of_ble_eq_true rfl, Nat.le_of_ble_eq_true rfl, Nat.le_of_ble_eq_true rfl⟩ rfl h7 h8 rfl) ?_
  exact zd_icmpeq zh154 (t := 854) (by decide) rfl
set_option maxRecDepth 20000 in
theorem b154_753 {scr : List Int32} {w : zAW} {a1 : Nat} {a2 : Nat} {x3 : Int32} {f1 : Int32} (h1 : ¬ (x3 + (nI 1)) < 0) (h2 : scr[((x3 + (nI 1))).toNatClampNeg]? = some f1) (h3 : zob w a1 5 = true) {f2 : Int32} {w1 : zAW} (h4 : zC scr 74 [.ref a1, .int f1] w = some (some (.int f2), w1)) {f3 : Int32} (h5 : ¬ (x3 + (nI 1)) < 0) (h6 : scr[((x3 + (nI 1))).toNatClampNeg]? = some f3) (h7 : zob w1 a2 6 = true) {f4 : Int32} {w2 : zAW} (h8 : zC scr 144 [.ref a2, .int f3] w1 = some (some (.int f4), w2)) : zd scr 154 753 [some (.retAddr 0), some (.ref a1), some (.ref a2), some (.int x3)] [] w = if f2 = f4 then zd scr 154 854 [some (.retAddr 0), some (.ref a1), some (.ref a2), some (.int x3)] [] w2 else zd scr 154 774 [some (.retAddr 0), some (.ref a1), some (.ref a2), some (.int x3)] [] w2 := by
  refine Eq.trans (zd_aload_n zh154 rfl rfl) ?_
  refine Eq.trans (zd_aload_s zh154 rfl rfl) ?_
  refine Eq.trans (zd_iload_n zh154 rfl rfl) ?_
  refine Eq.trans (zd_iconst zh154 (v := (nI 1)) rfl rfl) ?_
  refine Eq.trans (zd_iadd zh154 rfl) ?_
  refine Eq.trans (zd_sld zh154 h1 h2 rfl) ?_
  refine Eq.trans (zd_invVi zh154 zh74 rfl rfl ⟨Nat.le_of_ble_eq_true rfl, Nat.le_of_ble_eq_true rfl, Nat.le_of_ble_eq_true rfl, Nat.le_of_ble_eq_true rfl⟩ rfl h3 h4 rfl) ?_
  refine Eq.trans (zd_aload_n zh154 rfl rfl) ?_
  refine Eq.trans (zd_aload_s zh154 rfl rfl) ?_
  refine Eq.trans (zd_iload_n zh154 rfl rfl) ?_
  refine Eq.trans (zd_iconst zh154 (v := (nI 1)) rfl rfl) ?_
  refine Eq.trans (zd_iadd zh154 rfl) ?_
  refine Eq.trans (zd_sld zh154 h5 h6 rfl) ?_
  refine Eq.trans (zd_invVi zh154 zh144 rfl rfl ⟨Nat.le_of_ble_eq_true rfl, Nat.le_of_ble_eq_true rfl, Nat.le_of_ble_eq_true rfl, Nat.le_of_ble_eq_true rfl⟩ rfl h7 h8 rfl) ?_
  exact zd_icmpeq zh154 (t := 854) (by decide) rfl
set_option maxRecDepth 20000 in
theorem b154_776 {scr : List Int32} {w : zAW} {a1 : Nat} {a2 : Nat} {x3 : Int32} (h1 : zob w a1 5 = true) {f1 : Int32} {w1 : zAW} (h2 : zC scr 75 [.ref a1] w = some (some (.int f1), w1)) (h3 : zob w1 a2 6 = true) {f2 : Int32} {w2 : zAW} (h4 : zC scr 145 [.ref a2] w1 = some (some (.int f2), w2)) : zd scr 154 776 [some (.retAddr 0), some (.ref a1), some (.ref a2), some (.int x3)] [] w = if f1 = f2 then zd scr 154 854 [some (.retAddr 0), some (.ref a1), some (.ref a2), some (.int x3)] [] w2 else zd scr 154 787 [some (.retAddr 0), some (.ref a1), some (.ref a2), some (.int x3)] [] w2 := by
  refine Eq.trans (zd_aload_n zh154 rfl rfl) ?_
  refine Eq.trans (zd_invVi zh154 zh75 rfl rfl ⟨Nat.le_of_ble_eq_true rfl, Nat.le_of_ble_eq_true rfl, Nat.le_of_ble_eq_true rfl, Nat.le_of_ble_eq_true rfl⟩ rfl h1 h2 rfl) ?_
  refine Eq.trans (zd_aload_n zh154 rfl rfl) ?_
  refine Eq.trans (zd_invVi zh154 zh145 rfl rfl ⟨Nat.le_of_ble_eq_true rfl, Nat.le_of_ble_eq_true rfl, Nat.le_of_ble_eq_true rfl, Nat.le_of_ble_eq_true rfl⟩ rfl h3 h4 rfl) ?_
  exact zd_icmpeq zh154 (t := 854) (by decide) rfl
set_option maxRecDepth 20000 in
theorem b154_789 {scr : List Int32} {w : zAW} {a1 : Nat} {a2 : Nat} {x3 : Int32} (h1 : zob w a1 5 = true) {f1 : Int32} {w1 : zAW} (h2 : zC scr 76 [.ref a1] w = some (some (.int f1), w1)) (h3 : zob w1 a2 6 = true) {f2 : Int32} {w2 : zAW} (h4 : zC scr 149 [.ref a2] w1 = some (some (.int f2), w2)) : zd scr 154 789 [some (.retAddr 0), some (.ref a1), some (.ref a2), some (.int x3)] [] w = if f1 = f2 then zd scr 154 854 [some (.retAddr 0), some (.ref a1), some (.ref a2), some (.int x3)] [] w2 else zd scr 154 800 [some (.retAddr 0), some (.ref a1), some (.ref a2), some (.int x3)] [] w2 := by
  refine Eq.trans (zd_aload_n zh154 rfl rfl) ?_
  refine Eq.trans (zd_invVi zh154 zh76 rfl rfl ⟨Nat.le_of_ble_eq_true rfl, Nat.le_of_ble_eq_true rfl, Nat.le_of_ble_eq_true rfl, Nat.le_of_ble_eq_true rfl⟩ rfl h1 h2 rfl) ?_
  refine Eq.trans (zd_aload_n zh154 rfl rfl) ?_
  refine Eq.trans (zd_invVi zh154 zh149 rfl rfl ⟨Nat.le_of_ble_eq_true rfl, Nat.le_of_ble_eq_true rfl, Nat.le_of_ble_eq_true rfl, Nat.le_of_ble_eq_true rfl⟩ rfl h3 h4 rfl) ?_
  exact zd_icmpeq zh154 (t := 854) (by decide) rfl
set_option maxRecDepth 20000 in
theorem b154_802 {scr : List Int32} {w : zAW} {a1 : Nat} {a2 : Nat} {x3 : Int32} (h1 : zob w a1 5 = true) {f1 : Int32} {w1 : zAW} (h2 : zC scr 77 [.ref a1] w = some (some (.int f1), w1)) (h3 : zob w1 a2 6 = true) {f2 : Int32} {w2 : zAW} (h4 : zC scr 150 [.ref a2] w1 = some (some (.int f2), w2)) : zd scr 154 802 [some (.retAddr 0), some (.ref a1), some (.ref a2), some (.int x3)] [] w = if f1 = f2 then zd scr 154 854 [some (.retAddr 0), some (.ref a1), some (.ref a2), some (.int x3)] [] w2 else zd scr 154 813 [some (.retAddr 0), some (.ref a1), some (.ref a2), some (.int x3)] [] w2 := by
  refine Eq.trans (zd_aload_n zh154 rfl rfl) ?_
  refine Eq.trans (zd_invVi zh154 zh77 rfl rfl ⟨Nat.le_of_ble_eq_true rfl, Nat.le_of_ble_eq_true rfl, Nat.le_of_ble_eq_true rfl, Nat.le_of_ble_eq_true rfl⟩ rfl h1 h2 rfl) ?_
  refine Eq.trans (zd_aload_n zh154 rfl rfl) ?_
  refine Eq.trans (zd_invVi zh154 zh150 rfl rfl ⟨Nat.le_of_ble_eq_true rfl, Nat.le_of_ble_eq_true rfl, Nat.le_of_ble_eq_true rfl, Nat.le_of_ble_eq_true rfl⟩ rfl h3 h4 rfl) ?_
  exact zd_icmpeq zh154 (t := 854) (by decide) rfl
set_option maxRecDepth 20000 in
theorem b154_815 {scr : List Int32} {w : zAW} {a1 : Nat} {a2 : Nat} {x3 : Int32} (h1 : zob w a1 5 = true) {f1 : Int32} {w1 : zAW} (h2 : zC scr 78 [.ref a1] w = some (some (.int f1), w1)) (h3 : zob w1 a2 6 = true) {f2 : Int32} {w2 : zAW} (h4 : zC scr 151 [.ref a2] w1 = some (some (.int f2), w2)) : zd scr 154 815 [some (.retAddr 0), some (.ref a1), some (.ref a2), some (.int x3)] [] w = if f1 = f2 then zd scr 154 854 [some (.retAddr 0), some (.ref a1), some (.ref a2), some (.int x3)] [] w2 else zd scr 154 826 [some (.retAddr 0), some (.ref a1), some (.ref a2), some (.int x3)] [] w2 := by
  refine Eq.trans (zd_aload_n zh154 rfl rfl) ?_
  refine Eq.trans (zd_invVi zh154 zh78 rfl rfl ⟨Nat.le_of_ble_eq_true rfl, Nat.le_of_ble_eq_true rfl, Nat.le_of_ble_eq_true rfl, Nat.le_of_ble_eq_true rfl⟩ rfl h1 h2 rfl) ?_
  refine Eq.trans (zd_aload_n zh154 rfl rfl) ?_
  refine Eq.trans (zd_invVi zh154 zh151 rfl rfl ⟨Nat.le_of_ble_eq_true rfl, Nat.le_of_ble_eq_true rfl, Nat.le_of_ble_eq_true rfl, Nat.le_of_ble_eq_true rfl⟩ rfl h3 h4 rfl) ?_
  exact zd_icmpeq zh154 (t := 854) (by decide) rfl
set_option maxRecDepth 20000 in
theorem b154_828 {scr : List Int32} {w : zAW} {a1 : Nat} {a2 : Nat} {x3 : Int32} (h1 : zob w a1 5 = true) {f1 : Int32} {w1 : zAW} (h2 : zC scr 79 [.ref a1] w = some (some (.int f1), w1)) (h3 : zob w1 a2 6 = true) {f2 : Int32} {w2 : zAW} (h4 : zC scr 152 [.ref a2] w1 = some (some (.int f2), w2)) : zd scr 154 828 [some (.retAddr 0), some (.ref a1), some (.ref a2), some (.int x3)] [] w = if f1 = f2 then zd scr 154 854 [some (.retAddr 0), some (.ref a1), some (.ref a2), some (.int x3)] [] w2 else zd scr 154 839 [some (.retAddr 0), some (.ref a1), some (.ref a2), some (.int x3)] [] w2 := by
  refine Eq.trans (zd_aload_n zh154 rfl rfl) ?_
  refine Eq.trans (zd_invVi zh154 zh79 rfl rfl ⟨Nat.le_of_ble_eq_true rfl, Nat.le_of_ble_eq_true rfl, Nat.le_of_ble_eq_true rfl, Nat.le_of_ble_eq_true rfl⟩ rfl h1 h2 rfl) ?_
  refine Eq.trans (zd_aload_n zh154 rfl rfl) ?_
  refine Eq.trans (zd_invVi zh154 zh152 rfl rfl ⟨Nat.le_of_ble_eq_true rfl, Nat.le_of_ble_eq_true rfl, Nat.le_of_ble_eq_true rfl, Nat.le_of_ble_eq_true rfl⟩ rfl h3 h4 rfl) ?_
  exact zd_icmpeq zh154 (t := 854) (by decide) rfl
set_option maxRecDepth 20000 in
theorem b154_841 {scr : List Int32} {w : zAW} {a1 : Nat} {a2 : Nat} {x3 : Int32} (h1 : zob w a1 5 = true) {f1 : Int32} {w1 : zAW} (h2 : zC scr 80 [.ref a1] w = some (some (.int f1), w1)) (h3 : zob w1 a2 6 = true) {f2 : Int32} {w2 : zAW} (h4 : zC scr 153 [.ref a2] w1 = some (some (.int f2), w2)) : zd scr 154 841 [some (.retAddr 0), some (.ref a1), some (.ref a2), some (.int x3)] [] w = if f1 = f2 then zd scr 154 854 [some (.retAddr 0), some (.ref a1), some (.ref a2), some (.int x3)] [] w2 else zd scr 154 852 [some (.retAddr 0), some (.ref a1), some (.ref a2), some (.int x3)] [] w2 := by
  refine Eq.trans (zd_aload_n zh154 rfl rfl) ?_
  refine Eq.trans (zd_invVi zh154 zh80 rfl rfl ⟨Nat.le_of_ble_eq_true rfl, Nat.le_of_ble_eq_true rfl, Nat.le_of_ble_eq_true rfl, Nat.le_of_ble_eq_true rfl⟩ rfl h1 h2 rfl) ?_
  refine Eq.trans (zd_aload_n zh154 rfl rfl) ?_
  refine Eq.trans (zd_invVi zh154 zh153 rfl rfl ⟨Nat.le_of_ble_eq_true rfl, Nat.le_of_ble_eq_true rfl, Nat.le_of_ble_eq_true rfl, Nat.le_of_ble_eq_true rfl⟩ rfl h3 h4 rfl) ?_
  exact zd_icmpeq zh154 (t := 854) (by decide) rfl
set_option maxRecDepth 20000 in
theorem b154_854 {scr : List Int32} {w : zAW} {a1 : Nat} {a2 : Nat} {x3 : Int32}  : zd scr 154 854 [some (.retAddr 0), some (.ref a1), some (.ref a2), some (.int x3)] [] w = zd scr 154 18 [some (.retAddr 0), some (.ref a1), some (.ref a2), some (.int (x3 + (nI 5)))] [] w := by
  refine Eq.trans (zd_iinc zh154 (ls' := [some (.retAddr 0), some (.ref a1), some (.ref a2), some (.int (x3 + (nI 5)))]) (v := (x3 + (nI 5))) rfl rfl rfl rfl) ?_
  refine Eq.trans (zd_goto zh154 (t := 18) (by decide) rfl) ?_
  exact rfl
set_option maxRecDepth 20000 in
theorem b154_191 {scr : List Int32} {w : zAW} {a1 : Nat} {a2 : Nat} {x3 : Int32}  : zd scr 154 191 [some (.retAddr 0), some (.ref a1), some (.ref a2), some (.int x3)] [] w = some (some (.int (nI 0)), w) := by
  refine Eq.trans (zd_iconst zh154 (v := (nI 0)) rfl rfl) ?_
  exact zd_iret zh154 rfl rfl
set_option maxRecDepth 20000 in
theorem b154_214 {scr : List Int32} {w : zAW} {a1 : Nat} {a2 : Nat} {x3 : Int32}  : zd scr 154 214 [some (.retAddr 0), some (.ref a1), some (.ref a2), some (.int x3)] [] w = some (some (.int (nI 0)), w) := by
  refine Eq.trans (zd_iconst zh154 (v := (nI 0)) rfl rfl) ?_
  exact zd_iret zh154 rfl rfl
set_option maxRecDepth 20000 in
theorem b154_247 {scr : List Int32} {w : zAW} {a1 : Nat} {a2 : Nat} {x3 : Int32}  : zd scr 154 247 [some (.retAddr 0), some (.ref a1), some (.ref a2), some (.int x3)] [] w = some (some (.int (nI 0)), w) := by
  refine Eq.trans (zd_iconst zh154 (v := (nI 0)) rfl rfl) ?_
  exact zd_iret zh154 rfl rfl
set_option maxRecDepth 20000 in
theorem b154_270 {scr : List Int32} {w : zAW} {a1 : Nat} {a2 : Nat} {x3 : Int32}  : zd scr 154 270 [some (.retAddr 0), some (.ref a1), some (.ref a2), some (.int x3)] [] w = some (some (.int (nI 0)), w) := by
  refine Eq.trans (zd_iconst zh154 (v := (nI 0)) rfl rfl) ?_
  exact zd_iret zh154 rfl rfl
set_option maxRecDepth 20000 in
theorem b154_293 {scr : List Int32} {w : zAW} {a1 : Nat} {a2 : Nat} {x3 : Int32}  : zd scr 154 293 [some (.retAddr 0), some (.ref a1), some (.ref a2), some (.int x3)] [] w = some (some (.int (nI 0)), w) := by
  refine Eq.trans (zd_iconst zh154 (v := (nI 0)) rfl rfl) ?_
  exact zd_iret zh154 rfl rfl
set_option maxRecDepth 20000 in
theorem b154_326 {scr : List Int32} {w : zAW} {a1 : Nat} {a2 : Nat} {x3 : Int32}  : zd scr 154 326 [some (.retAddr 0), some (.ref a1), some (.ref a2), some (.int x3)] [] w = some (some (.int (nI 0)), w) := by
  refine Eq.trans (zd_iconst zh154 (v := (nI 0)) rfl rfl) ?_
  exact zd_iret zh154 rfl rfl
set_option maxRecDepth 20000 in
theorem b154_359 {scr : List Int32} {w : zAW} {a1 : Nat} {a2 : Nat} {x3 : Int32}  : zd scr 154 359 [some (.retAddr 0), some (.ref a1), some (.ref a2), some (.int x3)] [] w = some (some (.int (nI 0)), w) := by
  refine Eq.trans (zd_iconst zh154 (v := (nI 0)) rfl rfl) ?_
  exact zd_iret zh154 rfl rfl
set_option maxRecDepth 20000 in
theorem b154_372 {scr : List Int32} {w : zAW} {a1 : Nat} {a2 : Nat} {x3 : Int32}  : zd scr 154 372 [some (.retAddr 0), some (.ref a1), some (.ref a2), some (.int x3)] [] w = some (some (.int (nI 0)), w) := by
  refine Eq.trans (zd_iconst zh154 (v := (nI 0)) rfl rfl) ?_
  exact zd_iret zh154 rfl rfl
set_option maxRecDepth 20000 in
theorem b154_385 {scr : List Int32} {w : zAW} {a1 : Nat} {a2 : Nat} {x3 : Int32}  : zd scr 154 385 [some (.retAddr 0), some (.ref a1), some (.ref a2), some (.int x3)] [] w = some (some (.int (nI 0)), w) := by
  refine Eq.trans (zd_iconst zh154 (v := (nI 0)) rfl rfl) ?_
  exact zd_iret zh154 rfl rfl
set_option maxRecDepth 20000 in
theorem b154_438 {scr : List Int32} {w : zAW} {a1 : Nat} {a2 : Nat} {x3 : Int32}  : zd scr 154 438 [some (.retAddr 0), some (.ref a1), some (.ref a2), some (.int x3)] [] w = some (some (.int (nI 0)), w) := by
  refine Eq.trans (zd_iconst zh154 (v := (nI 0)) rfl rfl) ?_
  exact zd_iret zh154 rfl rfl
set_option maxRecDepth 20000 in
theorem b154_451 {scr : List Int32} {w : zAW} {a1 : Nat} {a2 : Nat} {x3 : Int32}  : zd scr 154 451 [some (.retAddr 0), some (.ref a1), some (.ref a2), some (.int x3)] [] w = some (some (.int (nI 0)), w) := by
  refine Eq.trans (zd_iconst zh154 (v := (nI 0)) rfl rfl) ?_
  exact zd_iret zh154 rfl rfl
set_option maxRecDepth 20000 in
theorem b154_484 {scr : List Int32} {w : zAW} {a1 : Nat} {a2 : Nat} {x3 : Int32}  : zd scr 154 484 [some (.retAddr 0), some (.ref a1), some (.ref a2), some (.int x3)] [] w = some (some (.int (nI 0)), w) := by
  refine Eq.trans (zd_iconst zh154 (v := (nI 0)) rfl rfl) ?_
  exact zd_iret zh154 rfl rfl
set_option maxRecDepth 20000 in
theorem b154_527 {scr : List Int32} {w : zAW} {a1 : Nat} {a2 : Nat} {x3 : Int32}  : zd scr 154 527 [some (.retAddr 0), some (.ref a1), some (.ref a2), some (.int x3)] [] w = some (some (.int (nI 0)), w) := by
  refine Eq.trans (zd_iconst zh154 (v := (nI 0)) rfl rfl) ?_
  exact zd_iret zh154 rfl rfl
set_option maxRecDepth 20000 in
theorem b154_560 {scr : List Int32} {w : zAW} {a1 : Nat} {a2 : Nat} {x3 : Int32}  : zd scr 154 560 [some (.retAddr 0), some (.ref a1), some (.ref a2), some (.int x3)] [] w = some (some (.int (nI 0)), w) := by
  refine Eq.trans (zd_iconst zh154 (v := (nI 0)) rfl rfl) ?_
  exact zd_iret zh154 rfl rfl
set_option maxRecDepth 20000 in
theorem b154_583 {scr : List Int32} {w : zAW} {a1 : Nat} {a2 : Nat} {x3 : Int32}  : zd scr 154 583 [some (.retAddr 0), some (.ref a1), some (.ref a2), some (.int x3)] [] w = some (some (.int (nI 0)), w) := by
  refine Eq.trans (zd_iconst zh154 (v := (nI 0)) rfl rfl) ?_
  exact zd_iret zh154 rfl rfl
set_option maxRecDepth 20000 in
theorem b154_606 {scr : List Int32} {w : zAW} {a1 : Nat} {a2 : Nat} {x3 : Int32}  : zd scr 154 606 [some (.retAddr 0), some (.ref a1), some (.ref a2), some (.int x3)] [] w = some (some (.int (nI 0)), w) := by
  refine Eq.trans (zd_iconst zh154 (v := (nI 0)) rfl rfl) ?_
  exact zd_iret zh154 rfl rfl
set_option maxRecDepth 20000 in
theorem b154_629 {scr : List Int32} {w : zAW} {a1 : Nat} {a2 : Nat} {x3 : Int32}  : zd scr 154 629 [some (.retAddr 0), some (.ref a1), some (.ref a2), some (.int x3)] [] w = some (some (.int (nI 0)), w) := by
  refine Eq.trans (zd_iconst zh154 (v := (nI 0)) rfl rfl) ?_
  exact zd_iret zh154 rfl rfl
set_option maxRecDepth 20000 in
theorem b154_662 {scr : List Int32} {w : zAW} {a1 : Nat} {a2 : Nat} {x3 : Int32}  : zd scr 154 662 [some (.retAddr 0), some (.ref a1), some (.ref a2), some (.int x3)] [] w = some (some (.int (nI 0)), w) := by
  refine Eq.trans (zd_iconst zh154 (v := (nI 0)) rfl rfl) ?_
  exact zd_iret zh154 rfl rfl
set_option maxRecDepth 20000 in
theorem b154_675 {scr : List Int32} {w : zAW} {a1 : Nat} {a2 : Nat} {x3 : Int32}  : zd scr 154 675 [some (.retAddr 0), some (.ref a1), some (.ref a2), some (.int x3)] [] w = some (some (.int (nI 0)), w) := by
  refine Eq.trans (zd_iconst zh154 (v := (nI 0)) rfl rfl) ?_
  exact zd_iret zh154 rfl rfl
set_option maxRecDepth 20000 in
theorem b154_728 {scr : List Int32} {w : zAW} {a1 : Nat} {a2 : Nat} {x3 : Int32}  : zd scr 154 728 [some (.retAddr 0), some (.ref a1), some (.ref a2), some (.int x3)] [] w = some (some (.int (nI 0)), w) := by
  refine Eq.trans (zd_iconst zh154 (v := (nI 0)) rfl rfl) ?_
  exact zd_iret zh154 rfl rfl
set_option maxRecDepth 20000 in
theorem b154_751 {scr : List Int32} {w : zAW} {a1 : Nat} {a2 : Nat} {x3 : Int32}  : zd scr 154 751 [some (.retAddr 0), some (.ref a1), some (.ref a2), some (.int x3)] [] w = some (some (.int (nI 0)), w) := by
  refine Eq.trans (zd_iconst zh154 (v := (nI 0)) rfl rfl) ?_
  exact zd_iret zh154 rfl rfl
set_option maxRecDepth 20000 in
theorem b154_774 {scr : List Int32} {w : zAW} {a1 : Nat} {a2 : Nat} {x3 : Int32}  : zd scr 154 774 [some (.retAddr 0), some (.ref a1), some (.ref a2), some (.int x3)] [] w = some (some (.int (nI 0)), w) := by
  refine Eq.trans (zd_iconst zh154 (v := (nI 0)) rfl rfl) ?_
  exact zd_iret zh154 rfl rfl
set_option maxRecDepth 20000 in
theorem b154_787 {scr : List Int32} {w : zAW} {a1 : Nat} {a2 : Nat} {x3 : Int32}  : zd scr 154 787 [some (.retAddr 0), some (.ref a1), some (.ref a2), some (.int x3)] [] w = some (some (.int (nI 0)), w) := by
  refine Eq.trans (zd_iconst zh154 (v := (nI 0)) rfl rfl) ?_
  exact zd_iret zh154 rfl rfl
set_option maxRecDepth 20000 in
theorem b154_800 {scr : List Int32} {w : zAW} {a1 : Nat} {a2 : Nat} {x3 : Int32}  : zd scr 154 800 [some (.retAddr 0), some (.ref a1), some (.ref a2), some (.int x3)] [] w = some (some (.int (nI 0)), w) := by
  refine Eq.trans (zd_iconst zh154 (v := (nI 0)) rfl rfl) ?_
  exact zd_iret zh154 rfl rfl
set_option maxRecDepth 20000 in
theorem b154_813 {scr : List Int32} {w : zAW} {a1 : Nat} {a2 : Nat} {x3 : Int32}  : zd scr 154 813 [some (.retAddr 0), some (.ref a1), some (.ref a2), some (.int x3)] [] w = some (some (.int (nI 0)), w) := by
  refine Eq.trans (zd_iconst zh154 (v := (nI 0)) rfl rfl) ?_
  exact zd_iret zh154 rfl rfl
set_option maxRecDepth 20000 in
theorem b154_826 {scr : List Int32} {w : zAW} {a1 : Nat} {a2 : Nat} {x3 : Int32}  : zd scr 154 826 [some (.retAddr 0), some (.ref a1), some (.ref a2), some (.int x3)] [] w = some (some (.int (nI 0)), w) := by
  refine Eq.trans (zd_iconst zh154 (v := (nI 0)) rfl rfl) ?_
  exact zd_iret zh154 rfl rfl
set_option maxRecDepth 20000 in
theorem b154_839 {scr : List Int32} {w : zAW} {a1 : Nat} {a2 : Nat} {x3 : Int32}  : zd scr 154 839 [some (.retAddr 0), some (.ref a1), some (.ref a2), some (.int x3)] [] w = some (some (.int (nI 0)), w) := by
  refine Eq.trans (zd_iconst zh154 (v := (nI 0)) rfl rfl) ?_
  exact zd_iret zh154 rfl rfl
set_option maxRecDepth 20000 in
theorem b154_852 {scr : List Int32} {w : zAW} {a1 : Nat} {a2 : Nat} {x3 : Int32}  : zd scr 154 852 [some (.retAddr 0), some (.ref a1), some (.ref a2), some (.int x3)] [] w = some (some (.int (nI 0)), w) := by
  refine Eq.trans (zd_iconst zh154 (v := (nI 0)) rfl rfl) ?_
  exact zd_iret zh154 rfl rfl
