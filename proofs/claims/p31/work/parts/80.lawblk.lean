/-! the law: from its object to its loop -/
set_option maxRecDepth 20000 in
theorem b96_8 {scr : List Int32} {w : zAW} {a1 : Nat} {f1 : Int32} {w1 : zAW} (h1 : zC scr 93 [.ref a1] w = some (some (.int f1), w1)) : zd scr 96 8 [some (.retAddr 0), some (.ref a1), none, none, none] [] w = if f1 = 0 then zd scr 96 46 [some (.retAddr 0), some (.ref a1), none, none, none] [] w1 else zd scr 96 15 [some (.retAddr 0), some (.ref a1), none, none, none] [] w1 := by
  refine Eq.trans (zd_aload_n zh96 rfl rfl) ?_
  refine Eq.trans (zd_invSi zh96 zh93 rfl rfl ⟨Nat.le_of_ble_eq_true rfl, Nat.le_of_ble_eq_true rfl, Nat.le_of_ble_eq_true rfl, Or.inl (Nat.le_of_ble_eq_true rfl), Nat.le_of_ble_eq_true rfl⟩ rfl h1 rfl) ?_
  exact zd_ifeq zh96 (t := 46) (by decide) rfl
set_option maxRecDepth 20000 in
theorem b96_46 {scr : List Int32} {w : zAW} {a1 : Nat}  : zd scr 96 46 [some (.retAddr 0), some (.ref a1), none, none, none] [] w = if (nI 34) < ((Int32.ofNat scr.length) / (nI 3)) then zd scr 96 57 [some (.retAddr 0), some (.ref a1), some (.int (nI 0)), none, none] [] w else zd scr 96 62 [some (.retAddr 0), some (.ref a1), some (.int (nI 0)), none, none] [] w := by
  refine Eq.trans (zd_iconst zh96 (v := (nI 0)) rfl rfl) ?_
  refine Eq.trans (zd_istore_n zh96 (ls' := [some (.retAddr 0), some (.ref a1), some (.int (nI 0)), none, none]) (Nat.le_of_ble_eq_true rfl) rfl rfl) ?_
  refine Eq.trans (zd_aload_s zh96 rfl rfl) ?_
  refine Eq.trans (zd_slen zh96 (Nat.le_of_ble_eq_true rfl) rfl) ?_
  refine Eq.trans (zd_iconst zh96 (v := (nI 3)) rfl rfl) ?_
  refine Eq.trans (zd_idiv zh96 (by decide) rfl) ?_
  refine Eq.trans (zd_bipush zh96 (v := (nI 34)) rfl rfl) ?_
  exact zd_icmple zh96 (t := 62) (by decide) rfl
set_option maxRecDepth 20000 in
theorem b96_15 {scr : List Int32} {w : zAW} {a1 : Nat} (h1 : zob w a1 5 = true) {f1 : Int32} {w1 : zAW} (h2 : zC scr 78 [.ref a1] w = some (some (.int f1), w1)) : zd scr 96 15 [some (.retAddr 0), some (.ref a1), none, none, none] [] w = if f1 = (-3) then zd scr 96 24 [some (.retAddr 0), some (.ref a1), none, none, none] [] w1 else zd scr 96 46 [some (.retAddr 0), some (.ref a1), none, none, none] [] w1 := by
  refine Eq.trans (zd_aload_n zh96 rfl rfl) ?_
  refine Eq.trans (zd_invVi zh96 zh78 rfl rfl ⟨Nat.le_of_ble_eq_true rfl, Nat.le_of_ble_eq_true rfl, Nat.le_of_ble_eq_true rfl, Nat.le_of_ble_eq_true rfl⟩ rfl h1 h2 rfl) ?_
  refine Eq.trans (zd_bipush zh96 (v := (-3)) rfl rfl) ?_
  exact zd_icmpne zh96 (t := 46) (by decide) rfl
set_option maxRecDepth 20000 in
theorem b96_57 {scr : List Int32} {w : zAW} {a1 : Nat} {x2 : Int32}  : zd scr 96 57 [some (.retAddr 0), some (.ref a1), some (.int x2), none, none] [] w = zd scr 96 70 [some (.retAddr 0), some (.ref a1), some (.int x2), some (.int (nI 34)), some (.int (nI 0))] [] w := by
  refine Eq.trans (zd_bipush zh96 (v := (nI 34)) rfl rfl) ?_
  refine Eq.trans (zd_goto zh96 (t := 66) (by decide) rfl) ?_
  refine Eq.trans (zd_istore_n zh96 (ls' := [some (.retAddr 0), some (.ref a1), some (.int x2), some (.int (nI 34)), none]) (Nat.le_of_ble_eq_true rfl) rfl rfl) ?_
  refine Eq.trans (zd_iconst zh96 (v := (nI 0)) rfl rfl) ?_
  refine Eq.trans (zd_istore zh96 (ls' := [some (.retAddr 0), some (.ref a1), some (.int x2), some (.int (nI 34)), some (.int (nI 0))]) (Nat.le_of_ble_eq_true rfl) rfl rfl) ?_
  exact rfl
set_option maxRecDepth 20000 in
theorem b96_62 {scr : List Int32} {w : zAW} {a1 : Nat} {x2 : Int32}  : zd scr 96 62 [some (.retAddr 0), some (.ref a1), some (.int x2), none, none] [] w = zd scr 96 70 [some (.retAddr 0), some (.ref a1), some (.int x2), some (.int ((Int32.ofNat scr.length) / (nI 3))), some (.int (nI 0))] [] w := by
  refine Eq.trans (zd_aload_s zh96 rfl rfl) ?_
  refine Eq.trans (zd_slen zh96 (Nat.le_of_ble_eq_true rfl) rfl) ?_
  refine Eq.trans (zd_iconst zh96 (v := (nI 3)) rfl rfl) ?_
  refine Eq.trans (zd_idiv zh96 (by decide) rfl) ?_
  refine Eq.trans (zd_istore_n zh96 (ls' := [some (.retAddr 0), some (.ref a1), some (.int x2), some (.int ((Int32.ofNat scr.length) / (nI 3))), none]) (Nat.le_of_ble_eq_true rfl) rfl rfl) ?_
  refine Eq.trans (zd_iconst zh96 (v := (nI 0)) rfl rfl) ?_
  refine Eq.trans (zd_istore zh96 (ls' := [some (.retAddr 0), some (.ref a1), some (.int x2), some (.int ((Int32.ofNat scr.length) / (nI 3))), some (.int (nI 0))]) (Nat.le_of_ble_eq_true rfl) rfl rfl) ?_
  exact rfl
set_option maxRecDepth 20000 in
theorem b96_24 {scr : List Int32} {w : zAW} {a1 : Nat} (h1 : zob w a1 5 = true) {f1 : Int32} {w1 : zAW} (h2 : zC scr 80 [.ref a1] w = some (some (.int f1), w1)) : zd scr 96 24 [some (.retAddr 0), some (.ref a1), none, none, none] [] w = if f1 = (-3) then zd scr 96 33 [some (.retAddr 0), some (.ref a1), none, none, none] [] w1 else zd scr 96 46 [some (.retAddr 0), some (.ref a1), none, none, none] [] w1 := by
  refine Eq.trans (zd_aload_n zh96 rfl rfl) ?_
  refine Eq.trans (zd_invVi zh96 zh80 rfl rfl ⟨Nat.le_of_ble_eq_true rfl, Nat.le_of_ble_eq_true rfl, Nat.le_of_ble_eq_true rfl, Nat.le_of_ble_eq_true rfl⟩ rfl h1 h2 rfl) ?_
  refine Eq.trans (zd_bipush zh96 (v := (-3)) rfl rfl) ?_
  exact zd_icmpne zh96 (t := 46) (by decide) rfl
set_option maxRecDepth 20000 in
theorem b96_33 {scr : List Int32} {w : zAW} {a1 : Nat} (h1 : zob w a1 5 = true) {f1 : Int32} {w1 : zAW} (h2 : zC scr 69 [.ref a1, .int (nI 10)] w = some (some (.int f1), w1)) : zd scr 96 33 [some (.retAddr 0), some (.ref a1), none, none, none] [] w = if f1 = 0 then zd scr 96 42 [some (.retAddr 0), some (.ref a1), none, none, none] [] w1 else zd scr 96 46 [some (.retAddr 0), some (.ref a1), none, none, none] [] w1 := by
  refine Eq.trans (zd_aload_n zh96 rfl rfl) ?_
  refine Eq.trans (zd_bipush zh96 (v := (nI 10)) rfl rfl) ?_
  refine Eq.trans (zd_invVi zh96 zh69 rfl rfl ⟨Nat.le_of_ble_eq_true rfl, Nat.le_of_ble_eq_true rfl, Nat.le_of_ble_eq_true rfl, Nat.le_of_ble_eq_true rfl⟩ rfl h1 h2 rfl) ?_
  exact zd_ifne zh96 (t := 46) (by decide) rfl
set_option maxRecDepth 20000 in
theorem b96_42 {scr : List Int32} {w : zAW} {a1 : Nat}  : zd scr 96 42 [some (.retAddr 0), some (.ref a1), none, none, none] [] w = if (nI 34) < ((Int32.ofNat scr.length) / (nI 3)) then zd scr 96 57 [some (.retAddr 0), some (.ref a1), some (.int (nI 1)), none, none] [] w else zd scr 96 62 [some (.retAddr 0), some (.ref a1), some (.int (nI 1)), none, none] [] w := by
  refine Eq.trans (zd_iconst zh96 (v := (nI 1)) rfl rfl) ?_
  refine Eq.trans (zd_goto zh96 (t := 47) (by decide) rfl) ?_
  refine Eq.trans (zd_istore_n zh96 (ls' := [some (.retAddr 0), some (.ref a1), some (.int (nI 1)), none, none]) (Nat.le_of_ble_eq_true rfl) rfl rfl) ?_
  refine Eq.trans (zd_aload_s zh96 rfl rfl) ?_
  refine Eq.trans (zd_slen zh96 (Nat.le_of_ble_eq_true rfl) rfl) ?_
  refine Eq.trans (zd_iconst zh96 (v := (nI 3)) rfl rfl) ?_
  refine Eq.trans (zd_idiv zh96 (by decide) rfl) ?_
  refine Eq.trans (zd_bipush zh96 (v := (nI 34)) rfl rfl) ?_
  exact zd_icmple zh96 (t := 62) (by decide) rfl
