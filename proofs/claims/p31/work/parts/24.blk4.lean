/-! yL_change: 94, MarbleHeirsLaw.change(LMarbleHeirs;III)Z -/
set_option maxRecDepth 20000 in
theorem b94_0_c0 {scr : List Int32} {w : zAW} {a0 : Nat} {x1 : Int32} {x2 : Int32} {x3 : Int32} (h1 : zob w a0 5 = true) {f1 : Int32} {w1 : zAW} (h2 : zC scr 69 [.ref a0, .int (nI 0)] w = some (some (.int f1), w1)) {f2 : Int32} {w2 : zAW} (h3 : zC scr 86 [.int x2, .int (f1 + (nI 1))] w1 = some (some (.int f2), w2)) (h4 : zob w2 a0 5 = true) {f3 : Int32} {w3 : zAW} (h5 : zC scr 69 [.ref a0, .int (nI 1)] w2 = some (some (.int f3), w3)) (h6 : zob w3 a0 5 = true) {f4 : Int32} {w4 : zAW} (h7 : zC scr 69 [.ref a0, .int (nI 2)] w3 = some (some (.int f4), w4)) (h8 : zob w4 a0 5 = true) {f5 : Int32} {w5 : zAW} (h9 : zC scr 69 [.ref a0, .int (nI 3)] w4 = some (some (.int f5), w5)) (h10 : zob w5 a0 5 = true) {f6 : Int32} {w6 : zAW} (h11 : zC scr 69 [.ref a0, .int (nI 4)] w5 = some (some (.int f6), w6)) (hx : x1 = (nI 0)) : zd scr 94 0 [some (.ref a0), some (.int x1), some (.int x2), some (.int x3), none, none, none, none, none, none, none, none, none, none, none] [] w = zd scr 94 124 [some (.ref a0), some (.int x1), some (.int x2), some (.int x3), some (.int f1), some (.int f2), some (.int (f3 + f4)), some (.int (f5 + f6)), some (.int (nI 0)), some (.int (nI 1)), none, none, none, none, none] [] w6 := by
  refine Eq.trans (zd_aload_n zh94 rfl rfl) ?_
  refine Eq.trans (zd_iconst zh94 (v := (nI 0)) rfl rfl) ?_
  refine Eq.trans (zd_invVi zh94 zh69 rfl rfl ⟨Nat.le_of_ble_eq_true rfl, Nat.le_of_ble_eq_true rfl, Nat.le_of_ble_eq_true rfl, Nat.le_of_ble_eq_true rfl⟩ rfl h1 h2 rfl) ?_
  refine Eq.trans (zd_istore zh94 (ls' := [some (.ref a0), some (.int x1), some (.int x2), some (.int x3), some (.int f1), none, none, none, none, none, none, none, none, none, none]) (Nat.le_of_ble_eq_true rfl) rfl rfl) ?_
  refine Eq.trans (zd_iload_n zh94 rfl rfl) ?_
  refine Eq.trans (zd_iload zh94 rfl rfl) ?_
  refine Eq.trans (zd_iconst zh94 (v := (nI 1)) rfl rfl) ?_
  refine Eq.trans (zd_iadd zh94 rfl) ?_
  refine Eq.trans (zd_invSi zh94 zh86 rfl rfl ⟨Nat.le_of_ble_eq_true rfl, Nat.le_of_ble_eq_true rfl, Nat.le_of_ble_eq_true rfl, Or.inl (Nat.le_of_ble_eq_true rfl), Nat.le_of_ble_eq_true rfl⟩ rfl h3 rfl) ?_
  refine Eq.trans (zd_istore zh94 (ls' := [some (.ref a0), some (.int x1), some (.int x2), some (.int x3), some (.int f1), some (.int f2), none, none, none, none, none, none, none, none, none]) (Nat.le_of_ble_eq_true rfl) rfl rfl) ?_
  refine Eq.trans (zd_aload_n zh94 rfl rfl) ?_
  refine Eq.trans (zd_iconst zh94 (v := (nI 1)) rfl rfl) ?_
  refine Eq.trans (zd_invVi zh94 zh69 rfl rfl ⟨Nat.le_of_ble_eq_true rfl, Nat.le_of_ble_eq_true rfl, Nat.le_of_ble_eq_true rfl, Nat.le_of_ble_eq_true rfl⟩ rfl h4 h5 rfl) ?_
  refine Eq.trans (zd_aload_n zh94 rfl rfl) ?_
  refine Eq.trans (zd_iconst zh94 (v := (nI 2)) rfl rfl) ?_
  refine Eq.trans (zd_invVi zh94 zh69 rfl rfl ⟨Nat.le_of_ble_eq_true rfl, Nat.le_of_ble_eq_true rfl, Nat.le_of_ble_eq_true rfl, Nat.le_of_ble_eq_true rfl⟩ rfl h6 h7 rfl) ?_
  refine Eq.trans (zd_iadd zh94 rfl) ?_
  refine Eq.trans (zd_istore zh94 (ls' := [some (.ref a0), some (.int x1), some (.int x2), some (.int x3), some (.int f1), some (.int f2), some (.int (f3 + f4)), none, none, none, none, none, none, none, none]) (Nat.le_of_ble_eq_true rfl) rfl rfl) ?_
  refine Eq.trans (zd_aload_n zh94 rfl rfl) ?_
  refine Eq.trans (zd_iconst zh94 (v := (nI 3)) rfl rfl) ?_
  refine Eq.trans (zd_invVi zh94 zh69 rfl rfl ⟨Nat.le_of_ble_eq_true rfl, Nat.le_of_ble_eq_true rfl, Nat.le_of_ble_eq_true rfl, Nat.le_of_ble_eq_true rfl⟩ rfl h8 h9 rfl) ?_
  refine Eq.trans (zd_aload_n zh94 rfl rfl) ?_
  refine Eq.trans (zd_iconst zh94 (v := (nI 4)) rfl rfl) ?_
  refine Eq.trans (zd_invVi zh94 zh69 rfl rfl ⟨Nat.le_of_ble_eq_true rfl, Nat.le_of_ble_eq_true rfl, Nat.le_of_ble_eq_true rfl, Nat.le_of_ble_eq_true rfl⟩ rfl h10 h11 rfl) ?_
  refine Eq.trans (zd_iadd zh94 rfl) ?_
  refine Eq.trans (zd_istore zh94 (ls' := [some (.ref a0), some (.int x1), some (.int x2), some (.int x3), some (.int f1), some (.int f2), some (.int (f3 + f4)), some (.int (f5 + f6)), none, none, none, none, none, none, none]) (Nat.le_of_ble_eq_true rfl) rfl rfl) ?_
  refine Eq.trans (zd_iconst zh94 (v := (nI 0)) rfl rfl) ?_
  refine Eq.trans (zd_istore zh94 (ls' := [some (.ref a0), some (.int x1), some (.int x2), some (.int x3), some (.int f1), some (.int f2), some (.int (f3 + f4)), some (.int (f5 + f6)), some (.int (nI 0)), none, none, none, none, none, none]) (Nat.le_of_ble_eq_true rfl) rfl rfl) ?_
  refine Eq.trans (zd_iconst zh94 (v := (nI 1)) rfl rfl) ?_
  refine Eq.trans (zd_istore zh94 (ls' := [some (.ref a0), some (.int x1), some (.int x2), some (.int x3), some (.int f1), some (.int f2), some (.int (f3 + f4)), some (.int (f5 + f6)), some (.int (nI 0)), some (.int (nI 1)), none, none, none, none, none]) (Nat.le_of_ble_eq_true rfl) rfl rfl) ?_
  refine Eq.trans (zd_iload_n zh94 rfl rfl) ?_
  exact zd_tabIn zh94 (off := 74) (by rw [hx]; decide) (by rw [hx]; rfl) (by decide) rfl
set_option maxRecDepth 20000 in
theorem b94_0_c1 {scr : List Int32} {w : zAW} {a0 : Nat} {x1 : Int32} {x2 : Int32} {x3 : Int32} (h1 : zob w a0 5 = true) {f1 : Int32} {w1 : zAW} (h2 : zC scr 69 [.ref a0, .int (nI 0)] w = some (some (.int f1), w1)) {f2 : Int32} {w2 : zAW} (h3 : zC scr 86 [.int x2, .int (f1 + (nI 1))] w1 = some (some (.int f2), w2)) (h4 : zob w2 a0 5 = true) {f3 : Int32} {w3 : zAW} (h5 : zC scr 69 [.ref a0, .int (nI 1)] w2 = some (some (.int f3), w3)) (h6 : zob w3 a0 5 = true) {f4 : Int32} {w4 : zAW} (h7 : zC scr 69 [.ref a0, .int (nI 2)] w3 = some (some (.int f4), w4)) (h8 : zob w4 a0 5 = true) {f5 : Int32} {w5 : zAW} (h9 : zC scr 69 [.ref a0, .int (nI 3)] w4 = some (some (.int f5), w5)) (h10 : zob w5 a0 5 = true) {f6 : Int32} {w6 : zAW} (h11 : zC scr 69 [.ref a0, .int (nI 4)] w5 = some (some (.int f6), w6)) (hx : x1 = (nI 1)) : zd scr 94 0 [some (.ref a0), some (.int x1), some (.int x2), some (.int x3), none, none, none, none, none, none, none, none, none, none, none] [] w = zd scr 94 124 [some (.ref a0), some (.int x1), some (.int x2), some (.int x3), some (.int f1), some (.int f2), some (.int (f3 + f4)), some (.int (f5 + f6)), some (.int (nI 0)), some (.int (nI 1)), none, none, none, none, none] [] w6 := by
  refine Eq.trans (zd_aload_n zh94 rfl rfl) ?_
  refine Eq.trans (zd_iconst zh94 (v := (nI 0)) rfl rfl) ?_
  refine Eq.trans (zd_invVi zh94 zh69 rfl rfl ⟨Nat.le_of_ble_eq_true rfl, Nat.le_of_ble_eq_true rfl, Nat.le_of_ble_eq_true rfl, Nat.le_of_ble_eq_true rfl⟩ rfl h1 h2 rfl) ?_
  refine Eq.trans (zd_istore zh94 (ls' := [some (.ref a0), some (.int x1), some (.int x2), some (.int x3), some (.int f1), none, none, none, none, none, none, none, none, none, none]) (Nat.le_of_ble_eq_true rfl) rfl rfl) ?_
  refine Eq.trans (zd_iload_n zh94 rfl rfl) ?_
  refine Eq.trans (zd_iload zh94 rfl rfl) ?_
  refine Eq.trans (zd_iconst zh94 (v := (nI 1)) rfl rfl) ?_
  refine Eq.trans (zd_iadd zh94 rfl) ?_
  refine Eq.trans (zd_invSi zh94 zh86 rfl rfl ⟨Nat.le_of_ble_eq_true rfl, Nat.le_of_ble_eq_true rfl, Nat.le_of_ble_eq_true rfl, Or.inl (Nat.le_of_ble_eq_true rfl), Nat.le_of_ble_eq_true rfl⟩ rfl h3 rfl) ?_
  refine Eq.trans (zd_istore zh94 (ls' := [some (.ref a0), some (.int x1), some (.int x2), some (.int x3), some (.int f1), some (.int f2), none, none, none, none, none, none, none, none, none]) (Nat.le_of_ble_eq_true rfl) rfl rfl) ?_
  refine Eq.trans (zd_aload_n zh94 rfl rfl) ?_
  refine Eq.trans (zd_iconst zh94 (v := (nI 1)) rfl rfl) ?_
  refine Eq.trans (zd_invVi zh94 zh69 rfl rfl ⟨Nat.le_of_ble_eq_true rfl, Nat.le_of_ble_eq_true rfl, Nat.le_of_ble_eq_true rfl, Nat.le_of_ble_eq_true rfl⟩ rfl h4 h5 rfl) ?_
  refine Eq.trans (zd_aload_n zh94 rfl rfl) ?_
  refine Eq.trans (zd_iconst zh94 (v := (nI 2)) rfl rfl) ?_
  refine Eq.trans (zd_invVi zh94 zh69 rfl rfl ⟨Nat.le_of_ble_eq_true rfl, Nat.le_of_ble_eq_true rfl, Nat.le_of_ble_eq_true rfl, Nat.le_of_ble_eq_true rfl⟩ rfl h6 h7 rfl) ?_
  refine Eq.trans (zd_iadd zh94 rfl) ?_
  refine Eq.trans (zd_istore zh94 (ls' := [some (.ref a0), some (.int x1), some (.int x2), some (.int x3), some (.int f1), some (.int f2), some (.int (f3 + f4)), none, none, none, none, none, none, none, none]) (Nat.le_of_ble_eq_true rfl) rfl rfl) ?_
  refine Eq.trans (zd_aload_n zh94 rfl rfl) ?_
  refine Eq.trans (zd_iconst zh94 (v := (nI 3)) rfl rfl) ?_
  refine Eq.trans (zd_invVi zh94 zh69 rfl rfl ⟨Nat.le_of_ble_eq_true rfl, Nat.le_of_ble_eq_true rfl, Nat.le_of_ble_eq_true rfl, Nat.le_of_ble_eq_true rfl⟩ rfl h8 h9 rfl) ?_
  refine Eq.trans (zd_aload_n zh94 rfl rfl) ?_
  refine Eq.trans (zd_iconst zh94 (v := (nI 4)) rfl rfl) ?_
  refine Eq.trans (zd_invVi zh94 zh69 rfl rfl ⟨Nat.le_of_ble_eq_true rfl, Nat.le_of_ble_eq_true rfl, Nat.le_of_ble_eq_true rfl, Nat.le_of_ble_eq_true rfl⟩ rfl h10 h11 rfl) ?_
  refine Eq.trans (zd_iadd zh94 rfl) ?_
  refine Eq.trans (zd_istore zh94 (ls' := [some (.ref a0), some (.int x1), some (.int x2), some (.int x3), some (.int f1), some (.int f2), some (.int (f3 + f4)), some (.int (f5 + f6)), none, none, none, none, none, none, none]) (Nat.le_of_ble_eq_true rfl) rfl rfl) ?_
  refine Eq.trans (zd_iconst zh94 (v := (nI 0)) rfl rfl) ?_
  refine Eq.trans (zd_istore zh94 (ls' := [some (.ref a0), some (.int x1), some (.int x2), some (.int x3), some (.int f1), some (.int f2), some (.int (f3 + f4)), some (.int (f5 + f6)), some (.int (nI 0)), none, none, none, none, none, none]) (Nat.le_of_ble_eq_true rfl) rfl rfl) ?_
  refine Eq.trans (zd_iconst zh94 (v := (nI 1)) rfl rfl) ?_
  refine Eq.trans (zd_istore zh94 (ls' := [some (.ref a0), some (.int x1), some (.int x2), some (.int x3), some (.int f1), some (.int f2), some (.int (f3 + f4)), some (.int (f5 + f6)), some (.int (nI 0)), some (.int (nI 1)), none, none, none, none, none]) (Nat.le_of_ble_eq_true rfl) rfl rfl) ?_
  refine Eq.trans (zd_iload_n zh94 rfl rfl) ?_
  exact zd_tabIn zh94 (off := 74) (by rw [hx]; decide) (by rw [hx]; rfl) (by decide) rfl
set_option maxRecDepth 20000 in
theorem b94_0_c2 {scr : List Int32} {w : zAW} {a0 : Nat} {x1 : Int32} {x2 : Int32} {x3 : Int32} (h1 : zob w a0 5 = true) {f1 : Int32} {w1 : zAW} (h2 : zC scr 69 [.ref a0, .int (nI 0)] w = some (some (.int f1), w1)) {f2 : Int32} {w2 : zAW} (h3 : zC scr 86 [.int x2, .int (f1 + (nI 1))] w1 = some (some (.int f2), w2)) (h4 : zob w2 a0 5 = true) {f3 : Int32} {w3 : zAW} (h5 : zC scr 69 [.ref a0, .int (nI 1)] w2 = some (some (.int f3), w3)) (h6 : zob w3 a0 5 = true) {f4 : Int32} {w4 : zAW} (h7 : zC scr 69 [.ref a0, .int (nI 2)] w3 = some (some (.int f4), w4)) (h8 : zob w4 a0 5 = true) {f5 : Int32} {w5 : zAW} (h9 : zC scr 69 [.ref a0, .int (nI 3)] w4 = some (some (.int f5), w5)) (h10 : zob w5 a0 5 = true) {f6 : Int32} {w6 : zAW} (h11 : zC scr 69 [.ref a0, .int (nI 4)] w5 = some (some (.int f6), w6)) (hx : x1 = (nI 2)) : zd scr 94 0 [some (.ref a0), some (.int x1), some (.int x2), some (.int x3), none, none, none, none, none, none, none, none, none, none, none] [] w = zd scr 94 195 [some (.ref a0), some (.int x1), some (.int x2), some (.int x3), some (.int f1), some (.int f2), some (.int (f3 + f4)), some (.int (f5 + f6)), some (.int (nI 0)), some (.int (nI 1)), none, none, none, none, none] [] w6 := by
  refine Eq.trans (zd_aload_n zh94 rfl rfl) ?_
  refine Eq.trans (zd_iconst zh94 (v := (nI 0)) rfl rfl) ?_
  refine Eq.trans (zd_invVi zh94 zh69 rfl rfl ⟨Nat.le_of_ble_eq_true rfl, Nat.le_of_ble_eq_true rfl, Nat.le_of_ble_eq_true rfl, Nat.le_of_ble_eq_true rfl⟩ rfl h1 h2 rfl) ?_
  refine Eq.trans (zd_istore zh94 (ls' := [some (.ref a0), some (.int x1), some (.int x2), some (.int x3), some (.int f1), none, none, none, none, none, none, none, none, none, none]) (Nat.le_of_ble_eq_true rfl) rfl rfl) ?_
  refine Eq.trans (zd_iload_n zh94 rfl rfl) ?_
  refine Eq.trans (zd_iload zh94 rfl rfl) ?_
  refine Eq.trans (zd_iconst zh94 (v := (nI 1)) rfl rfl) ?_
  refine Eq.trans (zd_iadd zh94 rfl) ?_
  refine Eq.trans (zd_invSi zh94 zh86 rfl rfl ⟨Nat.le_of_ble_eq_true rfl, Nat.le_of_ble_eq_true rfl, Nat.le_of_ble_eq_true rfl, Or.inl (Nat.le_of_ble_eq_true rfl), Nat.le_of_ble_eq_true rfl⟩ rfl h3 rfl) ?_
  refine Eq.trans (zd_istore zh94 (ls' := [some (.ref a0), some (.int x1), some (.int x2), some (.int x3), some (.int f1), some (.int f2), none, none, none, none, none, none, none, none, none]) (Nat.le_of_ble_eq_true rfl) rfl rfl) ?_
  refine Eq.trans (zd_aload_n zh94 rfl rfl) ?_
  refine Eq.trans (zd_iconst zh94 (v := (nI 1)) rfl rfl) ?_
  refine Eq.trans (zd_invVi zh94 zh69 rfl rfl ⟨Nat.le_of_ble_eq_true rfl, Nat.le_of_ble_eq_true rfl, Nat.le_of_ble_eq_true rfl, Nat.le_of_ble_eq_true rfl⟩ rfl h4 h5 rfl) ?_
  refine Eq.trans (zd_aload_n zh94 rfl rfl) ?_
  refine Eq.trans (zd_iconst zh94 (v := (nI 2)) rfl rfl) ?_
  refine Eq.trans (zd_invVi zh94 zh69 rfl rfl ⟨Nat.le_of_ble_eq_true rfl, Nat.le_of_ble_eq_true rfl, Nat.le_of_ble_eq_true rfl, Nat.le_of_ble_eq_true rfl⟩ rfl h6 h7 rfl) ?_
  refine Eq.trans (zd_iadd zh94 rfl) ?_
  refine Eq.trans (zd_istore zh94 (ls' := [some (.ref a0), some (.int x1), some (.int x2), some (.int x3), some (.int f1), some (.int f2), some (.int (f3 + f4)), none, none, none, none, none, none, none, none]) (Nat.le_of_ble_eq_true rfl) rfl rfl) ?_
  refine Eq.trans (zd_aload_n zh94 rfl rfl) ?_
  refine Eq.trans (zd_iconst zh94 (v := (nI 3)) rfl rfl) ?_
  refine Eq.trans (zd_invVi zh94 zh69 rfl rfl ⟨Nat.le_of_ble_eq_true rfl, Nat.le_of_ble_eq_true rfl, Nat.le_of_ble_eq_true rfl, Nat.le_of_ble_eq_true rfl⟩ rfl h8 h9 rfl) ?_
  refine Eq.trans (zd_aload_n zh94 rfl rfl) ?_
  refine Eq.trans (zd_iconst zh94 (v := (nI 4)) rfl rfl) ?_
  refine Eq.trans (zd_invVi zh94 zh69 rfl rfl ⟨Nat.le_of_ble_eq_true rfl, Nat.le_of_ble_eq_true rfl, Nat.le_of_ble_eq_true rfl, Nat.le_of_ble_eq_true rfl⟩ rfl h10 h11 rfl) ?_
  refine Eq.trans (zd_iadd zh94 rfl) ?_
  refine Eq.trans (zd_istore zh94 (ls' := [some (.ref a0), some (.int x1), some (.int x2), some (.int x3), some (.int f1), some (.int f2), some (.int (f3 + f4)), some (.int (f5 + f6)), none, none, none, none, none, none, none]) (Nat.le_of_ble_eq_true rfl) rfl rfl) ?_
  refine Eq.trans (zd_iconst zh94 (v := (nI 0)) rfl rfl) ?_
  refine Eq.trans (zd_istore zh94 (ls' := [some (.ref a0), some (.int x1), some (.int x2), some (.int x3), some (.int f1), some (.int f2), some (.int (f3 + f4)), some (.int (f5 + f6)), some (.int (nI 0)), none, none, none, none, none, none]) (Nat.le_of_ble_eq_true rfl) rfl rfl) ?_
  refine Eq.trans (zd_iconst zh94 (v := (nI 1)) rfl rfl) ?_
  refine Eq.trans (zd_istore zh94 (ls' := [some (.ref a0), some (.int x1), some (.int x2), some (.int x3), some (.int f1), some (.int f2), some (.int (f3 + f4)), some (.int (f5 + f6)), some (.int (nI 0)), some (.int (nI 1)), none, none, none, none, none]) (Nat.le_of_ble_eq_true rfl) rfl rfl) ?_
  refine Eq.trans (zd_iload_n zh94 rfl rfl) ?_
  exact zd_tabIn zh94 (off := 145) (by rw [hx]; decide) (by rw [hx]; rfl) (by decide) rfl
set_option maxRecDepth 20000 in
theorem b94_0_c3 {scr : List Int32} {w : zAW} {a0 : Nat} {x1 : Int32} {x2 : Int32} {x3 : Int32} (h1 : zob w a0 5 = true) {f1 : Int32} {w1 : zAW} (h2 : zC scr 69 [.ref a0, .int (nI 0)] w = some (some (.int f1), w1)) {f2 : Int32} {w2 : zAW} (h3 : zC scr 86 [.int x2, .int (f1 + (nI 1))] w1 = some (some (.int f2), w2)) (h4 : zob w2 a0 5 = true) {f3 : Int32} {w3 : zAW} (h5 : zC scr 69 [.ref a0, .int (nI 1)] w2 = some (some (.int f3), w3)) (h6 : zob w3 a0 5 = true) {f4 : Int32} {w4 : zAW} (h7 : zC scr 69 [.ref a0, .int (nI 2)] w3 = some (some (.int f4), w4)) (h8 : zob w4 a0 5 = true) {f5 : Int32} {w5 : zAW} (h9 : zC scr 69 [.ref a0, .int (nI 3)] w4 = some (some (.int f5), w5)) (h10 : zob w5 a0 5 = true) {f6 : Int32} {w6 : zAW} (h11 : zC scr 69 [.ref a0, .int (nI 4)] w5 = some (some (.int f6), w6)) (hx : x1 = (nI 3)) : zd scr 94 0 [some (.ref a0), some (.int x1), some (.int x2), some (.int x3), none, none, none, none, none, none, none, none, none, none, none] [] w = zd scr 94 322 [some (.ref a0), some (.int x1), some (.int x2), some (.int x3), some (.int f1), some (.int f2), some (.int (f3 + f4)), some (.int (f5 + f6)), some (.int (nI 0)), some (.int (nI 1)), none, none, none, none, none] [] w6 := by
  refine Eq.trans (zd_aload_n zh94 rfl rfl) ?_
  refine Eq.trans (zd_iconst zh94 (v := (nI 0)) rfl rfl) ?_
  refine Eq.trans (zd_invVi zh94 zh69 rfl rfl ⟨Nat.le_of_ble_eq_true rfl, Nat.le_of_ble_eq_true rfl, Nat.le_of_ble_eq_true rfl, Nat.le_of_ble_eq_true rfl⟩ rfl h1 h2 rfl) ?_
  refine Eq.trans (zd_istore zh94 (ls' := [some (.ref a0), some (.int x1), some (.int x2), some (.int x3), some (.int f1), none, none, none, none, none, none, none, none, none, none]) (Nat.le_of_ble_eq_true rfl) rfl rfl) ?_
  refine Eq.trans (zd_iload_n zh94 rfl rfl) ?_
  refine Eq.trans (zd_iload zh94 rfl rfl) ?_
  refine Eq.trans (zd_iconst zh94 (v := (nI 1)) rfl rfl) ?_
  refine Eq.trans (zd_iadd zh94 rfl) ?_
  refine Eq.trans (zd_invSi zh94 zh86 rfl rfl ⟨Nat.le_of_ble_eq_true rfl, Nat.le_of_ble_eq_true rfl, Nat.le_of_ble_eq_true rfl, Or.inl (Nat.le_of_ble_eq_true rfl), Nat.le_of_ble_eq_true rfl⟩ rfl h3 rfl) ?_
  refine Eq.trans (zd_istore zh94 (ls' := [some (.ref a0), some (.int x1), some (.int x2), some (.int x3), some (.int f1), some (.int f2), none, none, none, none, none, none, none, none, none]) (Nat.le_of_ble_eq_true rfl) rfl rfl) ?_
  refine Eq.trans (zd_aload_n zh94 rfl rfl) ?_
  refine Eq.trans (zd_iconst zh94 (v := (nI 1)) rfl rfl) ?_
  refine Eq.trans (zd_invVi zh94 zh69 rfl rfl ⟨Nat.le_of_ble_eq_true rfl, Nat.le_of_ble_eq_true rfl, Nat.le_of_ble_eq_true rfl, Nat.le_of_ble_eq_true rfl⟩ rfl h4 h5 rfl) ?_
  refine Eq.trans (zd_aload_n zh94 rfl rfl) ?_
  refine Eq.trans (zd_iconst zh94 (v := (nI 2)) rfl rfl) ?_
  refine Eq.trans (zd_invVi zh94 zh69 rfl rfl ⟨Nat.le_of_ble_eq_true rfl, Nat.le_of_ble_eq_true rfl, Nat.le_of_ble_eq_true rfl, Nat.le_of_ble_eq_true rfl⟩ rfl h6 h7 rfl) ?_
  refine Eq.trans (zd_iadd zh94 rfl) ?_
  refine Eq.trans (zd_istore zh94 (ls' := [some (.ref a0), some (.int x1), some (.int x2), some (.int x3), some (.int f1), some (.int f2), some (.int (f3 + f4)), none, none, none, none, none, none, none, none]) (Nat.le_of_ble_eq_true rfl) rfl rfl) ?_
  refine Eq.trans (zd_aload_n zh94 rfl rfl) ?_
  refine Eq.trans (zd_iconst zh94 (v := (nI 3)) rfl rfl) ?_
  refine Eq.trans (zd_invVi zh94 zh69 rfl rfl ⟨Nat.le_of_ble_eq_true rfl, Nat.le_of_ble_eq_true rfl, Nat.le_of_ble_eq_true rfl, Nat.le_of_ble_eq_true rfl⟩ rfl h8 h9 rfl) ?_
  refine Eq.trans (zd_aload_n zh94 rfl rfl) ?_
  refine Eq.trans (zd_iconst zh94 (v := (nI 4)) rfl rfl) ?_
  refine Eq.trans (zd_invVi zh94 zh69 rfl rfl ⟨Nat.le_of_ble_eq_true rfl, Nat.le_of_ble_eq_true rfl, Nat.le_of_ble_eq_true rfl, Nat.le_of_ble_eq_true rfl⟩ rfl h10 h11 rfl) ?_
  refine Eq.trans (zd_iadd zh94 rfl) ?_
  refine Eq.trans (zd_istore zh94 (ls' := [some (.ref a0), some (.int x1), some (.int x2), some (.int x3), some (.int f1), some (.int f2), some (.int (f3 + f4)), some (.int (f5 + f6)), none, none, none, none, none, none, none]) (Nat.le_of_ble_eq_true rfl) rfl rfl) ?_
  refine Eq.trans (zd_iconst zh94 (v := (nI 0)) rfl rfl) ?_
  refine Eq.trans (zd_istore zh94 (ls' := [some (.ref a0), some (.int x1), some (.int x2), some (.int x3), some (.int f1), some (.int f2), some (.int (f3 + f4)), some (.int (f5 + f6)), some (.int (nI 0)), none, none, none, none, none, none]) (Nat.le_of_ble_eq_true rfl) rfl rfl) ?_
  refine Eq.trans (zd_iconst zh94 (v := (nI 1)) rfl rfl) ?_
  refine Eq.trans (zd_istore zh94 (ls' := [some (.ref a0), some (.int x1), some (.int x2), some (.int x3), some (.int f1), some (.int f2), some (.int (f3 + f4)), some (.int (f5 + f6)), some (.int (nI 0)), some (.int (nI 1)), none, none, none, none, none]) (Nat.le_of_ble_eq_true rfl) rfl rfl) ?_
  refine Eq.trans (zd_iload_n zh94 rfl rfl) ?_
  exact zd_tabIn zh94 (off := 272) (by rw [hx]; decide) (by rw [hx]; rfl) (by decide) rfl
set_option maxRecDepth 20000 in
theorem b94_0_c4 {scr : List Int32} {w : zAW} {a0 : Nat} {x1 : Int32} {x2 : Int32} {x3 : Int32} (h1 : zob w a0 5 = true) {f1 : Int32} {w1 : zAW} (h2 : zC scr 69 [.ref a0, .int (nI 0)] w = some (some (.int f1), w1)) {f2 : Int32} {w2 : zAW} (h3 : zC scr 86 [.int x2, .int (f1 + (nI 1))] w1 = some (some (.int f2), w2)) (h4 : zob w2 a0 5 = true) {f3 : Int32} {w3 : zAW} (h5 : zC scr 69 [.ref a0, .int (nI 1)] w2 = some (some (.int f3), w3)) (h6 : zob w3 a0 5 = true) {f4 : Int32} {w4 : zAW} (h7 : zC scr 69 [.ref a0, .int (nI 2)] w3 = some (some (.int f4), w4)) (h8 : zob w4 a0 5 = true) {f5 : Int32} {w5 : zAW} (h9 : zC scr 69 [.ref a0, .int (nI 3)] w4 = some (some (.int f5), w5)) (h10 : zob w5 a0 5 = true) {f6 : Int32} {w6 : zAW} (h11 : zC scr 69 [.ref a0, .int (nI 4)] w5 = some (some (.int f6), w6)) (hx : x1 = (nI 4)) : zd scr 94 0 [some (.ref a0), some (.int x1), some (.int x2), some (.int x3), none, none, none, none, none, none, none, none, none, none, none] [] w = zd scr 94 395 [some (.ref a0), some (.int x1), some (.int x2), some (.int x3), some (.int f1), some (.int f2), some (.int (f3 + f4)), some (.int (f5 + f6)), some (.int (nI 0)), some (.int (nI 1)), none, none, none, none, none] [] w6 := by
  refine Eq.trans (zd_aload_n zh94 rfl rfl) ?_
  refine Eq.trans (zd_iconst zh94 (v := (nI 0)) rfl rfl) ?_
  refine Eq.trans (zd_invVi zh94 zh69 rfl rfl ⟨Nat.le_of_ble_eq_true rfl, Nat.le_of_ble_eq_true rfl, Nat.le_of_ble_eq_true rfl, Nat.le_of_ble_eq_true rfl⟩ rfl h1 h2 rfl) ?_
  refine Eq.trans (zd_istore zh94 (ls' := [some (.ref a0), some (.int x1), some (.int x2), some (.int x3), some (.int f1), none, none, none, none, none, none, none, none, none, none]) (Nat.le_of_ble_eq_true rfl) rfl rfl) ?_
  refine Eq.trans (zd_iload_n zh94 rfl rfl) ?_
  refine Eq.trans (zd_iload zh94 rfl rfl) ?_
  refine Eq.trans (zd_iconst zh94 (v := (nI 1)) rfl rfl) ?_
  refine Eq.trans (zd_iadd zh94 rfl) ?_
  refine Eq.trans (zd_invSi zh94 zh86 rfl rfl ⟨Nat.le_of_ble_eq_true rfl, Nat.le_of_ble_eq_true rfl, Nat.le_of_ble_eq_true rfl, Or.inl (Nat.le_of_ble_eq_true rfl), Nat.le_of_ble_eq_true rfl⟩ rfl h3 rfl) ?_
  refine Eq.trans (zd_istore zh94 (ls' := [some (.ref a0), some (.int x1), some (.int x2), some (.int x3), some (.int f1), some (.int f2), none, none, none, none, none, none, none, none, none]) (Nat.le_of_ble_eq_true rfl) rfl rfl) ?_
  refine Eq.trans (zd_aload_n zh94 rfl rfl) ?_
  refine Eq.trans (zd_iconst zh94 (v := (nI 1)) rfl rfl) ?_
  refine Eq.trans (zd_invVi zh94 zh69 rfl rfl ⟨Nat.le_of_ble_eq_true rfl, Nat.le_of_ble_eq_true rfl, Nat.le_of_ble_eq_true rfl, Nat.le_of_ble_eq_true rfl⟩ rfl h4 h5 rfl) ?_
  refine Eq.trans (zd_aload_n zh94 rfl rfl) ?_
  refine Eq.trans (zd_iconst zh94 (v := (nI 2)) rfl rfl) ?_
  refine Eq.trans (zd_invVi zh94 zh69 rfl rfl ⟨Nat.le_of_ble_eq_true rfl, Nat.le_of_ble_eq_true rfl, Nat.le_of_ble_eq_true rfl, Nat.le_of_ble_eq_true rfl⟩ rfl h6 h7 rfl) ?_
  refine Eq.trans (zd_iadd zh94 rfl) ?_
  refine Eq.trans (zd_istore zh94 (ls' := [some (.ref a0), some (.int x1), some (.int x2), some (.int x3), some (.int f1), some (.int f2), some (.int (f3 + f4)), none, none, none, none, none, none, none, none]) (Nat.le_of_ble_eq_true rfl) rfl rfl) ?_
  refine Eq.trans (zd_aload_n zh94 rfl rfl) ?_
  refine Eq.trans (zd_iconst zh94 (v := (nI 3)) rfl rfl) ?_
  refine Eq.trans (zd_invVi zh94 zh69 rfl rfl ⟨Nat.le_of_ble_eq_true rfl, Nat.le_of_ble_eq_true rfl, Nat.le_of_ble_eq_true rfl, Nat.le_of_ble_eq_true rfl⟩ rfl h8 h9 rfl) ?_
  refine Eq.trans (zd_aload_n zh94 rfl rfl) ?_
  refine Eq.trans (zd_iconst zh94 (v := (nI 4)) rfl rfl) ?_
  refine Eq.trans (zd_invVi zh94 zh69 rfl rfl ⟨Nat.le_of_ble_eq_true rfl, Nat.le_of_ble_eq_true rfl, Nat.le_of_ble_eq_true rfl, Nat.le_of_ble_eq_true rfl⟩ rfl h10 h11 rfl) ?_
  refine Eq.trans (zd_iadd zh94 rfl) ?_
  refine Eq.trans (zd_istore zh94 (ls' := [some (.ref a0), some (.int x1), some (.int x2), some (.int x3), some (.int f1), some (.int f2), some (.int (f3 + f4)), some (.int (f5 + f6)), none, none, none, none, none, none, none]) (Nat.le_of_ble_eq_true rfl) rfl rfl) ?_
  refine Eq.trans (zd_iconst zh94 (v := (nI 0)) rfl rfl) ?_
  refine Eq.trans (zd_istore zh94 (ls' := [some (.ref a0), some (.int x1), some (.int x2), some (.int x3), some (.int f1), some (.int f2), some (.int (f3 + f4)), some (.int (f5 + f6)), some (.int (nI 0)), none, none, none, none, none, none]) (Nat.le_of_ble_eq_true rfl) rfl rfl) ?_
  refine Eq.trans (zd_iconst zh94 (v := (nI 1)) rfl rfl) ?_
  refine Eq.trans (zd_istore zh94 (ls' := [some (.ref a0), some (.int x1), some (.int x2), some (.int x3), some (.int f1), some (.int f2), some (.int (f3 + f4)), some (.int (f5 + f6)), some (.int (nI 0)), some (.int (nI 1)), none, none, none, none, none]) (Nat.le_of_ble_eq_true rfl) rfl rfl) ?_
  refine Eq.trans (zd_iload_n zh94 rfl rfl) ?_
  exact zd_tabIn zh94 (off := 345) (by rw [hx]; decide) (by rw [hx]; rfl) (by decide) rfl
set_option maxRecDepth 20000 in
theorem b94_0_c5 {scr : List Int32} {w : zAW} {a0 : Nat} {x1 : Int32} {x2 : Int32} {x3 : Int32} (h1 : zob w a0 5 = true) {f1 : Int32} {w1 : zAW} (h2 : zC scr 69 [.ref a0, .int (nI 0)] w = some (some (.int f1), w1)) {f2 : Int32} {w2 : zAW} (h3 : zC scr 86 [.int x2, .int (f1 + (nI 1))] w1 = some (some (.int f2), w2)) (h4 : zob w2 a0 5 = true) {f3 : Int32} {w3 : zAW} (h5 : zC scr 69 [.ref a0, .int (nI 1)] w2 = some (some (.int f3), w3)) (h6 : zob w3 a0 5 = true) {f4 : Int32} {w4 : zAW} (h7 : zC scr 69 [.ref a0, .int (nI 2)] w3 = some (some (.int f4), w4)) (h8 : zob w4 a0 5 = true) {f5 : Int32} {w5 : zAW} (h9 : zC scr 69 [.ref a0, .int (nI 3)] w4 = some (some (.int f5), w5)) (h10 : zob w5 a0 5 = true) {f6 : Int32} {w6 : zAW} (h11 : zC scr 69 [.ref a0, .int (nI 4)] w5 = some (some (.int f6), w6)) (hx : x1 = (nI 5)) : zd scr 94 0 [some (.ref a0), some (.int x1), some (.int x2), some (.int x3), none, none, none, none, none, none, none, none, none, none, none] [] w = zd scr 94 461 [some (.ref a0), some (.int x1), some (.int x2), some (.int x3), some (.int f1), some (.int f2), some (.int (f3 + f4)), some (.int (f5 + f6)), some (.int (nI 0)), some (.int (nI 1)), none, none, none, none, none] [] w6 := by
  refine Eq.trans (zd_aload_n zh94 rfl rfl) ?_
  refine Eq.trans (zd_iconst zh94 (v := (nI 0)) rfl rfl) ?_
  refine Eq.trans (zd_invVi zh94 zh69 rfl rfl ⟨Nat.le_of_ble_eq_true rfl, Nat.le_of_ble_eq_true rfl, Nat.le_of_ble_eq_true rfl, Nat.le_of_ble_eq_true rfl⟩ rfl h1 h2 rfl) ?_
  refine Eq.trans (zd_istore zh94 (ls' := [some (.ref a0), some (.int x1), some (.int x2), some (.int x3), some (.int f1), none, none, none, none, none, none, none, none, none, none]) (Nat.le_of_ble_eq_true rfl) rfl rfl) ?_
  refine Eq.trans (zd_iload_n zh94 rfl rfl) ?_
  refine Eq.trans (zd_iload zh94 rfl rfl) ?_
  refine Eq.trans (zd_iconst zh94 (v := (nI 1)) rfl rfl) ?_
  refine Eq.trans (zd_iadd zh94 rfl) ?_
  refine Eq.trans (zd_invSi zh94 zh86 rfl rfl ⟨Nat.le_of_ble_eq_true rfl, Nat.le_of_ble_eq_true rfl, Nat.le_of_ble_eq_true rfl, Or.inl (Nat.le_of_ble_eq_true rfl), Nat.le_of_ble_eq_true rfl⟩ rfl h3 rfl) ?_
  refine Eq.trans (zd_istore zh94 (ls' := [some (.ref a0), some (.int x1), some (.int x2), some (.int x3), some (.int f1), some (.int f2), none, none, none, none, none, none, none, none, none]) (Nat.le_of_ble_eq_true rfl) rfl rfl) ?_
  refine Eq.trans (zd_aload_n zh94 rfl rfl) ?_
  refine Eq.trans (zd_iconst zh94 (v := (nI 1)) rfl rfl) ?_
  refine Eq.trans (zd_invVi zh94 zh69 rfl rfl ⟨Nat.le_of_ble_eq_true rfl, Nat.le_of_ble_eq_true rfl, Nat.le_of_ble_eq_true rfl, Nat.le_of_ble_eq_true rfl⟩ rfl h4 h5 rfl) ?_
  refine Eq.trans (zd_aload_n zh94 rfl rfl) ?_
  refine Eq.trans (zd_iconst zh94 (v := (nI 2)) rfl rfl) ?_
  refine Eq.trans (zd_invVi zh94 zh69 rfl rfl ⟨Nat.le_of_ble_eq_true rfl, Nat.le_of_ble_eq_true rfl, Nat.le_of_ble_eq_true rfl, Nat.le_of_ble_eq_true rfl⟩ rfl h6 h7 rfl) ?_
  refine Eq.trans (zd_iadd zh94 rfl) ?_
  refine Eq.trans (zd_istore zh94 (ls' := [some (.ref a0), some (.int x1), some (.int x2), some (.int x3), some (.int f1), some (.int f2), some (.int (f3 + f4)), none, none, none, none, none, none, none, none]) (Nat.le_of_ble_eq_true rfl) rfl rfl) ?_
  refine Eq.trans (zd_aload_n zh94 rfl rfl) ?_
  refine Eq.trans (zd_iconst zh94 (v := (nI 3)) rfl rfl) ?_
  refine Eq.trans (zd_invVi zh94 zh69 rfl rfl ⟨Nat.le_of_ble_eq_true rfl, Nat.le_of_ble_eq_true rfl, Nat.le_of_ble_eq_true rfl, Nat.le_of_ble_eq_true rfl⟩ rfl h8 h9 rfl) ?_
  refine Eq.trans (zd_aload_n zh94 rfl rfl) ?_
  refine Eq.trans (zd_iconst zh94 (v := (nI 4)) rfl rfl) ?_
  refine Eq.trans (zd_invVi zh94 zh69 rfl rfl ⟨Nat.le_of_ble_eq_true rfl, Nat.le_of_ble_eq_true rfl, Nat.le_of_ble_eq_true rfl, Nat.le_of_ble_eq_true rfl⟩ rfl h10 h11 rfl) ?_
  refine Eq.trans (zd_iadd zh94 rfl) ?_
  refine Eq.trans (zd_istore zh94 (ls' := [some (.ref a0), some (.int x1), some (.int x2), some (.int x3), some (.int f1), some (.int f2), some (.int (f3 + f4)), some (.int (f5 + f6)), none, none, none, none, none, none, none]) (Nat.le_of_ble_eq_true rfl) rfl rfl) ?_
  refine Eq.trans (zd_iconst zh94 (v := (nI 0)) rfl rfl) ?_
  refine Eq.trans (zd_istore zh94 (ls' := [some (.ref a0), some (.int x1), some (.int x2), some (.int x3), some (.int f1), some (.int f2), some (.int (f3 + f4)), some (.int (f5 + f6)), some (.int (nI 0)), none, none, none, none, none, none]) (Nat.le_of_ble_eq_true rfl) rfl rfl) ?_
  refine Eq.trans (zd_iconst zh94 (v := (nI 1)) rfl rfl) ?_
  refine Eq.trans (zd_istore zh94 (ls' := [some (.ref a0), some (.int x1), some (.int x2), some (.int x3), some (.int f1), some (.int f2), some (.int (f3 + f4)), some (.int (f5 + f6)), some (.int (nI 0)), some (.int (nI 1)), none, none, none, none, none]) (Nat.le_of_ble_eq_true rfl) rfl rfl) ?_
  refine Eq.trans (zd_iload_n zh94 rfl rfl) ?_
  exact zd_tabIn zh94 (off := 411) (by rw [hx]; decide) (by rw [hx]; rfl) (by decide) rfl
set_option maxRecDepth 20000 in
theorem b94_0_c6 {scr : List Int32} {w : zAW} {a0 : Nat} {x1 : Int32} {x2 : Int32} {x3 : Int32} (h1 : zob w a0 5 = true) {f1 : Int32} {w1 : zAW} (h2 : zC scr 69 [.ref a0, .int (nI 0)] w = some (some (.int f1), w1)) {f2 : Int32} {w2 : zAW} (h3 : zC scr 86 [.int x2, .int (f1 + (nI 1))] w1 = some (some (.int f2), w2)) (h4 : zob w2 a0 5 = true) {f3 : Int32} {w3 : zAW} (h5 : zC scr 69 [.ref a0, .int (nI 1)] w2 = some (some (.int f3), w3)) (h6 : zob w3 a0 5 = true) {f4 : Int32} {w4 : zAW} (h7 : zC scr 69 [.ref a0, .int (nI 2)] w3 = some (some (.int f4), w4)) (h8 : zob w4 a0 5 = true) {f5 : Int32} {w5 : zAW} (h9 : zC scr 69 [.ref a0, .int (nI 3)] w4 = some (some (.int f5), w5)) (h10 : zob w5 a0 5 = true) {f6 : Int32} {w6 : zAW} (h11 : zC scr 69 [.ref a0, .int (nI 4)] w5 = some (some (.int f6), w6)) (hx : x1 = (nI 6)) : zd scr 94 0 [some (.ref a0), some (.int x1), some (.int x2), some (.int x3), none, none, none, none, none, none, none, none, none, none, none] [] w = zd scr 94 518 [some (.ref a0), some (.int x1), some (.int x2), some (.int x3), some (.int f1), some (.int f2), some (.int (f3 + f4)), some (.int (f5 + f6)), some (.int (nI 0)), some (.int (nI 1)), none, none, none, none, none] [] w6 := by
  refine Eq.trans (zd_aload_n zh94 rfl rfl) ?_
  refine Eq.trans (zd_iconst zh94 (v := (nI 0)) rfl rfl) ?_
  refine Eq.trans (zd_invVi zh94 zh69 rfl rfl ⟨Nat.le_of_ble_eq_true rfl, Nat.le_of_ble_eq_true rfl, Nat.le_of_ble_eq_true rfl, Nat.le_of_ble_eq_true rfl⟩ rfl h1 h2 rfl) ?_
  refine Eq.trans (zd_istore zh94 (ls' := [some (.ref a0), some (.int x1), some (.int x2), some (.int x3), some (.int f1), none, none, none, none, none, none, none, none, none, none]) (Nat.le_of_ble_eq_true rfl) rfl rfl) ?_
  refine Eq.trans (zd_iload_n zh94 rfl rfl) ?_
  refine Eq.trans (zd_iload zh94 rfl rfl) ?_
  refine Eq.trans (zd_iconst zh94 (v := (nI 1)) rfl rfl) ?_
  refine Eq.trans (zd_iadd zh94 rfl) ?_
  refine Eq.trans (zd_invSi zh94 zh86 rfl rfl ⟨Nat.le_of_ble_eq_true rfl, Nat.le_of_ble_eq_true rfl, Nat.le_of_ble_eq_true rfl, Or.inl (Nat.le_of_ble_eq_true rfl), Nat.le_of_ble_eq_true rfl⟩ rfl h3 rfl) ?_
  refine Eq.trans (zd_istore zh94 (ls' := [some (.ref a0), some (.int x1), some (.int x2), some (.int x3), some (.int f1), some (.int f2), none, none, none, none, none, none, none, none, none]) (Nat.le_of_ble_eq_true rfl) rfl rfl) ?_
  refine Eq.trans (zd_aload_n zh94 rfl rfl) ?_
  refine Eq.trans (zd_iconst zh94 (v := (nI 1)) rfl rfl) ?_
  refine Eq.trans (zd_invVi zh94 zh69 rfl rfl ⟨Nat.le_of_ble_eq_true rfl, Nat.le_of_ble_eq_true rfl, Nat.le_of_ble_eq_true rfl, Nat.le_of_ble_eq_true rfl⟩ rfl h4 h5 rfl) ?_
  refine Eq.trans (zd_aload_n zh94 rfl rfl) ?_
  refine Eq.trans (zd_iconst zh94 (v := (nI 2)) rfl rfl) ?_
  refine Eq.trans (zd_invVi zh94 zh69 rfl rfl ⟨Nat.le_of_ble_eq_true rfl, Nat.le_of_ble_eq_true rfl, Nat.le_of_ble_eq_true rfl, Nat.le_of_ble_eq_true rfl⟩ rfl h6 h7 rfl) ?_
  refine Eq.trans (zd_iadd zh94 rfl) ?_
  refine Eq.trans (zd_istore zh94 (ls' := [some (.ref a0), some (.int x1), some (.int x2), some (.int x3), some (.int f1), some (.int f2), some (.int (f3 + f4)), none, none, none, none, none, none, none, none]) (Nat.le_of_ble_eq_true rfl) rfl rfl) ?_
  refine Eq.trans (zd_aload_n zh94 rfl rfl) ?_
  refine Eq.trans (zd_iconst zh94 (v := (nI 3)) rfl rfl) ?_
  refine Eq.trans (zd_invVi zh94 zh69 rfl rfl ⟨Nat.le_of_ble_eq_true rfl, Nat.le_of_ble_eq_true rfl, Nat.le_of_ble_eq_true rfl, Nat.le_of_ble_eq_true rfl⟩ rfl h8 h9 rfl) ?_
  refine Eq.trans (zd_aload_n zh94 rfl rfl) ?_
  refine Eq.trans (zd_iconst zh94 (v := (nI 4)) rfl rfl) ?_
  refine Eq.trans (zd_invVi zh94 zh69 rfl rfl ⟨Nat.le_of_ble_eq_true rfl, Nat.le_of_ble_eq_true rfl, Nat.le_of_ble_eq_true rfl, Nat.le_of_ble_eq_true rfl⟩ rfl h10 h11 rfl) ?_
  refine Eq.trans (zd_iadd zh94 rfl) ?_
  refine Eq.trans (zd_istore zh94 (ls' := [some (.ref a0), some (.int x1), some (.int x2), some (.int x3), some (.int f1), some (.int f2), some (.int (f3 + f4)), some (.int (f5 + f6)), none, none, none, none, none, none, none]) (Nat.le_of_ble_eq_true rfl) rfl rfl) ?_
  refine Eq.trans (zd_iconst zh94 (v := (nI 0)) rfl rfl) ?_
  refine Eq.trans (zd_istore zh94 (ls' := [some (.ref a0), some (.int x1), some (.int x2), some (.int x3), some (.int f1), some (.int f2), some (.int (f3 + f4)), some (.int (f5 + f6)), some (.int (nI 0)), none, none, none, none, none, none]) (Nat.le_of_ble_eq_true rfl) rfl rfl) ?_
  refine Eq.trans (zd_iconst zh94 (v := (nI 1)) rfl rfl) ?_
  refine Eq.trans (zd_istore zh94 (ls' := [some (.ref a0), some (.int x1), some (.int x2), some (.int x3), some (.int f1), some (.int f2), some (.int (f3 + f4)), some (.int (f5 + f6)), some (.int (nI 0)), some (.int (nI 1)), none, none, none, none, none]) (Nat.le_of_ble_eq_true rfl) rfl rfl) ?_
  refine Eq.trans (zd_iload_n zh94 rfl rfl) ?_
  exact zd_tabIn zh94 (off := 468) (by rw [hx]; decide) (by rw [hx]; rfl) (by decide) rfl
set_option maxRecDepth 20000 in
theorem b94_0_c7 {scr : List Int32} {w : zAW} {a0 : Nat} {x1 : Int32} {x2 : Int32} {x3 : Int32} (h1 : zob w a0 5 = true) {f1 : Int32} {w1 : zAW} (h2 : zC scr 69 [.ref a0, .int (nI 0)] w = some (some (.int f1), w1)) {f2 : Int32} {w2 : zAW} (h3 : zC scr 86 [.int x2, .int (f1 + (nI 1))] w1 = some (some (.int f2), w2)) (h4 : zob w2 a0 5 = true) {f3 : Int32} {w3 : zAW} (h5 : zC scr 69 [.ref a0, .int (nI 1)] w2 = some (some (.int f3), w3)) (h6 : zob w3 a0 5 = true) {f4 : Int32} {w4 : zAW} (h7 : zC scr 69 [.ref a0, .int (nI 2)] w3 = some (some (.int f4), w4)) (h8 : zob w4 a0 5 = true) {f5 : Int32} {w5 : zAW} (h9 : zC scr 69 [.ref a0, .int (nI 3)] w4 = some (some (.int f5), w5)) (h10 : zob w5 a0 5 = true) {f6 : Int32} {w6 : zAW} (h11 : zC scr 69 [.ref a0, .int (nI 4)] w5 = some (some (.int f6), w6)) (hx : x1 = (nI 7)) : zd scr 94 0 [some (.ref a0), some (.int x1), some (.int x2), some (.int x3), none, none, none, none, none, none, none, none, none, none, none] [] w = zd scr 94 518 [some (.ref a0), some (.int x1), some (.int x2), some (.int x3), some (.int f1), some (.int f2), some (.int (f3 + f4)), some (.int (f5 + f6)), some (.int (nI 0)), some (.int (nI 1)), none, none, none, none, none] [] w6 := by
  refine Eq.trans (zd_aload_n zh94 rfl rfl) ?_
  refine Eq.trans (zd_iconst zh94 (v := (nI 0)) rfl rfl) ?_
  refine Eq.trans (zd_invVi zh94 zh69 rfl rfl ⟨Nat.le_of_ble_eq_true rfl, Nat.le_of_ble_eq_true rfl, Nat.le_of_ble_eq_true rfl, Nat.le_of_ble_eq_true rfl⟩ rfl h1 h2 rfl) ?_
  refine Eq.trans (zd_istore zh94 (ls' := [some (.ref a0), some (.int x1), some (.int x2), some (.int x3), some (.int f1), none, none, none, none, none, none, none, none, none, none]) (Nat.le_of_ble_eq_true rfl) rfl rfl) ?_
  refine Eq.trans (zd_iload_n zh94 rfl rfl) ?_
  refine Eq.trans (zd_iload zh94 rfl rfl) ?_
  refine Eq.trans (zd_iconst zh94 (v := (nI 1)) rfl rfl) ?_
  refine Eq.trans (zd_iadd zh94 rfl) ?_
  refine Eq.trans (zd_invSi zh94 zh86 rfl rfl ⟨Nat.le_of_ble_eq_true rfl, Nat.le_of_ble_eq_true rfl, Nat.le_of_ble_eq_true rfl, Or.inl (Nat.le_of_ble_eq_true rfl), Nat.le_of_ble_eq_true rfl⟩ rfl h3 rfl) ?_
  refine Eq.trans (zd_istore zh94 (ls' := [some (.ref a0), some (.int x1), some (.int x2), some (.int x3), some (.int f1), some (.int f2), none, none, none, none, none, none, none, none, none]) (Nat.le_of_ble_eq_true rfl) rfl rfl) ?_
  refine Eq.trans (zd_aload_n zh94 rfl rfl) ?_
  refine Eq.trans (zd_iconst zh94 (v := (nI 1)) rfl rfl) ?_
  refine Eq.trans (zd_invVi zh94 zh69 rfl rfl ⟨Nat.le_of_ble_eq_true rfl, Nat.le_of_ble_eq_true rfl, Nat.le_of_ble_eq_true rfl, Nat.le_of_ble_eq_true rfl⟩ rfl h4 h5 rfl) ?_
  refine Eq.trans (zd_aload_n zh94 rfl rfl) ?_
  refine Eq.trans (zd_iconst zh94 (v := (nI 2)) rfl rfl) ?_
  refine Eq.trans (zd_invVi zh94 zh69 rfl rfl ⟨Nat.le_of_ble_eq_true rfl, Nat.le_of_ble_eq_true rfl, Nat.le_of_ble_eq_true rfl, Nat.le_of_ble_eq_true rfl⟩ rfl h6 h7 rfl) ?_
  refine Eq.trans (zd_iadd zh94 rfl) ?_
  refine Eq.trans (zd_istore zh94 (ls' := [some (.ref a0), some (.int x1), some (.int x2), some (.int x3), some (.int f1), some (.int f2), some (.int (f3 + f4)), none, none, none, none, none, none, none, none]) (Nat.le_of_ble_eq_true rfl) rfl rfl) ?_
  refine Eq.trans (zd_aload_n zh94 rfl rfl) ?_
  refine Eq.trans (zd_iconst zh94 (v := (nI 3)) rfl rfl) ?_
  refine Eq.trans (zd_invVi zh94 zh69 rfl rfl ⟨Nat.le_of_ble_eq_true rfl, Nat.le_of_ble_eq_true rfl, Nat.le_of_ble_eq_true rfl, Nat.le_of_ble_eq_true rfl⟩ rfl h8 h9 rfl) ?_
  refine Eq.trans (zd_aload_n zh94 rfl rfl) ?_
  refine Eq.trans (zd_iconst zh94 (v := (nI 4)) rfl rfl) ?_
  refine Eq.trans (zd_invVi zh94 zh69 rfl rfl ⟨Nat.le_of_ble_eq_true rfl, Nat.le_of_ble_eq_true rfl, Nat.le_of_ble_eq_true rfl, Nat.le_of_ble_eq_true rfl⟩ rfl h10 h11 rfl) ?_
  refine Eq.trans (zd_iadd zh94 rfl) ?_
  refine Eq.trans (zd_istore zh94 (ls' := [some (.ref a0), some (.int x1), some (.int x2), some (.int x3), some (.int f1), some (.int f2), some (.int (f3 + f4)), some (.int (f5 + f6)), none, none, none, none, none, none, none]) (Nat.le_of_ble_eq_true rfl) rfl rfl) ?_
  refine Eq.trans (zd_iconst zh94 (v := (nI 0)) rfl rfl) ?_
  refine Eq.trans (zd_istore zh94 (ls' := [some (.ref a0), some (.int x1), some (.int x2), some (.int x3), some (.int f1), some (.int f2), some (.int (f3 + f4)), some (.int (f5 + f6)), some (.int (nI 0)), none, none, none, none, none, none]) (Nat.le_of_ble_eq_true rfl) rfl rfl) ?_
  refine Eq.trans (zd_iconst zh94 (v := (nI 1)) rfl rfl) ?_
  refine Eq.trans (zd_istore zh94 (ls' := [some (.ref a0), some (.int x1), some (.int x2), some (.int x3), some (.int f1), some (.int f2), some (.int (f3 + f4)), some (.int (f5 + f6)), some (.int (nI 0)), some (.int (nI 1)), none, none, none, none, none]) (Nat.le_of_ble_eq_true rfl) rfl rfl) ?_
  refine Eq.trans (zd_iload_n zh94 rfl rfl) ?_
  exact zd_tabIn zh94 (off := 468) (by rw [hx]; decide) (by rw [hx]; rfl) (by decide) rfl
set_option maxRecDepth 20000 in
theorem b94_0_c8 {scr : List Int32} {w : zAW} {a0 : Nat} {x1 : Int32} {x2 : Int32} {x3 : Int32} (h1 : zob w a0 5 = true) {f1 : Int32} {w1 : zAW} (h2 : zC scr 69 [.ref a0, .int (nI 0)] w = some (some (.int f1), w1)) {f2 : Int32} {w2 : zAW} (h3 : zC scr 86 [.int x2, .int (f1 + (nI 1))] w1 = some (some (.int f2), w2)) (h4 : zob w2 a0 5 = true) {f3 : Int32} {w3 : zAW} (h5 : zC scr 69 [.ref a0, .int (nI 1)] w2 = some (some (.int f3), w3)) (h6 : zob w3 a0 5 = true) {f4 : Int32} {w4 : zAW} (h7 : zC scr 69 [.ref a0, .int (nI 2)] w3 = some (some (.int f4), w4)) (h8 : zob w4 a0 5 = true) {f5 : Int32} {w5 : zAW} (h9 : zC scr 69 [.ref a0, .int (nI 3)] w4 = some (some (.int f5), w5)) (h10 : zob w5 a0 5 = true) {f6 : Int32} {w6 : zAW} (h11 : zC scr 69 [.ref a0, .int (nI 4)] w5 = some (some (.int f6), w6)) (hx : x1 = (nI 8)) : zd scr 94 0 [some (.ref a0), some (.int x1), some (.int x2), some (.int x3), none, none, none, none, none, none, none, none, none, none, none] [] w = zd scr 94 518 [some (.ref a0), some (.int x1), some (.int x2), some (.int x3), some (.int f1), some (.int f2), some (.int (f3 + f4)), some (.int (f5 + f6)), some (.int (nI 0)), some (.int (nI 1)), none, none, none, none, none] [] w6 := by
  refine Eq.trans (zd_aload_n zh94 rfl rfl) ?_
  refine Eq.trans (zd_iconst zh94 (v := (nI 0)) rfl rfl) ?_
  refine Eq.trans (zd_invVi zh94 zh69 rfl rfl ⟨Nat.le_of_ble_eq_true rfl, Nat.le_of_ble_eq_true rfl, Nat.le_of_ble_eq_true rfl, Nat.le_of_ble_eq_true rfl⟩ rfl h1 h2 rfl) ?_
  refine Eq.trans (zd_istore zh94 (ls' := [some (.ref a0), some (.int x1), some (.int x2), some (.int x3), some (.int f1), none, none, none, none, none, none, none, none, none, none]) (Nat.le_of_ble_eq_true rfl) rfl rfl) ?_
  refine Eq.trans (zd_iload_n zh94 rfl rfl) ?_
  refine Eq.trans (zd_iload zh94 rfl rfl) ?_
  refine Eq.trans (zd_iconst zh94 (v := (nI 1)) rfl rfl) ?_
  refine Eq.trans (zd_iadd zh94 rfl) ?_
  refine Eq.trans (zd_invSi zh94 zh86 rfl rfl ⟨Nat.le_of_ble_eq_true rfl, Nat.le_of_ble_eq_true rfl, Nat.le_of_ble_eq_true rfl, Or.inl (Nat.le_of_ble_eq_true rfl), Nat.le_of_ble_eq_true rfl⟩ rfl h3 rfl) ?_
  refine Eq.trans (zd_istore zh94 (ls' := [some (.ref a0), some (.int x1), some (.int x2), some (.int x3), some (.int f1), some (.int f2), none, none, none, none, none, none, none, none, none]) (Nat.le_of_ble_eq_true rfl) rfl rfl) ?_
  refine Eq.trans (zd_aload_n zh94 rfl rfl) ?_
  refine Eq.trans (zd_iconst zh94 (v := (nI 1)) rfl rfl) ?_
  refine Eq.trans (zd_invVi zh94 zh69 rfl rfl ⟨Nat.le_of_ble_eq_true rfl, Nat.le_of_ble_eq_true rfl, Nat.le_of_ble_eq_true rfl, Nat.le_of_ble_eq_true rfl⟩ rfl h4 h5 rfl) ?_
  refine Eq.trans (zd_aload_n zh94 rfl rfl) ?_
  refine Eq.trans (zd_iconst zh94 (v := (nI 2)) rfl rfl) ?_
  refine Eq.trans (zd_invVi zh94 zh69 rfl rfl ⟨Nat.le_of_ble_eq_true rfl, Nat.le_of_ble_eq_true rfl, Nat.le_of_ble_eq_true rfl, Nat.le_of_ble_eq_true rfl⟩ rfl h6 h7 rfl) ?_
  refine Eq.trans (zd_iadd zh94 rfl) ?_
  refine Eq.trans (zd_istore zh94 (ls' := [some (.ref a0), some (.int x1), some (.int x2), some (.int x3), some (.int f1), some (.int f2), some (.int (f3 + f4)), none, none, none, none, none, none, none, none]) (Nat.le_of_ble_eq_true rfl) rfl rfl) ?_
  refine Eq.trans (zd_aload_n zh94 rfl rfl) ?_
  refine Eq.trans (zd_iconst zh94 (v := (nI 3)) rfl rfl) ?_
  refine Eq.trans (zd_invVi zh94 zh69 rfl rfl ⟨Nat.le_of_ble_eq_true rfl, Nat.le_of_ble_eq_true rfl, Nat.le_of_ble_eq_true rfl, Nat.le_of_ble_eq_true rfl⟩ rfl h8 h9 rfl) ?_
  refine Eq.trans (zd_aload_n zh94 rfl rfl) ?_
  refine Eq.trans (zd_iconst zh94 (v := (nI 4)) rfl rfl) ?_
  refine Eq.trans (zd_invVi zh94 zh69 rfl rfl ⟨Nat.le_of_ble_eq_true rfl, Nat.le_of_ble_eq_true rfl, Nat.le_of_ble_eq_true rfl, Nat.le_of_ble_eq_true rfl⟩ rfl h10 h11 rfl) ?_
  refine Eq.trans (zd_iadd zh94 rfl) ?_
  refine Eq.trans (zd_istore zh94 (ls' := [some (.ref a0), some (.int x1), some (.int x2), some (.int x3), some (.int f1), some (.int f2), some (.int (f3 + f4)), some (.int (f5 + f6)), none, none, none, none, none, none, none]) (Nat.le_of_ble_eq_true rfl) rfl rfl) ?_
  refine Eq.trans (zd_iconst zh94 (v := (nI 0)) rfl rfl) ?_
  refine Eq.trans (zd_istore zh94 (ls' := [some (.ref a0), some (.int x1), some (.int x2), some (.int x3), some (.int f1), some (.int f2), some (.int (f3 + f4)), some (.int (f5 + f6)), some (.int (nI 0)), none, none, none, none, none, none]) (Nat.le_of_ble_eq_true rfl) rfl rfl) ?_
  refine Eq.trans (zd_iconst zh94 (v := (nI 1)) rfl rfl) ?_
  refine Eq.trans (zd_istore zh94 (ls' := [some (.ref a0), some (.int x1), some (.int x2), some (.int x3), some (.int f1), some (.int f2), some (.int (f3 + f4)), some (.int (f5 + f6)), some (.int (nI 0)), some (.int (nI 1)), none, none, none, none, none]) (Nat.le_of_ble_eq_true rfl) rfl rfl) ?_
  refine Eq.trans (zd_iload_n zh94 rfl rfl) ?_
  exact zd_tabIn zh94 (off := 468) (by rw [hx]; decide) (by rw [hx]; rfl) (by decide) rfl
set_option maxRecDepth 20000 in
theorem b94_0_c9 {scr : List Int32} {w : zAW} {a0 : Nat} {x1 : Int32} {x2 : Int32} {x3 : Int32} (h1 : zob w a0 5 = true) {f1 : Int32} {w1 : zAW} (h2 : zC scr 69 [.ref a0, .int (nI 0)] w = some (some (.int f1), w1)) {f2 : Int32} {w2 : zAW} (h3 : zC scr 86 [.int x2, .int (f1 + (nI 1))] w1 = some (some (.int f2), w2)) (h4 : zob w2 a0 5 = true) {f3 : Int32} {w3 : zAW} (h5 : zC scr 69 [.ref a0, .int (nI 1)] w2 = some (some (.int f3), w3)) (h6 : zob w3 a0 5 = true) {f4 : Int32} {w4 : zAW} (h7 : zC scr 69 [.ref a0, .int (nI 2)] w3 = some (some (.int f4), w4)) (h8 : zob w4 a0 5 = true) {f5 : Int32} {w5 : zAW} (h9 : zC scr 69 [.ref a0, .int (nI 3)] w4 = some (some (.int f5), w5)) (h10 : zob w5 a0 5 = true) {f6 : Int32} {w6 : zAW} (h11 : zC scr 69 [.ref a0, .int (nI 4)] w5 = some (some (.int f6), w6)) (hx : x1 = (nI 9)) : zd scr 94 0 [some (.ref a0), some (.int x1), some (.int x2), some (.int x3), none, none, none, none, none, none, none, none, none, none, none] [] w = zd scr 94 518 [some (.ref a0), some (.int x1), some (.int x2), some (.int x3), some (.int f1), some (.int f2), some (.int (f3 + f4)), some (.int (f5 + f6)), some (.int (nI 0)), some (.int (nI 1)), none, none, none, none, none] [] w6 := by
  refine Eq.trans (zd_aload_n zh94 rfl rfl) ?_
  refine Eq.trans (zd_iconst zh94 (v := (nI 0)) rfl rfl) ?_
  refine Eq.trans (zd_invVi zh94 zh69 rfl rfl ⟨Nat.le_of_ble_eq_true rfl, Nat.le_of_ble_eq_true rfl, Nat.le_of_ble_eq_true rfl, Nat.le_of_ble_eq_true rfl⟩ rfl h1 h2 rfl) ?_
  refine Eq.trans (zd_istore zh94 (ls' := [some (.ref a0), some (.int x1), some (.int x2), some (.int x3), some (.int f1), none, none, none, none, none, none, none, none, none, none]) (Nat.le_of_ble_eq_true rfl) rfl rfl) ?_
  refine Eq.trans (zd_iload_n zh94 rfl rfl) ?_
  refine Eq.trans (zd_iload zh94 rfl rfl) ?_
  refine Eq.trans (zd_iconst zh94 (v := (nI 1)) rfl rfl) ?_
  refine Eq.trans (zd_iadd zh94 rfl) ?_
  refine Eq.trans (zd_invSi zh94 zh86 rfl rfl ⟨Nat.le_of_ble_eq_true rfl, Nat.le_of_ble_eq_true rfl, Nat.le_of_ble_eq_true rfl, Or.inl (Nat.le_of_ble_eq_true rfl), Nat.le_of_ble_eq_true rfl⟩ rfl h3 rfl) ?_
  refine Eq.trans (zd_istore zh94 (ls' := [some (.ref a0), some (.int x1), some (.int x2), some (.int x3), some (.int f1), some (.int f2), none, none, none, none, none, none, none, none, none]) (Nat.le_of_ble_eq_true rfl) rfl rfl) ?_
  refine Eq.trans (zd_aload_n zh94 rfl rfl) ?_
  refine Eq.trans (zd_iconst zh94 (v := (nI 1)) rfl rfl) ?_
  refine Eq.trans (zd_invVi zh94 zh69 rfl rfl ⟨Nat.le_of_ble_eq_true rfl, Nat.le_of_ble_eq_true rfl, Nat.le_of_ble_eq_true rfl, Nat.le_of_ble_eq_true rfl⟩ rfl h4 h5 rfl) ?_
  refine Eq.trans (zd_aload_n zh94 rfl rfl) ?_
  refine Eq.trans (zd_iconst zh94 (v := (nI 2)) rfl rfl) ?_
  refine Eq.trans (zd_invVi zh94 zh69 rfl rfl ⟨Nat.le_of_ble_eq_true rfl, Nat.le_of_ble_eq_true rfl, Nat.le_of_ble_eq_true rfl, Nat.le_of_ble_eq_true rfl⟩ rfl h6 h7 rfl) ?_
  refine Eq.trans (zd_iadd zh94 rfl) ?_
  refine Eq.trans (zd_istore zh94 (ls' := [some (.ref a0), some (.int x1), some (.int x2), some (.int x3), some (.int f1), some (.int f2), some (.int (f3 + f4)), none, none, none, none, none, none, none, none]) (Nat.le_of_ble_eq_true rfl) rfl rfl) ?_
  refine Eq.trans (zd_aload_n zh94 rfl rfl) ?_
  refine Eq.trans (zd_iconst zh94 (v := (nI 3)) rfl rfl) ?_
  refine Eq.trans (zd_invVi zh94 zh69 rfl rfl ⟨Nat.le_of_ble_eq_true rfl, Nat.le_of_ble_eq_true rfl, Nat.le_of_ble_eq_true rfl, Nat.le_of_ble_eq_true rfl⟩ rfl h8 h9 rfl) ?_
  refine Eq.trans (zd_aload_n zh94 rfl rfl) ?_
  refine Eq.trans (zd_iconst zh94 (v := (nI 4)) rfl rfl) ?_
  refine Eq.trans (zd_invVi zh94 zh69 rfl rfl ⟨Nat.le_of_ble_eq_true rfl, Nat.le_of_ble_eq_true rfl, Nat.le_of_ble_eq_true rfl, Nat.le_of_ble_eq_true rfl⟩ rfl h10 h11 rfl) ?_
  refine Eq.trans (zd_iadd zh94 rfl) ?_
  refine Eq.trans (zd_istore zh94 (ls' := [some (.ref a0), some (.int x1), some (.int x2), some (.int x3), some (.int f1), some (.int f2), some (.int (f3 + f4)), some (.int (f5 + f6)), none, none, none, none, none, none, none]) (Nat.le_of_ble_eq_true rfl) rfl rfl) ?_
  refine Eq.trans (zd_iconst zh94 (v := (nI 0)) rfl rfl) ?_
  refine Eq.trans (zd_istore zh94 (ls' := [some (.ref a0), some (.int x1), some (.int x2), some (.int x3), some (.int f1), some (.int f2), some (.int (f3 + f4)), some (.int (f5 + f6)), some (.int (nI 0)), none, none, none, none, none, none]) (Nat.le_of_ble_eq_true rfl) rfl rfl) ?_
  refine Eq.trans (zd_iconst zh94 (v := (nI 1)) rfl rfl) ?_
  refine Eq.trans (zd_istore zh94 (ls' := [some (.ref a0), some (.int x1), some (.int x2), some (.int x3), some (.int f1), some (.int f2), some (.int (f3 + f4)), some (.int (f5 + f6)), some (.int (nI 0)), some (.int (nI 1)), none, none, none, none, none]) (Nat.le_of_ble_eq_true rfl) rfl rfl) ?_
  refine Eq.trans (zd_iload_n zh94 rfl rfl) ?_
  exact zd_tabIn zh94 (off := 468) (by rw [hx]; decide) (by rw [hx]; rfl) (by decide) rfl
set_option maxRecDepth 20000 in
theorem b94_0_c10 {scr : List Int32} {w : zAW} {a0 : Nat} {x1 : Int32} {x2 : Int32} {x3 : Int32} (h1 : zob w a0 5 = true) {f1 : Int32} {w1 : zAW} (h2 : zC scr 69 [.ref a0, .int (nI 0)] w = some (some (.int f1), w1)) {f2 : Int32} {w2 : zAW} (h3 : zC scr 86 [.int x2, .int (f1 + (nI 1))] w1 = some (some (.int f2), w2)) (h4 : zob w2 a0 5 = true) {f3 : Int32} {w3 : zAW} (h5 : zC scr 69 [.ref a0, .int (nI 1)] w2 = some (some (.int f3), w3)) (h6 : zob w3 a0 5 = true) {f4 : Int32} {w4 : zAW} (h7 : zC scr 69 [.ref a0, .int (nI 2)] w3 = some (some (.int f4), w4)) (h8 : zob w4 a0 5 = true) {f5 : Int32} {w5 : zAW} (h9 : zC scr 69 [.ref a0, .int (nI 3)] w4 = some (some (.int f5), w5)) (h10 : zob w5 a0 5 = true) {f6 : Int32} {w6 : zAW} (h11 : zC scr 69 [.ref a0, .int (nI 4)] w5 = some (some (.int f6), w6)) (hx : x1 = (nI 10)) : zd scr 94 0 [some (.ref a0), some (.int x1), some (.int x2), some (.int x3), none, none, none, none, none, none, none, none, none, none, none] [] w = zd scr 94 525 [some (.ref a0), some (.int x1), some (.int x2), some (.int x3), some (.int f1), some (.int f2), some (.int (f3 + f4)), some (.int (f5 + f6)), some (.int (nI 0)), some (.int (nI 1)), none, none, none, none, none] [] w6 := by
  refine Eq.trans (zd_aload_n zh94 rfl rfl) ?_
  refine Eq.trans (zd_iconst zh94 (v := (nI 0)) rfl rfl) ?_
  refine Eq.trans (zd_invVi zh94 zh69 rfl rfl ⟨Nat.le_of_ble_eq_true rfl, Nat.le_of_ble_eq_true rfl, Nat.le_of_ble_eq_true rfl, Nat.le_of_ble_eq_true rfl⟩ rfl h1 h2 rfl) ?_
  refine Eq.trans (zd_istore zh94 (ls' := [some (.ref a0), some (.int x1), some (.int x2), some (.int x3), some (.int f1), none, none, none, none, none, none, none, none, none, none]) (Nat.le_of_ble_eq_true rfl) rfl rfl) ?_
  refine Eq.trans (zd_iload_n zh94 rfl rfl) ?_
  refine Eq.trans (zd_iload zh94 rfl rfl) ?_
  refine Eq.trans (zd_iconst zh94 (v := (nI 1)) rfl rfl) ?_
  refine Eq.trans (zd_iadd zh94 rfl) ?_
  refine Eq.trans (zd_invSi zh94 zh86 rfl rfl ⟨Nat.le_of_ble_eq_true rfl, Nat.le_of_ble_eq_true rfl, Nat.le_of_ble_eq_true rfl, Or.inl (Nat.le_of_ble_eq_true rfl), Nat.le_of_ble_eq_true rfl⟩ rfl h3 rfl) ?_
  refine Eq.trans (zd_istore zh94 (ls' := [some (.ref a0), some (.int x1), some (.int x2), some (.int x3), some (.int f1), some (.int f2), none, none, none, none, none, none, none, none, none]) (Nat.le_of_ble_eq_true rfl) rfl rfl) ?_
  refine Eq.trans (zd_aload_n zh94 rfl rfl) ?_
  refine Eq.trans (zd_iconst zh94 (v := (nI 1)) rfl rfl) ?_
  refine Eq.trans (zd_invVi zh94 zh69 rfl rfl ⟨Nat.le_of_ble_eq_true rfl, Nat.le_of_ble_eq_true rfl, Nat.le_of_ble_eq_true rfl, Nat.le_of_ble_eq_true rfl⟩ rfl h4 h5 rfl) ?_
  refine Eq.trans (zd_aload_n zh94 rfl rfl) ?_
  refine Eq.trans (zd_iconst zh94 (v := (nI 2)) rfl rfl) ?_
  refine Eq.trans (zd_invVi zh94 zh69 rfl rfl ⟨Nat.le_of_ble_eq_true rfl, Nat.le_of_ble_eq_true rfl, Nat.le_of_ble_eq_true rfl, Nat.le_of_ble_eq_true rfl⟩ rfl h6 h7 rfl) ?_
  refine Eq.trans (zd_iadd zh94 rfl) ?_
  refine Eq.trans (zd_istore zh94 (ls' := [some (.ref a0), some (.int x1), some (.int x2), some (.int x3), some (.int f1), some (.int f2), some (.int (f3 + f4)), none, none, none, none, none, none, none, none]) (Nat.le_of_ble_eq_true rfl) rfl rfl) ?_
  refine Eq.trans (zd_aload_n zh94 rfl rfl) ?_
  refine Eq.trans (zd_iconst zh94 (v := (nI 3)) rfl rfl) ?_
  refine Eq.trans (zd_invVi zh94 zh69 rfl rfl ⟨Nat.le_of_ble_eq_true rfl, Nat.le_of_ble_eq_true rfl, Nat.le_of_ble_eq_true rfl, Nat.le_of_ble_eq_true rfl⟩ rfl h8 h9 rfl) ?_
  refine Eq.trans (zd_aload_n zh94 rfl rfl) ?_
  refine Eq.trans (zd_iconst zh94 (v := (nI 4)) rfl rfl) ?_
  refine Eq.trans (zd_invVi zh94 zh69 rfl rfl ⟨Nat.le_of_ble_eq_true rfl, Nat.le_of_ble_eq_true rfl, Nat.le_of_ble_eq_true rfl, Nat.le_of_ble_eq_true rfl⟩ rfl h10 h11 rfl) ?_
  refine Eq.trans (zd_iadd zh94 rfl) ?_
  refine Eq.trans (zd_istore zh94 (ls' := [some (.ref a0), some (.int x1), some (.int x2), some (.int x3), some (.int f1), some (.int f2), some (.int (f3 + f4)), some (.int (f5 + f6)), none, none, none, none, none, none, none]) (Nat.le_of_ble_eq_true rfl) rfl rfl) ?_
  refine Eq.trans (zd_iconst zh94 (v := (nI 0)) rfl rfl) ?_
  refine Eq.trans (zd_istore zh94 (ls' := [some (.ref a0), some (.int x1), some (.int x2), some (.int x3), some (.int f1), some (.int f2), some (.int (f3 + f4)), some (.int (f5 + f6)), some (.int (nI 0)), none, none, none, none, none, none]) (Nat.le_of_ble_eq_true rfl) rfl rfl) ?_
  refine Eq.trans (zd_iconst zh94 (v := (nI 1)) rfl rfl) ?_
  refine Eq.trans (zd_istore zh94 (ls' := [some (.ref a0), some (.int x1), some (.int x2), some (.int x3), some (.int f1), some (.int f2), some (.int (f3 + f4)), some (.int (f5 + f6)), some (.int (nI 0)), some (.int (nI 1)), none, none, none, none, none]) (Nat.le_of_ble_eq_true rfl) rfl rfl) ?_
  refine Eq.trans (zd_iload_n zh94 rfl rfl) ?_
  exact zd_tabIn zh94 (off := 475) (by rw [hx]; decide) (by rw [hx]; rfl) (by decide) rfl
set_option maxRecDepth 20000 in
theorem b94_0_c11 {scr : List Int32} {w : zAW} {a0 : Nat} {x1 : Int32} {x2 : Int32} {x3 : Int32} (h1 : zob w a0 5 = true) {f1 : Int32} {w1 : zAW} (h2 : zC scr 69 [.ref a0, .int (nI 0)] w = some (some (.int f1), w1)) {f2 : Int32} {w2 : zAW} (h3 : zC scr 86 [.int x2, .int (f1 + (nI 1))] w1 = some (some (.int f2), w2)) (h4 : zob w2 a0 5 = true) {f3 : Int32} {w3 : zAW} (h5 : zC scr 69 [.ref a0, .int (nI 1)] w2 = some (some (.int f3), w3)) (h6 : zob w3 a0 5 = true) {f4 : Int32} {w4 : zAW} (h7 : zC scr 69 [.ref a0, .int (nI 2)] w3 = some (some (.int f4), w4)) (h8 : zob w4 a0 5 = true) {f5 : Int32} {w5 : zAW} (h9 : zC scr 69 [.ref a0, .int (nI 3)] w4 = some (some (.int f5), w5)) (h10 : zob w5 a0 5 = true) {f6 : Int32} {w6 : zAW} (h11 : zC scr 69 [.ref a0, .int (nI 4)] w5 = some (some (.int f6), w6)) (hx : x1 = (nI 11)) : zd scr 94 0 [some (.ref a0), some (.int x1), some (.int x2), some (.int x3), none, none, none, none, none, none, none, none, none, none, none] [] w = zd scr 94 536 [some (.ref a0), some (.int x1), some (.int x2), some (.int x3), some (.int f1), some (.int f2), some (.int (f3 + f4)), some (.int (f5 + f6)), some (.int (nI 0)), some (.int (nI 1)), none, none, none, none, none] [] w6 := by
  refine Eq.trans (zd_aload_n zh94 rfl rfl) ?_
  refine Eq.trans (zd_iconst zh94 (v := (nI 0)) rfl rfl) ?_
  refine Eq.trans (zd_invVi zh94 zh69 rfl rfl ⟨Nat.le_of_ble_eq_true rfl, Nat.le_of_ble_eq_true rfl, Nat.le_of_ble_eq_true rfl, Nat.le_of_ble_eq_true rfl⟩ rfl h1 h2 rfl) ?_
  refine Eq.trans (zd_istore zh94 (ls' := [some (.ref a0), some (.int x1), some (.int x2), some (.int x3), some (.int f1), none, none, none, none, none, none, none, none, none, none]) (Nat.le_of_ble_eq_true rfl) rfl rfl) ?_
  refine Eq.trans (zd_iload_n zh94 rfl rfl) ?_
  refine Eq.trans (zd_iload zh94 rfl rfl) ?_
  refine Eq.trans (zd_iconst zh94 (v := (nI 1)) rfl rfl) ?_
  refine Eq.trans (zd_iadd zh94 rfl) ?_
  refine Eq.trans (zd_invSi zh94 zh86 rfl rfl ⟨Nat.le_of_ble_eq_true rfl, Nat.le_of_ble_eq_true rfl, Nat.le_of_ble_eq_true rfl, Or.inl (Nat.le_of_ble_eq_true rfl), Nat.le_of_ble_eq_true rfl⟩ rfl h3 rfl) ?_
  refine Eq.trans (zd_istore zh94 (ls' := [some (.ref a0), some (.int x1), some (.int x2), some (.int x3), some (.int f1), some (.int f2), none, none, none, none, none, none, none, none, none]) (Nat.le_of_ble_eq_true rfl) rfl rfl) ?_
  refine Eq.trans (zd_aload_n zh94 rfl rfl) ?_
  refine Eq.trans (zd_iconst zh94 (v := (nI 1)) rfl rfl) ?_
  refine Eq.trans (zd_invVi zh94 zh69 rfl rfl ⟨Nat.le_of_ble_eq_true rfl, Nat.le_of_ble_eq_true rfl, Nat.le_of_ble_eq_true rfl, Nat.le_of_ble_eq_true rfl⟩ rfl h4 h5 rfl) ?_
  refine Eq.trans (zd_aload_n zh94 rfl rfl) ?_
  refine Eq.trans (zd_iconst zh94 (v := (nI 2)) rfl rfl) ?_
  refine Eq.trans (zd_invVi zh94 zh69 rfl rfl ⟨Nat.le_of_ble_eq_true rfl, Nat.le_of_ble_eq_true rfl, Nat.le_of_ble_eq_true rfl, Nat.le_of_ble_eq_true rfl⟩ rfl h6 h7 rfl) ?_
  refine Eq.trans (zd_iadd zh94 rfl) ?_
  refine Eq.trans (zd_istore zh94 (ls' := [some (.ref a0), some (.int x1), some (.int x2), some (.int x3), some (.int f1), some (.int f2), some (.int (f3 + f4)), none, none, none, none, none, none, none, none]) (Nat.le_of_ble_eq_true rfl) rfl rfl) ?_
  refine Eq.trans (zd_aload_n zh94 rfl rfl) ?_
  refine Eq.trans (zd_iconst zh94 (v := (nI 3)) rfl rfl) ?_
  refine Eq.trans (zd_invVi zh94 zh69 rfl rfl ⟨Nat.le_of_ble_eq_true rfl, Nat.le_of_ble_eq_true rfl, Nat.le_of_ble_eq_true rfl, Nat.le_of_ble_eq_true rfl⟩ rfl h8 h9 rfl) ?_
  refine Eq.trans (zd_aload_n zh94 rfl rfl) ?_
  refine Eq.trans (zd_iconst zh94 (v := (nI 4)) rfl rfl) ?_
  refine Eq.trans (zd_invVi zh94 zh69 rfl rfl ⟨Nat.le_of_ble_eq_true rfl, Nat.le_of_ble_eq_true rfl, Nat.le_of_ble_eq_true rfl, Nat.le_of_ble_eq_true rfl⟩ rfl h10 h11 rfl) ?_
  refine Eq.trans (zd_iadd zh94 rfl) ?_
  refine Eq.trans (zd_istore zh94 (ls' := [some (.ref a0), some (.int x1), some (.int x2), some (.int x3), some (.int f1), some (.int f2), some (.int (f3 + f4)), some (.int (f5 + f6)), none, none, none, none, none, none, none]) (Nat.le_of_ble_eq_true rfl) rfl rfl) ?_
  refine Eq.trans (zd_iconst zh94 (v := (nI 0)) rfl rfl) ?_
  refine Eq.trans (zd_istore zh94 (ls' := [some (.ref a0), some (.int x1), some (.int x2), some (.int x3), some (.int f1), some (.int f2), some (.int (f3 + f4)), some (.int (f5 + f6)), some (.int (nI 0)), none, none, none, none, none, none]) (Nat.le_of_ble_eq_true rfl) rfl rfl) ?_
  refine Eq.trans (zd_iconst zh94 (v := (nI 1)) rfl rfl) ?_
  refine Eq.trans (zd_istore zh94 (ls' := [some (.ref a0), some (.int x1), some (.int x2), some (.int x3), some (.int f1), some (.int f2), some (.int (f3 + f4)), some (.int (f5 + f6)), some (.int (nI 0)), some (.int (nI 1)), none, none, none, none, none]) (Nat.le_of_ble_eq_true rfl) rfl rfl) ?_
  refine Eq.trans (zd_iload_n zh94 rfl rfl) ?_
  exact zd_tabIn zh94 (off := 486) (by rw [hx]; decide) (by rw [hx]; rfl) (by decide) rfl
set_option maxRecDepth 20000 in
theorem b94_0_c12 {scr : List Int32} {w : zAW} {a0 : Nat} {x1 : Int32} {x2 : Int32} {x3 : Int32} (h1 : zob w a0 5 = true) {f1 : Int32} {w1 : zAW} (h2 : zC scr 69 [.ref a0, .int (nI 0)] w = some (some (.int f1), w1)) {f2 : Int32} {w2 : zAW} (h3 : zC scr 86 [.int x2, .int (f1 + (nI 1))] w1 = some (some (.int f2), w2)) (h4 : zob w2 a0 5 = true) {f3 : Int32} {w3 : zAW} (h5 : zC scr 69 [.ref a0, .int (nI 1)] w2 = some (some (.int f3), w3)) (h6 : zob w3 a0 5 = true) {f4 : Int32} {w4 : zAW} (h7 : zC scr 69 [.ref a0, .int (nI 2)] w3 = some (some (.int f4), w4)) (h8 : zob w4 a0 5 = true) {f5 : Int32} {w5 : zAW} (h9 : zC scr 69 [.ref a0, .int (nI 3)] w4 = some (some (.int f5), w5)) (h10 : zob w5 a0 5 = true) {f6 : Int32} {w6 : zAW} (h11 : zC scr 69 [.ref a0, .int (nI 4)] w5 = some (some (.int f6), w6)) (hx : x1 = (nI 12)) : zd scr 94 0 [some (.ref a0), some (.int x1), some (.int x2), some (.int x3), none, none, none, none, none, none, none, none, none, none, none] [] w = zd scr 94 547 [some (.ref a0), some (.int x1), some (.int x2), some (.int x3), some (.int f1), some (.int f2), some (.int (f3 + f4)), some (.int (f5 + f6)), some (.int (nI 0)), some (.int (nI 1)), none, none, none, none, none] [] w6 := by
  refine Eq.trans (zd_aload_n zh94 rfl rfl) ?_
  refine Eq.trans (zd_iconst zh94 (v := (nI 0)) rfl rfl) ?_
  refine Eq.trans (zd_invVi zh94 zh69 rfl rfl ⟨Nat.le_of_ble_eq_true rfl, Nat.le_of_ble_eq_true rfl, Nat.le_of_ble_eq_true rfl, Nat.le_of_ble_eq_true rfl⟩ rfl h1 h2 rfl) ?_
  refine Eq.trans (zd_istore zh94 (ls' := [some (.ref a0), some (.int x1), some (.int x2), some (.int x3), some (.int f1), none, none, none, none, none, none, none, none, none, none]) (Nat.le_of_ble_eq_true rfl) rfl rfl) ?_
  refine Eq.trans (zd_iload_n zh94 rfl rfl) ?_
  refine Eq.trans (zd_iload zh94 rfl rfl) ?_
  refine Eq.trans (zd_iconst zh94 (v := (nI 1)) rfl rfl) ?_
  refine Eq.trans (zd_iadd zh94 rfl) ?_
  refine Eq.trans (zd_invSi zh94 zh86 rfl rfl ⟨Nat.le_of_ble_eq_true rfl, Nat.le_of_ble_eq_true rfl, Nat.le_of_ble_eq_true rfl, Or.inl (Nat.le_of_ble_eq_true rfl), Nat.le_of_ble_eq_true rfl⟩ rfl h3 rfl) ?_
  refine Eq.trans (zd_istore zh94 (ls' := [some (.ref a0), some (.int x1), some (.int x2), some (.int x3), some (.int f1), some (.int f2), none, none, none, none, none, none, none, none, none]) (Nat.le_of_ble_eq_true rfl) rfl rfl) ?_
  refine Eq.trans (zd_aload_n zh94 rfl rfl) ?_
  refine Eq.trans (zd_iconst zh94 (v := (nI 1)) rfl rfl) ?_
  refine Eq.trans (zd_invVi zh94 zh69 rfl rfl ⟨Nat.le_of_ble_eq_true rfl, Nat.le_of_ble_eq_true rfl, Nat.le_of_ble_eq_true rfl, Nat.le_of_ble_eq_true rfl⟩ rfl h4 h5 rfl) ?_
  refine Eq.trans (zd_aload_n zh94 rfl rfl) ?_
  refine Eq.trans (zd_iconst zh94 (v := (nI 2)) rfl rfl) ?_
  refine Eq.trans (zd_invVi zh94 zh69 rfl rfl ⟨Nat.le_of_ble_eq_true rfl, Nat.le_of_ble_eq_true rfl, Nat.le_of_ble_eq_true rfl, Nat.le_of_ble_eq_true rfl⟩ rfl h6 h7 rfl) ?_
  refine Eq.trans (zd_iadd zh94 rfl) ?_
  refine Eq.trans (zd_istore zh94 (ls' := [some (.ref a0), some (.int x1), some (.int x2), some (.int x3), some (.int f1), some (.int f2), some (.int (f3 + f4)), none, none, none, none, none, none, none, none]) (Nat.le_of_ble_eq_true rfl) rfl rfl) ?_
  refine Eq.trans (zd_aload_n zh94 rfl rfl) ?_
  refine Eq.trans (zd_iconst zh94 (v := (nI 3)) rfl rfl) ?_
  refine Eq.trans (zd_invVi zh94 zh69 rfl rfl ⟨Nat.le_of_ble_eq_true rfl, Nat.le_of_ble_eq_true rfl, Nat.le_of_ble_eq_true rfl, Nat.le_of_ble_eq_true rfl⟩ rfl h8 h9 rfl) ?_
  refine Eq.trans (zd_aload_n zh94 rfl rfl) ?_
  refine Eq.trans (zd_iconst zh94 (v := (nI 4)) rfl rfl) ?_
  refine Eq.trans (zd_invVi zh94 zh69 rfl rfl ⟨Nat.le_of_ble_eq_true rfl, Nat.le_of_ble_eq_true rfl, Nat.le_of_ble_eq_true rfl, Nat.le_of_ble_eq_true rfl⟩ rfl h10 h11 rfl) ?_
  refine Eq.trans (zd_iadd zh94 rfl) ?_
  refine Eq.trans (zd_istore zh94 (ls' := [some (.ref a0), some (.int x1), some (.int x2), some (.int x3), some (.int f1), some (.int f2), some (.int (f3 + f4)), some (.int (f5 + f6)), none, none, none, none, none, none, none]) (Nat.le_of_ble_eq_true rfl) rfl rfl) ?_
  refine Eq.trans (zd_iconst zh94 (v := (nI 0)) rfl rfl) ?_
  refine Eq.trans (zd_istore zh94 (ls' := [some (.ref a0), some (.int x1), some (.int x2), some (.int x3), some (.int f1), some (.int f2), some (.int (f3 + f4)), some (.int (f5 + f6)), some (.int (nI 0)), none, none, none, none, none, none]) (Nat.le_of_ble_eq_true rfl) rfl rfl) ?_
  refine Eq.trans (zd_iconst zh94 (v := (nI 1)) rfl rfl) ?_
  refine Eq.trans (zd_istore zh94 (ls' := [some (.ref a0), some (.int x1), some (.int x2), some (.int x3), some (.int f1), some (.int f2), some (.int (f3 + f4)), some (.int (f5 + f6)), some (.int (nI 0)), some (.int (nI 1)), none, none, none, none, none]) (Nat.le_of_ble_eq_true rfl) rfl rfl) ?_
  refine Eq.trans (zd_iload_n zh94 rfl rfl) ?_
  exact zd_tabIn zh94 (off := 497) (by rw [hx]; decide) (by rw [hx]; rfl) (by decide) rfl
set_option maxRecDepth 20000 in
theorem b94_0_c13 {scr : List Int32} {w : zAW} {a0 : Nat} {x1 : Int32} {x2 : Int32} {x3 : Int32} (h1 : zob w a0 5 = true) {f1 : Int32} {w1 : zAW} (h2 : zC scr 69 [.ref a0, .int (nI 0)] w = some (some (.int f1), w1)) {f2 : Int32} {w2 : zAW} (h3 : zC scr 86 [.int x2, .int (f1 + (nI 1))] w1 = some (some (.int f2), w2)) (h4 : zob w2 a0 5 = true) {f3 : Int32} {w3 : zAW} (h5 : zC scr 69 [.ref a0, .int (nI 1)] w2 = some (some (.int f3), w3)) (h6 : zob w3 a0 5 = true) {f4 : Int32} {w4 : zAW} (h7 : zC scr 69 [.ref a0, .int (nI 2)] w3 = some (some (.int f4), w4)) (h8 : zob w4 a0 5 = true) {f5 : Int32} {w5 : zAW} (h9 : zC scr 69 [.ref a0, .int (nI 3)] w4 = some (some (.int f5), w5)) (h10 : zob w5 a0 5 = true) {f6 : Int32} {w6 : zAW} (h11 : zC scr 69 [.ref a0, .int (nI 4)] w5 = some (some (.int f6), w6)) (hx : x1 = (nI 13)) : zd scr 94 0 [some (.ref a0), some (.int x1), some (.int x2), some (.int x3), none, none, none, none, none, none, none, none, none, none, none] [] w = zd scr 94 547 [some (.ref a0), some (.int x1), some (.int x2), some (.int x3), some (.int f1), some (.int f2), some (.int (f3 + f4)), some (.int (f5 + f6)), some (.int (nI 0)), some (.int (nI 1)), none, none, none, none, none] [] w6 := by
  refine Eq.trans (zd_aload_n zh94 rfl rfl) ?_
  refine Eq.trans (zd_iconst zh94 (v := (nI 0)) rfl rfl) ?_
  refine Eq.trans (zd_invVi zh94 zh69 rfl rfl ⟨Nat.le_of_ble_eq_true rfl, Nat.le_of_ble_eq_true rfl, Nat.le_of_ble_eq_true rfl, Nat.le_of_ble_eq_true rfl⟩ rfl h1 h2 rfl) ?_
  refine Eq.trans (zd_istore zh94 (ls' := [some (.ref a0), some (.int x1), some (.int x2), some (.int x3), some (.int f1), none, none, none, none, none, none, none, none, none, none]) (Nat.le_of_ble_eq_true rfl) rfl rfl) ?_
  refine Eq.trans (zd_iload_n zh94 rfl rfl) ?_
  refine Eq.trans (zd_iload zh94 rfl rfl) ?_
  refine Eq.trans (zd_iconst zh94 (v := (nI 1)) rfl rfl) ?_
  refine Eq.trans (zd_iadd zh94 rfl) ?_
  refine Eq.trans (zd_invSi zh94 zh86 rfl rfl ⟨Nat.le_of_ble_eq_true rfl, Nat.le_of_ble_eq_true rfl, Nat.le_of_ble_eq_true rfl, Or.inl (Nat.le_of_ble_eq_true rfl), Nat.le_of_ble_eq_true rfl⟩ rfl h3 rfl) ?_
  refine Eq.trans (zd_istore zh94 (ls' := [some (.ref a0), some (.int x1), some (.int x2), some (.int x3), some (.int f1), some (.int f2), none, none, none, none, none, none, none, none, none]) (Nat.le_of_ble_eq_true rfl) rfl rfl) ?_
  refine Eq.trans (zd_aload_n zh94 rfl rfl) ?_
  refine Eq.trans (zd_iconst zh94 (v := (nI 1)) rfl rfl) ?_
  refine Eq.trans (zd_invVi zh94 zh69 rfl rfl ⟨Nat.le_of_ble_eq_true rfl, Nat.le_of_ble_eq_true rfl, Nat.le_of_ble_eq_true rfl, Nat.le_of_ble_eq_true rfl⟩ rfl h4 h5 rfl) ?_
  refine Eq.trans (zd_aload_n zh94 rfl rfl) ?_
  refine Eq.trans (zd_iconst zh94 (v := (nI 2)) rfl rfl) ?_
  refine Eq.trans (zd_invVi zh94 zh69 rfl rfl ⟨Nat.le_of_ble_eq_true rfl, Nat.le_of_ble_eq_true rfl, Nat.le_of_ble_eq_true rfl, Nat.le_of_ble_eq_true rfl⟩ rfl h6 h7 rfl) ?_
  refine Eq.trans (zd_iadd zh94 rfl) ?_
  refine Eq.trans (zd_istore zh94 (ls' := [some (.ref a0), some (.int x1), some (.int x2), some (.int x3), some (.int f1), some (.int f2), some (.int (f3 + f4)), none, none, none, none, none, none, none, none]) (Nat.le_of_ble_eq_true rfl) rfl rfl) ?_
  refine Eq.trans (zd_aload_n zh94 rfl rfl) ?_
  refine Eq.trans (zd_iconst zh94 (v := (nI 3)) rfl rfl) ?_
  refine Eq.trans (zd_invVi zh94 zh69 rfl rfl ⟨Nat.le_of_ble_eq_true rfl, Nat.le_of_ble_eq_true rfl, Nat.le_of_ble_eq_true rfl, Nat.le_of_ble_eq_true rfl⟩ rfl h8 h9 rfl) ?_
  refine Eq.trans (zd_aload_n zh94 rfl rfl) ?_
  refine Eq.trans (zd_iconst zh94 (v := (nI 4)) rfl rfl) ?_
  refine Eq.trans (zd_invVi zh94 zh69 rfl rfl ⟨Nat.le_of_ble_eq_true rfl, Nat.le_of_ble_eq_true rfl, Nat.le_of_ble_eq_true rfl, Nat.le_of_ble_eq_true rfl⟩ rfl h10 h11 rfl) ?_
  refine Eq.trans (zd_iadd zh94 rfl) ?_
  refine Eq.trans (zd_istore zh94 (ls' := [some (.ref a0), some (.int x1), some (.int x2), some (.int x3), some (.int f1), some (.int f2), some (.int (f3 + f4)), some (.int (f5 + f6)), none, none, none, none, none, none, none]) (Nat.le_of_ble_eq_true rfl) rfl rfl) ?_
  refine Eq.trans (zd_iconst zh94 (v := (nI 0)) rfl rfl) ?_
  refine Eq.trans (zd_istore zh94 (ls' := [some (.ref a0), some (.int x1), some (.int x2), some (.int x3), some (.int f1), some (.int f2), some (.int (f3 + f4)), some (.int (f5 + f6)), some (.int (nI 0)), none, none, none, none, none, none]) (Nat.le_of_ble_eq_true rfl) rfl rfl) ?_
  refine Eq.trans (zd_iconst zh94 (v := (nI 1)) rfl rfl) ?_
  refine Eq.trans (zd_istore zh94 (ls' := [some (.ref a0), some (.int x1), some (.int x2), some (.int x3), some (.int f1), some (.int f2), some (.int (f3 + f4)), some (.int (f5 + f6)), some (.int (nI 0)), some (.int (nI 1)), none, none, none, none, none]) (Nat.le_of_ble_eq_true rfl) rfl rfl) ?_
  refine Eq.trans (zd_iload_n zh94 rfl rfl) ?_
  exact zd_tabIn zh94 (off := 497) (by rw [hx]; decide) (by rw [hx]; rfl) (by decide) rfl
set_option maxRecDepth 20000 in
theorem b94_0_c14 {scr : List Int32} {w : zAW} {a0 : Nat} {x1 : Int32} {x2 : Int32} {x3 : Int32} (h1 : zob w a0 5 = true) {f1 : Int32} {w1 : zAW} (h2 : zC scr 69 [.ref a0, .int (nI 0)] w = some (some (.int f1), w1)) {f2 : Int32} {w2 : zAW} (h3 : zC scr 86 [.int x2, .int (f1 + (nI 1))] w1 = some (some (.int f2), w2)) (h4 : zob w2 a0 5 = true) {f3 : Int32} {w3 : zAW} (h5 : zC scr 69 [.ref a0, .int (nI 1)] w2 = some (some (.int f3), w3)) (h6 : zob w3 a0 5 = true) {f4 : Int32} {w4 : zAW} (h7 : zC scr 69 [.ref a0, .int (nI 2)] w3 = some (some (.int f4), w4)) (h8 : zob w4 a0 5 = true) {f5 : Int32} {w5 : zAW} (h9 : zC scr 69 [.ref a0, .int (nI 3)] w4 = some (some (.int f5), w5)) (h10 : zob w5 a0 5 = true) {f6 : Int32} {w6 : zAW} (h11 : zC scr 69 [.ref a0, .int (nI 4)] w5 = some (some (.int f6), w6)) (hx : x1 = (nI 14)) : zd scr 94 0 [some (.ref a0), some (.int x1), some (.int x2), some (.int x3), none, none, none, none, none, none, none, none, none, none, none] [] w = zd scr 94 547 [some (.ref a0), some (.int x1), some (.int x2), some (.int x3), some (.int f1), some (.int f2), some (.int (f3 + f4)), some (.int (f5 + f6)), some (.int (nI 0)), some (.int (nI 1)), none, none, none, none, none] [] w6 := by
  refine Eq.trans (zd_aload_n zh94 rfl rfl) ?_
  refine Eq.trans (zd_iconst zh94 (v := (nI 0)) rfl rfl) ?_
  refine Eq.trans (zd_invVi zh94 zh69 rfl rfl ⟨Nat.le_of_ble_eq_true rfl, Nat.le_of_ble_eq_true rfl, Nat.le_of_ble_eq_true rfl, Nat.le_of_ble_eq_true rfl⟩ rfl h1 h2 rfl) ?_
  refine Eq.trans (zd_istore zh94 (ls' := [some (.ref a0), some (.int x1), some (.int x2), some (.int x3), some (.int f1), none, none, none, none, none, none, none, none, none, none]) (Nat.le_of_ble_eq_true rfl) rfl rfl) ?_
  refine Eq.trans (zd_iload_n zh94 rfl rfl) ?_
  refine Eq.trans (zd_iload zh94 rfl rfl) ?_
  refine Eq.trans (zd_iconst zh94 (v := (nI 1)) rfl rfl) ?_
  refine Eq.trans (zd_iadd zh94 rfl) ?_
  refine Eq.trans (zd_invSi zh94 zh86 rfl rfl ⟨Nat.le_of_ble_eq_true rfl, Nat.le_of_ble_eq_true rfl, Nat.le_of_ble_eq_true rfl, Or.inl (Nat.le_of_ble_eq_true rfl), Nat.le_of_ble_eq_true rfl⟩ rfl h3 rfl) ?_
  refine Eq.trans (zd_istore zh94 (ls' := [some (.ref a0), some (.int x1), some (.int x2), some (.int x3), some (.int f1), some (.int f2), none, none, none, none, none, none, none, none, none]) (Nat.le_of_ble_eq_true rfl) rfl rfl) ?_
  refine Eq.trans (zd_aload_n zh94 rfl rfl) ?_
  refine Eq.trans (zd_iconst zh94 (v := (nI 1)) rfl rfl) ?_
  refine Eq.trans (zd_invVi zh94 zh69 rfl rfl ⟨Nat.le_of_ble_eq_true rfl, Nat.le_of_ble_eq_true rfl, Nat.le_of_ble_eq_true rfl, Nat.le_of_ble_eq_true rfl⟩ rfl h4 h5 rfl) ?_
  refine Eq.trans (zd_aload_n zh94 rfl rfl) ?_
  refine Eq.trans (zd_iconst zh94 (v := (nI 2)) rfl rfl) ?_
  refine Eq.trans (zd_invVi zh94 zh69 rfl rfl ⟨Nat.le_of_ble_eq_true rfl, Nat.le_of_ble_eq_true rfl, Nat.le_of_ble_eq_true rfl, Nat.le_of_ble_eq_true rfl⟩ rfl h6 h7 rfl) ?_
  refine Eq.trans (zd_iadd zh94 rfl) ?_
  refine Eq.trans (zd_istore zh94 (ls' := [some (.ref a0), some (.int x1), some (.int x2), some (.int x3), some (.int f1), some (.int f2), some (.int (f3 + f4)), none, none, none, none, none, none, none, none]) (Nat.le_of_ble_eq_true rfl) rfl rfl) ?_
  refine Eq.trans (zd_aload_n zh94 rfl rfl) ?_
  refine Eq.trans (zd_iconst zh94 (v := (nI 3)) rfl rfl) ?_
  refine Eq.trans (zd_invVi zh94 zh69 rfl rfl ⟨Nat.le_of_ble_eq_true rfl, Nat.le_of_ble_eq_true rfl, Nat.le_of_ble_eq_true rfl, Nat.le_of_ble_eq_true rfl⟩ rfl h8 h9 rfl) ?_
  refine Eq.trans (zd_aload_n zh94 rfl rfl) ?_
  refine Eq.trans (zd_iconst zh94 (v := (nI 4)) rfl rfl) ?_
  refine Eq.trans (zd_invVi zh94 zh69 rfl rfl ⟨Nat.le_of_ble_eq_true rfl, Nat.le_of_ble_eq_true rfl, Nat.le_of_ble_eq_true rfl, Nat.le_of_ble_eq_true rfl⟩ rfl h10 h11 rfl) ?_
  refine Eq.trans (zd_iadd zh94 rfl) ?_
  refine Eq.trans (zd_istore zh94 (ls' := [some (.ref a0), some (.int x1), some (.int x2), some (.int x3), some (.int f1), some (.int f2), some (.int (f3 + f4)), some (.int (f5 + f6)), none, none, none, none, none, none, none]) (Nat.le_of_ble_eq_true rfl) rfl rfl) ?_
  refine Eq.trans (zd_iconst zh94 (v := (nI 0)) rfl rfl) ?_
  refine Eq.trans (zd_istore zh94 (ls' := [some (.ref a0), some (.int x1), some (.int x2), some (.int x3), some (.int f1), some (.int f2), some (.int (f3 + f4)), some (.int (f5 + f6)), some (.int (nI 0)), none, none, none, none, none, none]) (Nat.le_of_ble_eq_true rfl) rfl rfl) ?_
  refine Eq.trans (zd_iconst zh94 (v := (nI 1)) rfl rfl) ?_
  refine Eq.trans (zd_istore zh94 (ls' := [some (.ref a0), some (.int x1), some (.int x2), some (.int x3), some (.int f1), some (.int f2), some (.int (f3 + f4)), some (.int (f5 + f6)), some (.int (nI 0)), some (.int (nI 1)), none, none, none, none, none]) (Nat.le_of_ble_eq_true rfl) rfl rfl) ?_
  refine Eq.trans (zd_iload_n zh94 rfl rfl) ?_
  exact zd_tabIn zh94 (off := 497) (by rw [hx]; decide) (by rw [hx]; rfl) (by decide) rfl
set_option maxRecDepth 20000 in
theorem b94_0_d {scr : List Int32} {w : zAW} {a0 : Nat} {x1 : Int32} {x2 : Int32} {x3 : Int32} (h1 : zob w a0 5 = true) {f1 : Int32} {w1 : zAW} (h2 : zC scr 69 [.ref a0, .int (nI 0)] w = some (some (.int f1), w1)) {f2 : Int32} {w2 : zAW} (h3 : zC scr 86 [.int x2, .int (f1 + (nI 1))] w1 = some (some (.int f2), w2)) (h4 : zob w2 a0 5 = true) {f3 : Int32} {w3 : zAW} (h5 : zC scr 69 [.ref a0, .int (nI 1)] w2 = some (some (.int f3), w3)) (h6 : zob w3 a0 5 = true) {f4 : Int32} {w4 : zAW} (h7 : zC scr 69 [.ref a0, .int (nI 2)] w3 = some (some (.int f4), w4)) (h8 : zob w4 a0 5 = true) {f5 : Int32} {w5 : zAW} (h9 : zC scr 69 [.ref a0, .int (nI 3)] w4 = some (some (.int f5), w5)) (h10 : zob w5 a0 5 = true) {f6 : Int32} {w6 : zAW} (h11 : zC scr 69 [.ref a0, .int (nI 4)] w5 = some (some (.int f6), w6)) (hx : (x1).toInt < 0 ∨ 14 < (x1).toInt) : zd scr 94 0 [some (.ref a0), some (.int x1), some (.int x2), some (.int x3), none, none, none, none, none, none, none, none, none, none, none] [] w = zd scr 94 582 [some (.ref a0), some (.int x1), some (.int x2), some (.int x3), some (.int f1), some (.int f2), some (.int (f3 + f4)), some (.int (f5 + f6)), some (.int (nI 0)), some (.int (nI 1)), none, none, none, none, none] [] w6 := by
  refine Eq.trans (zd_aload_n zh94 rfl rfl) ?_
  refine Eq.trans (zd_iconst zh94 (v := (nI 0)) rfl rfl) ?_
  refine Eq.trans (zd_invVi zh94 zh69 rfl rfl ⟨Nat.le_of_ble_eq_true rfl, Nat.le_of_ble_eq_true rfl, Nat.le_of_ble_eq_true rfl, Nat.le_of_ble_eq_true rfl⟩ rfl h1 h2 rfl) ?_
  refine Eq.trans (zd_istore zh94 (ls' := [some (.ref a0), some (.int x1), some (.int x2), some (.int x3), some (.int f1), none, none, none, none, none, none, none, none, none, none]) (Nat.le_of_ble_eq_true rfl) rfl rfl) ?_
  refine Eq.trans (zd_iload_n zh94 rfl rfl) ?_
  refine Eq.trans (zd_iload zh94 rfl rfl) ?_
  refine Eq.trans (zd_iconst zh94 (v := (nI 1)) rfl rfl) ?_
  refine Eq.trans (zd_iadd zh94 rfl) ?_
  refine Eq.trans (zd_invSi zh94 zh86 rfl rfl ⟨Nat.le_of_ble_eq_true rfl, Nat.le_of_ble_eq_true rfl, Nat.le_of_ble_eq_true rfl, Or.inl (Nat.le_of_ble_eq_true rfl), Nat.le_of_ble_eq_true rfl⟩ rfl h3 rfl) ?_
  refine Eq.trans (zd_istore zh94 (ls' := [some (.ref a0), some (.int x1), some (.int x2), some (.int x3), some (.int f1), some (.int f2), none, none, none, none, none, none, none, none, none]) (Nat.le_of_ble_eq_true rfl) rfl rfl) ?_
  refine Eq.trans (zd_aload_n zh94 rfl rfl) ?_
  refine Eq.trans (zd_iconst zh94 (v := (nI 1)) rfl rfl) ?_
  refine Eq.trans (zd_invVi zh94 zh69 rfl rfl ⟨Nat.le_of_ble_eq_true rfl, Nat.le_of_ble_eq_true rfl, Nat.le_of_ble_eq_true rfl, Nat.le_of_ble_eq_true rfl⟩ rfl h4 h5 rfl) ?_
  refine Eq.trans (zd_aload_n zh94 rfl rfl) ?_
  refine Eq.trans (zd_iconst zh94 (v := (nI 2)) rfl rfl) ?_
  refine Eq.trans (zd_invVi zh94 zh69 rfl rfl ⟨Nat.le_of_ble_eq_true rfl, Nat.le_of_ble_eq_true rfl, Nat.le_of_ble_eq_true rfl, Nat.le_of_ble_eq_true rfl⟩ rfl h6 h7 rfl) ?_
  refine Eq.trans (zd_iadd zh94 rfl) ?_
  refine Eq.trans (zd_istore zh94 (ls' := [some (.ref a0), some (.int x1), some (.int x2), some (.int x3), some (.int f1), some (.int f2), some (.int (f3 + f4)), none, none, none, none, none, none, none, none]) (Nat.le_of_ble_eq_true rfl) rfl rfl) ?_
  refine Eq.trans (zd_aload_n zh94 rfl rfl) ?_
  refine Eq.trans (zd_iconst zh94 (v := (nI 3)) rfl rfl) ?_
  refine Eq.trans (zd_invVi zh94 zh69 rfl rfl ⟨Nat.le_of_ble_eq_true rfl, Nat.le_of_ble_eq_true rfl, Nat.le_of_ble_eq_true rfl, Nat.le_of_ble_eq_true rfl⟩ rfl h8 h9 rfl) ?_
  refine Eq.trans (zd_aload_n zh94 rfl rfl) ?_
  refine Eq.trans (zd_iconst zh94 (v := (nI 4)) rfl rfl) ?_
  refine Eq.trans (zd_invVi zh94 zh69 rfl rfl ⟨Nat.le_of_ble_eq_true rfl, Nat.le_of_ble_eq_true rfl, Nat.le_of_ble_eq_true rfl, Nat.le_of_ble_eq_true rfl⟩ rfl h10 h11 rfl) ?_
  refine Eq.trans (zd_iadd zh94 rfl) ?_
  refine Eq.trans (zd_istore zh94 (ls' := [some (.ref a0), some (.int x1), some (.int x2), some (.int x3), some (.int f1), some (.int f2), some (.int (f3 + f4)), some (.int (f5 + f6)), none, none, none, none, none, none, none]) (Nat.le_of_ble_eq_true rfl) rfl rfl) ?_
  refine Eq.trans (zd_iconst zh94 (v := (nI 0)) rfl rfl) ?_
  refine Eq.trans (zd_istore zh94 (ls' := [some (.ref a0), some (.int x1), some (.int x2), some (.int x3), some (.int f1), some (.int f2), some (.int (f3 + f4)), some (.int (f5 + f6)), some (.int (nI 0)), none, none, none, none, none, none]) (Nat.le_of_ble_eq_true rfl) rfl rfl) ?_
  refine Eq.trans (zd_iconst zh94 (v := (nI 1)) rfl rfl) ?_
  refine Eq.trans (zd_istore zh94 (ls' := [some (.ref a0), some (.int x1), some (.int x2), some (.int x3), some (.int f1), some (.int f2), some (.int (f3 + f4)), some (.int (f5 + f6)), some (.int (nI 0)), some (.int (nI 1)), none, none, none, none, none]) (Nat.le_of_ble_eq_true rfl) rfl rfl) ?_
  refine Eq.trans (zd_iload_n zh94 rfl rfl) ?_
  exact zd_tabOut zh94 hx (by decide) rfl
set_option maxRecDepth 20000 in
theorem b94_124 {scr : List Int32} {w : zAW} {a0 : Nat} {x1 : Int32} {x2 : Int32} {x3 : Int32} {x4 : Int32} {x5 : Int32} {x6 : Int32} {x7 : Int32} {x8 : Int32} {x9 : Int32} {f1 : Int32} {w1 : zAW} (h1 : zC scr 86 [.int x2, .int (nI 4)] w = some (some (.int f1), w1)) {f2 : Int32} {w2 : zAW} (h2 : zC scr 86 [.int x3, .int (nI 6)] w1 = some (some (.int f2), w2)) (h3 : zob w2 a0 5 = true) {f3 : Int32} {w3 : zAW} (h4 : zC scr 53 [.ref a0, .int f1, .int f2] w2 = some (some (.int f3), w3)) : zd scr 94 124 [some (.ref a0), some (.int x1), some (.int x2), some (.int x3), some (.int x4), some (.int x5), some (.int x6), some (.int x7), some (.int x8), some (.int x9), none, none, none, none, none] [] w = if x4 = (nI 6) then zd scr 94 146 [some (.ref a0), some (.int x1), some (.int x2), some (.int x3), some (.int x4), some (.int x5), some (.int x6), some (.int x7), some (.int x8), some (.int x9), none, none, none, none, none] [.int f3] w3 else zd scr 94 151 [some (.ref a0), some (.int x1), some (.int x2), some (.int x3), some (.int x4), some (.int x5), some (.int x6), some (.int x7), some (.int x8), some (.int x9), none, none, none, none, none] [.int f3] w3 := by
  refine Eq.trans (zd_aload_n zh94 rfl rfl) ?_
  refine Eq.trans (zd_iload_n zh94 rfl rfl) ?_
  refine Eq.trans (zd_iconst zh94 (v := (nI 4)) rfl rfl) ?_
  refine Eq.trans (zd_invSi zh94 zh86 rfl rfl ⟨Nat.le_of_ble_eq_true rfl, Nat.le_of_ble_eq_true rfl, Nat.le_of_ble_eq_true rfl, Or.inl (Nat.le_of_ble_eq_true rfl), Nat.le_of_ble_eq_true rfl⟩ rfl h1 rfl) ?_
  refine Eq.trans (zd_iload_n zh94 rfl rfl) ?_
  refine Eq.trans (zd_bipush zh94 (v := (nI 6)) rfl rfl) ?_
  refine Eq.trans (zd_invSi zh94 zh86 rfl rfl ⟨Nat.le_of_ble_eq_true rfl, Nat.le_of_ble_eq_true rfl, Nat.le_of_ble_eq_true rfl, Or.inl (Nat.le_of_ble_eq_true rfl), Nat.le_of_ble_eq_true rfl⟩ rfl h2 rfl) ?_
  refine Eq.trans (zd_invVi zh94 zh53 rfl rfl ⟨Nat.le_of_ble_eq_true rfl, Nat.le_of_ble_eq_true rfl, Nat.le_of_ble_eq_true rfl, Nat.le_of_ble_eq_true rfl⟩ rfl h3 h4 rfl) ?_
  refine Eq.trans (zd_iload zh94 rfl rfl) ?_
  refine Eq.trans (zd_bipush zh94 (v := (nI 6)) rfl rfl) ?_
  exact zd_icmpne zh94 (t := 151) (by decide) rfl
set_option maxRecDepth 20000 in
theorem b94_195 {scr : List Int32} {w : zAW} {a0 : Nat} {x1 : Int32} {x2 : Int32} {x3 : Int32} {x4 : Int32} {x5 : Int32} {x6 : Int32} {x7 : Int32} {x8 : Int32} {x9 : Int32} (h1 : zob w a0 5 = true) {f1 : Int32} {w1 : zAW} (h2 : zC scr 64 [.ref a0, .int x5, .int (nI 2)] w = some (some (.int f1), w1)) (h3 : zob w1 a0 5 = true) {f2 : Int32} {w2 : zAW} (h4 : zC scr 69 [.ref a0, .int (nI 1)] w1 = some (some (.int f2), w2)) : zd scr 94 195 [some (.ref a0), some (.int x1), some (.int x2), some (.int x3), some (.int x4), some (.int x5), some (.int x6), some (.int x7), some (.int x8), some (.int x9), none, none, none, none, none] [] w = if f1 < 0 then zd scr 94 230 [some (.ref a0), some (.int x1), some (.int x2), some (.int x3), some (.int x4), some (.int x5), some (.int x6), some (.int x7), some (.int f1), some (.int x9), some (.int f2), none, none, none, none] [] w2 else zd scr 94 216 [some (.ref a0), some (.int x1), some (.int x2), some (.int x3), some (.int x4), some (.int x5), some (.int x6), some (.int x7), some (.int f1), some (.int x9), some (.int f2), none, none, none, none] [] w2 := by
  refine Eq.trans (zd_aload_n zh94 rfl rfl) ?_
  refine Eq.trans (zd_iload zh94 rfl rfl) ?_
  refine Eq.trans (zd_iconst zh94 (v := (nI 2)) rfl rfl) ?_
  refine Eq.trans (zd_invVi zh94 zh64 rfl rfl ⟨Nat.le_of_ble_eq_true rfl, Nat.le_of_ble_eq_true rfl, Nat.le_of_ble_eq_true rfl, Nat.le_of_ble_eq_true rfl⟩ rfl h1 h2 rfl) ?_
  refine Eq.trans (zd_istore zh94 (ls' := [some (.ref a0), some (.int x1), some (.int x2), some (.int x3), some (.int x4), some (.int x5), some (.int x6), some (.int x7), some (.int f1), some (.int x9), none, none, none, none, none]) (Nat.le_of_ble_eq_true rfl) rfl rfl) ?_
  refine Eq.trans (zd_aload_n zh94 rfl rfl) ?_
  refine Eq.trans (zd_iconst zh94 (v := (nI 1)) rfl rfl) ?_
  refine Eq.trans (zd_invVi zh94 zh69 rfl rfl ⟨Nat.le_of_ble_eq_true rfl, Nat.le_of_ble_eq_true rfl, Nat.le_of_ble_eq_true rfl, Nat.le_of_ble_eq_true rfl⟩ rfl h3 h4 rfl) ?_
  refine Eq.trans (zd_istore zh94 (ls' := [some (.ref a0), some (.int x1), some (.int x2), some (.int x3), some (.int x4), some (.int x5), some (.int x6), some (.int x7), some (.int f1), some (.int x9), some (.int f2), none, none, none, none]) (Nat.le_of_ble_eq_true rfl) rfl rfl) ?_
  refine Eq.trans (zd_iload zh94 rfl rfl) ?_
  exact zd_iflt zh94 (t := 230) (by decide) rfl
set_option maxRecDepth 20000 in
theorem b94_322 {scr : List Int32} {w : zAW} {a0 : Nat} {x1 : Int32} {x2 : Int32} {x3 : Int32} {x4 : Int32} {x5 : Int32} {x6 : Int32} {x7 : Int32} {x8 : Int32} {x9 : Int32} {f1 : Int32} {w1 : zAW} (h1 : zC scr 86 [.int x3, .int (nI 6)] w = some (some (.int f1), w1)) (h2 : zob w1 a0 5 = true) {f2 : Int32} {w2 : zAW} (h3 : zC scr 55 [.ref a0, .int x5, .int f1] w1 = some (some (.int f2), w2)) : zd scr 94 322 [some (.ref a0), some (.int x1), some (.int x2), some (.int x3), some (.int x4), some (.int x5), some (.int x6), some (.int x7), some (.int x8), some (.int x9), none, none, none, none, none] [] w = if x5 = x4 then zd scr 94 343 [some (.ref a0), some (.int x1), some (.int x2), some (.int x3), some (.int x4), some (.int x5), some (.int x6), some (.int x7), some (.int x8), some (.int x9), none, none, some (.int f2), none, none] [] w2 else zd scr 94 357 [some (.ref a0), some (.int x1), some (.int x2), some (.int x3), some (.int x4), some (.int x5), some (.int x6), some (.int x7), some (.int x8), some (.int x9), none, none, some (.int f2), none, none] [] w2 := by
  refine Eq.trans (zd_aload_n zh94 rfl rfl) ?_
  refine Eq.trans (zd_iload zh94 rfl rfl) ?_
  refine Eq.trans (zd_iload_n zh94 rfl rfl) ?_
  refine Eq.trans (zd_bipush zh94 (v := (nI 6)) rfl rfl) ?_
  refine Eq.trans (zd_invSi zh94 zh86 rfl rfl ⟨Nat.le_of_ble_eq_true rfl, Nat.le_of_ble_eq_true rfl, Nat.le_of_ble_eq_true rfl, Or.inl (Nat.le_of_ble_eq_true rfl), Nat.le_of_ble_eq_true rfl⟩ rfl h1 rfl) ?_
  refine Eq.trans (zd_invVi zh94 zh55 rfl rfl ⟨Nat.le_of_ble_eq_true rfl, Nat.le_of_ble_eq_true rfl, Nat.le_of_ble_eq_true rfl, Nat.le_of_ble_eq_true rfl⟩ rfl h2 h3 rfl) ?_
  refine Eq.trans (zd_istore zh94 (ls' := [some (.ref a0), some (.int x1), some (.int x2), some (.int x3), some (.int x4), some (.int x5), some (.int x6), some (.int x7), some (.int x8), some (.int x9), none, none, some (.int f2), none, none]) (Nat.le_of_ble_eq_true rfl) rfl rfl) ?_
  refine Eq.trans (zd_iload zh94 rfl rfl) ?_
  refine Eq.trans (zd_iload zh94 rfl rfl) ?_
  exact zd_icmpne zh94 (t := 357) (by decide) rfl
set_option maxRecDepth 20000 in
theorem b94_395 {scr : List Int32} {w : zAW} {a0 : Nat} {x1 : Int32} {x2 : Int32} {x3 : Int32} {x4 : Int32} {x5 : Int32} {x6 : Int32} {x7 : Int32} {x8 : Int32} {x9 : Int32}  : zd scr 94 395 [some (.ref a0), some (.int x1), some (.int x2), some (.int x3), some (.int x4), some (.int x5), some (.int x6), some (.int x7), some (.int x8), some (.int x9), none, none, none, none, none] [] w = if (x3 &&& (nI 1)) = 0 then zd scr 94 401 [some (.ref a0), some (.int x1), some (.int x2), some (.int x3), some (.int x4), some (.int x5), some (.int x6), some (.int x7), some (.int x8), some (.int x9), none, none, none, none, none] [] w else zd scr 94 410 [some (.ref a0), some (.int x1), some (.int x2), some (.int x3), some (.int x4), some (.int x5), some (.int x6), some (.int x7), some (.int x8), some (.int x9), none, none, none, none, none] [] w := by
  refine Eq.trans (zd_iload_n zh94 rfl rfl) ?_
  refine Eq.trans (zd_iconst zh94 (v := (nI 1)) rfl rfl) ?_
  refine Eq.trans (zd_iand zh94 rfl) ?_
  exact zd_ifne zh94 (t := 410) (by decide) rfl
set_option maxRecDepth 20000 in
theorem b94_461 {scr : List Int32} {w : zAW} {a0 : Nat} {x1 : Int32} {x2 : Int32} {x3 : Int32} {x4 : Int32} {x5 : Int32} {x6 : Int32} {x7 : Int32} {x8 : Int32} {x9 : Int32} {f1 : Int32} {w1 : zAW} (h1 : zC scr 86 [.int x2, .int (nI 4)] w = some (some (.int f1), w1)) (h2 : zob w1 a0 5 = true) {f2 : Int32} {w2 : zAW} (h3 : zC scr 67 [.ref a0, .int f1] w1 = some (some (.int f2), w2)) {f3 : Int32} {w3 : zAW} (h4 : zC scr 86 [.int x2, .int (nI 4)] w2 = some (some (.int f3), w3)) {f4 : Int32} {w4 : zAW} (h5 : zC scr 86 [.int x3, .int (nI 4)] w3 = some (some (.int f4), w4)) (h6 : zob w4 a0 5 = true) {f5 : Int32} {w5 : zAW} (h7 : zC scr 58 [.ref a0, .int f3, .int f4] w4 = some (some (.int f5), w5)) : zd scr 94 461 [some (.ref a0), some (.int x1), some (.int x2), some (.int x3), some (.int x4), some (.int x5), some (.int x6), some (.int x7), some (.int x8), some (.int x9), none, none, none, none, none] [] w = if f5 = f2 then zd scr 94 491 [some (.ref a0), some (.int x1), some (.int x2), some (.int x3), some (.int x4), some (.int x5), some (.int x6), some (.int x7), some (.int f2), some (.int x9), none, none, none, none, none] [] w5 else zd scr 94 512 [some (.ref a0), some (.int x1), some (.int x2), some (.int x3), some (.int x4), some (.int x5), some (.int x6), some (.int x7), some (.int f2), some (.int x9), none, none, none, none, none] [] w5 := by
  refine Eq.trans (zd_aload_n zh94 rfl rfl) ?_
  refine Eq.trans (zd_iload_n zh94 rfl rfl) ?_
  refine Eq.trans (zd_iconst zh94 (v := (nI 4)) rfl rfl) ?_
  refine Eq.trans (zd_invSi zh94 zh86 rfl rfl ⟨Nat.le_of_ble_eq_true rfl, Nat.le_of_ble_eq_true rfl, Nat.le_of_ble_eq_true rfl, Or.inl (Nat.le_of_ble_eq_true rfl), Nat.le_of_ble_eq_true rfl⟩ rfl h1 rfl) ?_
  refine Eq.trans (zd_invVi zh94 zh67 rfl rfl ⟨Nat.le_of_ble_eq_true rfl, Nat.le_of_ble_eq_true rfl, Nat.le_of_ble_eq_true rfl, Nat.le_of_ble_eq_true rfl⟩ rfl h2 h3 rfl) ?_
  refine Eq.trans (zd_istore zh94 (ls' := [some (.ref a0), some (.int x1), some (.int x2), some (.int x3), some (.int x4), some (.int x5), some (.int x6), some (.int x7), some (.int f2), some (.int x9), none, none, none, none, none]) (Nat.le_of_ble_eq_true rfl) rfl rfl) ?_
  refine Eq.trans (zd_aload_n zh94 rfl rfl) ?_
  refine Eq.trans (zd_iload_n zh94 rfl rfl) ?_
  refine Eq.trans (zd_iconst zh94 (v := (nI 4)) rfl rfl) ?_
  refine Eq.trans (zd_invSi zh94 zh86 rfl rfl ⟨Nat.le_of_ble_eq_true rfl, Nat.le_of_ble_eq_true rfl, Nat.le_of_ble_eq_true rfl, Or.inl (Nat.le_of_ble_eq_true rfl), Nat.le_of_ble_eq_true rfl⟩ rfl h4 rfl) ?_
  refine Eq.trans (zd_iload_n zh94 rfl rfl) ?_
  refine Eq.trans (zd_iconst zh94 (v := (nI 4)) rfl rfl) ?_
  refine Eq.trans (zd_invSi zh94 zh86 rfl rfl ⟨Nat.le_of_ble_eq_true rfl, Nat.le_of_ble_eq_true rfl, Nat.le_of_ble_eq_true rfl, Or.inl (Nat.le_of_ble_eq_true rfl), Nat.le_of_ble_eq_true rfl⟩ rfl h5 rfl) ?_
  refine Eq.trans (zd_invVi zh94 zh58 rfl rfl ⟨Nat.le_of_ble_eq_true rfl, Nat.le_of_ble_eq_true rfl, Nat.le_of_ble_eq_true rfl, Nat.le_of_ble_eq_true rfl⟩ rfl h6 h7 rfl) ?_
  refine Eq.trans (zd_iload zh94 rfl rfl) ?_
  exact zd_icmpne zh94 (t := 512) (by decide) rfl
set_option maxRecDepth 20000 in
theorem b94_518 {scr : List Int32} {w : zAW} {a0 : Nat} {x1 : Int32} {x2 : Int32} {x3 : Int32} {x4 : Int32} {x5 : Int32} {x6 : Int32} {x7 : Int32} {x8 : Int32} {x9 : Int32} {f1 : Int32} {w1 : zAW} (h1 : zC scr 87 [.ref a0, .int x2, .int x3] w = some (some (.int f1), w1)) (h2 : zrok (some .boolean) f1 = true) : zd scr 94 518 [some (.ref a0), some (.int x1), some (.int x2), some (.int x3), some (.int x4), some (.int x5), some (.int x6), some (.int x7), some (.int x8), some (.int x9), none, none, none, none, none] [] w = some (some (.int f1), w1) := by
  refine Eq.trans (zd_aload_n zh94 rfl rfl) ?_
  refine Eq.trans (zd_iload_n zh94 rfl rfl) ?_
  refine Eq.trans (zd_iload_n zh94 rfl rfl) ?_
  refine Eq.trans (zd_invSi zh94 zh87 rfl rfl ⟨Nat.le_of_ble_eq_true rfl, Nat.le_of_ble_eq_true rfl, Nat.le_of_ble_eq_true rfl, Or.inl (Nat.le_of_ble_eq_true rfl), Nat.le_of_ble_eq_true rfl⟩ rfl h1 rfl) ?_
  exact zd_iret zh94 h2 rfl
set_option maxRecDepth 20000 in
theorem b94_525 {scr : List Int32} {w : zAW} {a0 : Nat} {x1 : Int32} {x2 : Int32} {x3 : Int32} {x4 : Int32} {x5 : Int32} {x6 : Int32} {x7 : Int32} {x8 : Int32} {x9 : Int32} {f1 : Int32} {w1 : zAW} (h1 : zC scr 88 [.ref a0, .int x4] w = some (some (.int f1), w1)) : zd scr 94 525 [some (.ref a0), some (.int x1), some (.int x2), some (.int x3), some (.int x4), some (.int x5), some (.int x6), some (.int x7), some (.int x8), some (.int x9), none, none, none, none, none] [] w = if f1 = 0 then zd scr 94 705 [some (.ref a0), some (.int x1), some (.int x2), some (.int x3), some (.int x4), some (.int x5), some (.int x6), some (.int x7), some (.int x8), some (.int f1), none, none, none, none, none] [] w1 else zd scr 94 669 [some (.ref a0), some (.int x1), some (.int x2), some (.int x3), some (.int x4), some (.int x5), some (.int x6), some (.int x7), some (.int x8), some (.int f1), none, none, none, none, none] [] w1 := by
  refine Eq.trans (zd_aload_n zh94 rfl rfl) ?_
  refine Eq.trans (zd_iload zh94 rfl rfl) ?_
  refine Eq.trans (zd_invSi zh94 zh88 rfl rfl ⟨Nat.le_of_ble_eq_true rfl, Nat.le_of_ble_eq_true rfl, Nat.le_of_ble_eq_true rfl, Or.inl (Nat.le_of_ble_eq_true rfl), Nat.le_of_ble_eq_true rfl⟩ rfl h1 rfl) ?_
  refine Eq.trans (zd_istore zh94 (ls' := [some (.ref a0), some (.int x1), some (.int x2), some (.int x3), some (.int x4), some (.int x5), some (.int x6), some (.int x7), some (.int x8), some (.int f1), none, none, none, none, none]) (Nat.le_of_ble_eq_true rfl) rfl rfl) ?_
  refine Eq.trans (zd_goto zh94 (t := 664) (by decide) rfl) ?_
  refine Eq.trans (zd_iload zh94 rfl rfl) ?_
  exact zd_ifeq zh94 (t := 705) (by decide) rfl
set_option maxRecDepth 20000 in
theorem b94_536 {scr : List Int32} {w : zAW} {a0 : Nat} {x1 : Int32} {x2 : Int32} {x3 : Int32} {x4 : Int32} {x5 : Int32} {x6 : Int32} {x7 : Int32} {x8 : Int32} {x9 : Int32} {f1 : Int32} {w1 : zAW} (h1 : zC scr 89 [.ref a0, .int x4] w = some (some (.int f1), w1)) : zd scr 94 536 [some (.ref a0), some (.int x1), some (.int x2), some (.int x3), some (.int x4), some (.int x5), some (.int x6), some (.int x7), some (.int x8), some (.int x9), none, none, none, none, none] [] w = if f1 = 0 then zd scr 94 705 [some (.ref a0), some (.int x1), some (.int x2), some (.int x3), some (.int x4), some (.int x5), some (.int x6), some (.int x7), some (.int x8), some (.int f1), none, none, none, none, none] [] w1 else zd scr 94 669 [some (.ref a0), some (.int x1), some (.int x2), some (.int x3), some (.int x4), some (.int x5), some (.int x6), some (.int x7), some (.int x8), some (.int f1), none, none, none, none, none] [] w1 := by
  refine Eq.trans (zd_aload_n zh94 rfl rfl) ?_
  refine Eq.trans (zd_iload zh94 rfl rfl) ?_
  refine Eq.trans (zd_invSi zh94 zh89 rfl rfl ⟨Nat.le_of_ble_eq_true rfl, Nat.le_of_ble_eq_true rfl, Nat.le_of_ble_eq_true rfl, Or.inl (Nat.le_of_ble_eq_true rfl), Nat.le_of_ble_eq_true rfl⟩ rfl h1 rfl) ?_
  refine Eq.trans (zd_istore zh94 (ls' := [some (.ref a0), some (.int x1), some (.int x2), some (.int x3), some (.int x4), some (.int x5), some (.int x6), some (.int x7), some (.int x8), some (.int f1), none, none, none, none, none]) (Nat.le_of_ble_eq_true rfl) rfl rfl) ?_
  refine Eq.trans (zd_goto zh94 (t := 664) (by decide) rfl) ?_
  refine Eq.trans (zd_iload zh94 rfl rfl) ?_
  exact zd_ifeq zh94 (t := 705) (by decide) rfl
set_option maxRecDepth 20000 in
theorem b94_547 {scr : List Int32} {w : zAW} {a0 : Nat} {x1 : Int32} {x2 : Int32} {x3 : Int32} {x4 : Int32} {x5 : Int32} {x6 : Int32} {x7 : Int32} {x8 : Int32} {x9 : Int32} {f1 : Int32} {w1 : zAW} (h1 : zC scr 86 [.int (x2 >>> ((nI 5) &&& 31)), .int (nI 9)] w = some (some (.int f1), w1)) {f2 : Int32} {w2 : zAW} (h2 : zC scr 86 [.int x3, .int (x4 + (nI 1))] w1 = some (some (.int f2), w2)) {f3 : Int32} {w3 : zAW} (h3 : zC scr 86 [.int (x3 >>> ((nI 5) &&& 31)), .int (nI 9)] w2 = some (some (.int f3), w3)) {f4 : Int32} {w4 : zAW} (h4 : zC scr 90 [.ref a0, .int x5, .int f1, .int f2, .int f3] w3 = some (some (.int f4), w4)) : zd scr 94 547 [some (.ref a0), some (.int x1), some (.int x2), some (.int x3), some (.int x4), some (.int x5), some (.int x6), some (.int x7), some (.int x8), some (.int x9), none, none, none, none, none] [] w = if f4 = 0 then zd scr 94 705 [some (.ref a0), some (.int x1), some (.int x2), some (.int x3), some (.int x4), some (.int x5), some (.int x6), some (.int x7), some (.int x8), some (.int f4), none, none, none, none, none] [] w4 else zd scr 94 669 [some (.ref a0), some (.int x1), some (.int x2), some (.int x3), some (.int x4), some (.int x5), some (.int x6), some (.int x7), some (.int x8), some (.int f4), none, none, none, none, none] [] w4 := by
  refine Eq.trans (zd_aload_n zh94 rfl rfl) ?_
  refine Eq.trans (zd_iload zh94 rfl rfl) ?_
  refine Eq.trans (zd_iload_n zh94 rfl rfl) ?_
  refine Eq.trans (zd_iconst zh94 (v := (nI 5)) rfl rfl) ?_
  refine Eq.trans (zd_ishr zh94 rfl) ?_
  refine Eq.trans (zd_bipush zh94 (v := (nI 9)) rfl rfl) ?_
  refine Eq.trans (zd_invSi zh94 zh86 rfl rfl ⟨Nat.le_of_ble_eq_true rfl, Nat.le_of_ble_eq_true rfl, Nat.le_of_ble_eq_true rfl, Or.inl (Nat.le_of_ble_eq_true rfl), Nat.le_of_ble_eq_true rfl⟩ rfl h1 rfl) ?_
  refine Eq.trans (zd_iload_n zh94 rfl rfl) ?_
  refine Eq.trans (zd_iload zh94 rfl rfl) ?_
  refine Eq.trans (zd_iconst zh94 (v := (nI 1)) rfl rfl) ?_
  refine Eq.trans (zd_iadd zh94 rfl) ?_
  refine Eq.trans (zd_invSi zh94 zh86 rfl rfl ⟨Nat.le_of_ble_eq_true rfl, Nat.le_of_ble_eq_true rfl, Nat.le_of_ble_eq_true rfl, Or.inl (Nat.le_of_ble_eq_true rfl), Nat.le_of_ble_eq_true rfl⟩ rfl h2 rfl) ?_
  refine Eq.trans (zd_iload_n zh94 rfl rfl) ?_
  refine Eq.trans (zd_iconst zh94 (v := (nI 5)) rfl rfl) ?_
  refine Eq.trans (zd_ishr zh94 rfl) ?_
  refine Eq.trans (zd_bipush zh94 (v := (nI 9)) rfl rfl) ?_
  refine Eq.trans (zd_invSi zh94 zh86 rfl rfl ⟨Nat.le_of_ble_eq_true rfl, Nat.le_of_ble_eq_true rfl, Nat.le_of_ble_eq_true rfl, Or.inl (Nat.le_of_ble_eq_true rfl), Nat.le_of_ble_eq_true rfl⟩ rfl h3 rfl) ?_
  refine Eq.trans (zd_invSi zh94 zh90 rfl rfl ⟨Nat.le_of_ble_eq_true rfl, Nat.le_of_ble_eq_true rfl, Nat.le_of_ble_eq_true rfl, Or.inl (Nat.le_of_ble_eq_true rfl), Nat.le_of_ble_eq_true rfl⟩ rfl h4 rfl) ?_
  refine Eq.trans (zd_istore zh94 (ls' := [some (.ref a0), some (.int x1), some (.int x2), some (.int x3), some (.int x4), some (.int x5), some (.int x6), some (.int x7), some (.int x8), some (.int f4), none, none, none, none, none]) (Nat.le_of_ble_eq_true rfl) rfl rfl) ?_
  refine Eq.trans (zd_goto zh94 (t := 664) (by decide) rfl) ?_
  refine Eq.trans (zd_iload zh94 rfl rfl) ?_
  exact zd_ifeq zh94 (t := 705) (by decide) rfl
set_option maxRecDepth 20000 in
theorem b94_582 {scr : List Int32} {w : zAW} {a0 : Nat} {x1 : Int32} {x2 : Int32} {x3 : Int32} {x4 : Int32} {x5 : Int32} {x6 : Int32} {x7 : Int32} {x8 : Int32} {x9 : Int32} (h1 : zob w a0 5 = true) {f1 : Int32} {w1 : zAW} (h2 : zC scr 69 [.ref a0, .int (nI 6)] w = some (some (.int f1), w1)) (h3 : zob w1 a0 5 = true) {f2 : Int32} {w2 : zAW} (h4 : zC scr 69 [.ref a0, .int (nI 8)] w1 = some (some (.int f2), w2)) (h5 : zob w2 a0 5 = true) {f3 : Int32} {w3 : zAW} (h6 : zC scr 63 [.ref a0] w2 = some (some (.int f3), w3)) : zd scr 94 582 [some (.ref a0), some (.int x1), some (.int x2), some (.int x3), some (.int x4), some (.int x5), some (.int x6), some (.int x7), some (.int x8), some (.int x9), none, none, none, none, none] [] w = if f3 < 0 then zd scr 94 661 [some (.ref a0), some (.int x1), some (.int x2), some (.int x3), some (.int x4), some (.int x5), some (.int x6), some (.int x7), some (.int f1), some (.int x9), none, none, none, some (.int f2), some (.int f3)] [] w3 else zd scr 94 609 [some (.ref a0), some (.int x1), some (.int x2), some (.int x3), some (.int x4), some (.int x5), some (.int x6), some (.int x7), some (.int f1), some (.int x9), none, none, none, some (.int f2), some (.int f3)] [] w3 := by
  refine Eq.trans (zd_aload_n zh94 rfl rfl) ?_
  refine Eq.trans (zd_bipush zh94 (v := (nI 6)) rfl rfl) ?_
  refine Eq.trans (zd_invVi zh94 zh69 rfl rfl ⟨Nat.le_of_ble_eq_true rfl, Nat.le_of_ble_eq_true rfl, Nat.le_of_ble_eq_true rfl, Nat.le_of_ble_eq_true rfl⟩ rfl h1 h2 rfl) ?_
  refine Eq.trans (zd_istore zh94 (ls' := [some (.ref a0), some (.int x1), some (.int x2), some (.int x3), some (.int x4), some (.int x5), some (.int x6), some (.int x7), some (.int f1), some (.int x9), none, none, none, none, none]) (Nat.le_of_ble_eq_true rfl) rfl rfl) ?_
  refine Eq.trans (zd_aload_n zh94 rfl rfl) ?_
  refine Eq.trans (zd_bipush zh94 (v := (nI 8)) rfl rfl) ?_
  refine Eq.trans (zd_invVi zh94 zh69 rfl rfl ⟨Nat.le_of_ble_eq_true rfl, Nat.le_of_ble_eq_true rfl, Nat.le_of_ble_eq_true rfl, Nat.le_of_ble_eq_true rfl⟩ rfl h3 h4 rfl) ?_
  refine Eq.trans (zd_istore zh94 (ls' := [some (.ref a0), some (.int x1), some (.int x2), some (.int x3), some (.int x4), some (.int x5), some (.int x6), some (.int x7), some (.int f1), some (.int x9), none, none, none, some (.int f2), none]) (Nat.le_of_ble_eq_true rfl) rfl rfl) ?_
  refine Eq.trans (zd_aload_n zh94 rfl rfl) ?_
  refine Eq.trans (zd_invVi zh94 zh63 rfl rfl ⟨Nat.le_of_ble_eq_true rfl, Nat.le_of_ble_eq_true rfl, Nat.le_of_ble_eq_true rfl, Nat.le_of_ble_eq_true rfl⟩ rfl h5 h6 rfl) ?_
  refine Eq.trans (zd_istore zh94 (ls' := [some (.ref a0), some (.int x1), some (.int x2), some (.int x3), some (.int x4), some (.int x5), some (.int x6), some (.int x7), some (.int f1), some (.int x9), none, none, none, some (.int f2), some (.int f3)]) (Nat.le_of_ble_eq_true rfl) rfl rfl) ?_
  refine Eq.trans (zd_iload zh94 rfl rfl) ?_
  exact zd_iflt zh94 (t := 661) (by decide) rfl
set_option maxRecDepth 20000 in
theorem b94_146 {scr : List Int32} {w : zAW} {a0 : Nat} {x1 : Int32} {x2 : Int32} {x3 : Int32} {x4 : Int32} {x5 : Int32} {x6 : Int32} {x7 : Int32} {x8 : Int32} {x9 : Int32} {y0 : Int32}  : zd scr 94 146 [some (.ref a0), some (.int x1), some (.int x2), some (.int x3), some (.int x4), some (.int x5), some (.int x6), some (.int x7), some (.int x8), some (.int x9), none, none, none, none, none] [.int y0] w = if y0 = (-4) then zd scr 94 156 [some (.ref a0), some (.int x1), some (.int x2), some (.int x3), some (.int x4), some (.int x5), some (.int x6), some (.int x7), some (.int x8), some (.int x9), none, none, none, none, none] [] w else zd scr 94 189 [some (.ref a0), some (.int x1), some (.int x2), some (.int x3), some (.int x4), some (.int x5), some (.int x6), some (.int x7), some (.int x8), some (.int x9), none, none, none, none, none] [] w := by
  refine Eq.trans (zd_bipush zh94 (v := (-4)) rfl rfl) ?_
  refine Eq.trans (zd_goto zh94 (t := 153) (by decide) rfl) ?_
  exact zd_icmpne zh94 (t := 189) (by decide) rfl
set_option maxRecDepth 20000 in
theorem b94_151 {scr : List Int32} {w : zAW} {a0 : Nat} {x1 : Int32} {x2 : Int32} {x3 : Int32} {x4 : Int32} {x5 : Int32} {x6 : Int32} {x7 : Int32} {x8 : Int32} {x9 : Int32} {y0 : Int32}  : zd scr 94 151 [some (.ref a0), some (.int x1), some (.int x2), some (.int x3), some (.int x4), some (.int x5), some (.int x6), some (.int x7), some (.int x8), some (.int x9), none, none, none, none, none] [.int y0] w = if y0 = x4 then zd scr 94 156 [some (.ref a0), some (.int x1), some (.int x2), some (.int x3), some (.int x4), some (.int x5), some (.int x6), some (.int x7), some (.int x8), some (.int x9), none, none, none, none, none] [] w else zd scr 94 189 [some (.ref a0), some (.int x1), some (.int x2), some (.int x3), some (.int x4), some (.int x5), some (.int x6), some (.int x7), some (.int x8), some (.int x9), none, none, none, none, none] [] w := by
  refine Eq.trans (zd_iload zh94 rfl rfl) ?_
  exact zd_icmpne zh94 (t := 189) (by decide) rfl
set_option maxRecDepth 20000 in
theorem b94_230 {scr : List Int32} {w : zAW} {a0 : Nat} {x1 : Int32} {x2 : Int32} {x3 : Int32} {x4 : Int32} {x5 : Int32} {x6 : Int32} {x7 : Int32} {x8 : Int32} {x9 : Int32} {x10 : Int32}  : zd scr 94 230 [some (.ref a0), some (.int x1), some (.int x2), some (.int x3), some (.int x4), some (.int x5), some (.int x6), some (.int x7), some (.int x8), some (.int x9), some (.int x10), none, none, none, none] [] w = if (x3 &&& (nI 3)) = 0 then zd scr 94 239 [some (.ref a0), some (.int x1), some (.int x2), some (.int x3), some (.int x4), some (.int x5), some (.int x6), some (.int x7), some (.int x8), some (.int x9), some (.int x10), some (.int (nI 0)), none, none, none] [] w else zd scr 94 312 [some (.ref a0), some (.int x1), some (.int x2), some (.int x3), some (.int x4), some (.int x5), some (.int x6), some (.int x7), some (.int x8), some (.int x9), some (.int x10), some (.int (nI 0)), none, none, none] [] w := by
  refine Eq.trans (zd_iconst zh94 (v := (nI 0)) rfl rfl) ?_
  refine Eq.trans (zd_istore zh94 (ls' := [some (.ref a0), some (.int x1), some (.int x2), some (.int x3), some (.int x4), some (.int x5), some (.int x6), some (.int x7), some (.int x8), some (.int x9), some (.int x10), some (.int (nI 0)), none, none, none]) (Nat.le_of_ble_eq_true rfl) rfl rfl) ?_
  refine Eq.trans (zd_iload_n zh94 rfl rfl) ?_
  refine Eq.trans (zd_iconst zh94 (v := (nI 3)) rfl rfl) ?_
  refine Eq.trans (zd_iand zh94 rfl) ?_
  exact zd_ifne zh94 (t := 312) (by decide) rfl
set_option maxRecDepth 20000 in
theorem b94_216 {scr : List Int32} {w : zAW} {a0 : Nat} {x1 : Int32} {x2 : Int32} {x3 : Int32} {x4 : Int32} {x5 : Int32} {x6 : Int32} {x7 : Int32} {x8 : Int32} {x9 : Int32} {x10 : Int32}  : zd scr 94 216 [some (.ref a0), some (.int x1), some (.int x2), some (.int x3), some (.int x4), some (.int x5), some (.int x6), some (.int x7), some (.int x8), some (.int x9), some (.int x10), none, none, none, none] [] w = if (x10 + x8) ≤ (nI 40) then zd scr 94 226 [some (.ref a0), some (.int x1), some (.int x2), some (.int x3), some (.int x4), some (.int x5), some (.int x6), some (.int x7), some (.int x8), some (.int x9), some (.int x10), none, none, none, none] [] w else zd scr 94 230 [some (.ref a0), some (.int x1), some (.int x2), some (.int x3), some (.int x4), some (.int x5), some (.int x6), some (.int x7), some (.int x8), some (.int x9), some (.int x10), none, none, none, none] [] w := by
  refine Eq.trans (zd_iload zh94 rfl rfl) ?_
  refine Eq.trans (zd_iload zh94 rfl rfl) ?_
  refine Eq.trans (zd_iadd zh94 rfl) ?_
  refine Eq.trans (zd_bipush zh94 (v := (nI 40)) rfl rfl) ?_
  exact zd_icmpgt zh94 (t := 230) (by decide) rfl
set_option maxRecDepth 20000 in
theorem b94_343 {scr : List Int32} {w : zAW} {a0 : Nat} {x1 : Int32} {x2 : Int32} {x3 : Int32} {x4 : Int32} {x5 : Int32} {x6 : Int32} {x7 : Int32} {x8 : Int32} {x9 : Int32} {x12 : Int32}  : zd scr 94 343 [some (.ref a0), some (.int x1), some (.int x2), some (.int x3), some (.int x4), some (.int x5), some (.int x6), some (.int x7), some (.int x8), some (.int x9), none, none, some (.int x12), none, none] [] w = if x12 = (-1) then zd scr 94 349 [some (.ref a0), some (.int x1), some (.int x2), some (.int x3), some (.int x4), some (.int x5), some (.int x6), some (.int x7), some (.int x8), some (.int x9), none, none, some (.int x12), none, none] [] w else zd scr 94 353 [some (.ref a0), some (.int x1), some (.int x2), some (.int x3), some (.int x4), some (.int x5), some (.int x6), some (.int x7), some (.int x8), some (.int x9), none, none, some (.int x12), none, none] [] w := by
  refine Eq.trans (zd_iload zh94 rfl rfl) ?_
  refine Eq.trans (zd_iconst zh94 (v := (-1)) rfl rfl) ?_
  exact zd_icmpne zh94 (t := 353) (by decide) rfl
set_option maxRecDepth 20000 in
theorem b94_357 {scr : List Int32} {w : zAW} {a0 : Nat} {x1 : Int32} {x2 : Int32} {x3 : Int32} {x4 : Int32} {x5 : Int32} {x6 : Int32} {x7 : Int32} {x8 : Int32} {x9 : Int32} {x12 : Int32} (h1 : zob w a0 5 = true) {f1 : Int32} {w1 : zAW} (h2 : zC scr 64 [.ref a0, .int x5, .int (nI 4)] w = some (some (.int f1), w1)) : zd scr 94 357 [some (.ref a0), some (.int x1), some (.int x2), some (.int x3), some (.int x4), some (.int x5), some (.int x6), some (.int x7), some (.int x8), some (.int x9), none, none, some (.int x12), none, none] [] w = if x12 = f1 then zd scr 94 369 [some (.ref a0), some (.int x1), some (.int x2), some (.int x3), some (.int x4), some (.int x5), some (.int x6), some (.int x7), some (.int x8), some (.int x9), none, none, some (.int x12), none, none] [] w1 else zd scr 94 389 [some (.ref a0), some (.int x1), some (.int x2), some (.int x3), some (.int x4), some (.int x5), some (.int x6), some (.int x7), some (.int x8), some (.int x9), none, none, some (.int x12), none, none] [] w1 := by
  refine Eq.trans (zd_iload zh94 rfl rfl) ?_
  refine Eq.trans (zd_aload_n zh94 rfl rfl) ?_
  refine Eq.trans (zd_iload zh94 rfl rfl) ?_
  refine Eq.trans (zd_iconst zh94 (v := (nI 4)) rfl rfl) ?_
  refine Eq.trans (zd_invVi zh94 zh64 rfl rfl ⟨Nat.le_of_ble_eq_true rfl, Nat.le_of_ble_eq_true rfl, Nat.le_of_ble_eq_true rfl, Nat.le_of_ble_eq_true rfl⟩ rfl h1 h2 rfl) ?_
  exact zd_icmpne zh94 (t := 389) (by decide) rfl
set_option maxRecDepth 20000 in
theorem b94_401 {scr : List Int32} {w : zAW} {a0 : Nat} {x1 : Int32} {x2 : Int32} {x3 : Int32} {x4 : Int32} {x5 : Int32} {x6 : Int32} {x7 : Int32} {x8 : Int32} {x9 : Int32} (h1 : zob w a0 5 = true) {f1 : Int32} {w1 : zAW} (h2 : zC scr 69 [.ref a0, .int (nI 11)] w = some (some (.int f1), w1)) : zd scr 94 401 [some (.ref a0), some (.int x1), some (.int x2), some (.int x3), some (.int x4), some (.int x5), some (.int x6), some (.int x7), some (.int x8), some (.int x9), none, none, none, none, none] [] w = if (x3 &&& (nI 1)) = 0 then zd scr 94 424 [some (.ref a0), some (.int x1), some (.int x2), some (.int x3), some (.int x4), some (.int x5), some (.int x6), some (.int x7), some (.int f1), some (.int x9), none, none, none, none, none] [] w1 else zd scr 94 436 [some (.ref a0), some (.int x1), some (.int x2), some (.int x3), some (.int x4), some (.int x5), some (.int x6), some (.int x7), some (.int f1), some (.int x9), none, none, none, none, none] [] w1 := by
  refine Eq.trans (zd_aload_n zh94 rfl rfl) ?_
  refine Eq.trans (zd_bipush zh94 (v := (nI 11)) rfl rfl) ?_
  refine Eq.trans (zd_invVi zh94 zh69 rfl rfl ⟨Nat.le_of_ble_eq_true rfl, Nat.le_of_ble_eq_true rfl, Nat.le_of_ble_eq_true rfl, Nat.le_of_ble_eq_true rfl⟩ rfl h1 h2 rfl) ?_
  refine Eq.trans (zd_goto zh94 (t := 416) (by decide) rfl) ?_
  refine Eq.trans (zd_istore zh94 (ls' := [some (.ref a0), some (.int x1), some (.int x2), some (.int x3), some (.int x4), some (.int x5), some (.int x6), some (.int x7), some (.int f1), some (.int x9), none, none, none, none, none]) (Nat.le_of_ble_eq_true rfl) rfl rfl) ?_
  refine Eq.trans (zd_iload_n zh94 rfl rfl) ?_
  refine Eq.trans (zd_iconst zh94 (v := (nI 1)) rfl rfl) ?_
  refine Eq.trans (zd_iand zh94 rfl) ?_
  exact zd_ifne zh94 (t := 436) (by decide) rfl
set_option maxRecDepth 20000 in
theorem b94_410 {scr : List Int32} {w : zAW} {a0 : Nat} {x1 : Int32} {x2 : Int32} {x3 : Int32} {x4 : Int32} {x5 : Int32} {x6 : Int32} {x7 : Int32} {x8 : Int32} {x9 : Int32} (h1 : zob w a0 5 = true) {f1 : Int32} {w1 : zAW} (h2 : zC scr 69 [.ref a0, .int (nI 12)] w = some (some (.int f1), w1)) : zd scr 94 410 [some (.ref a0), some (.int x1), some (.int x2), some (.int x3), some (.int x4), some (.int x5), some (.int x6), some (.int x7), some (.int x8), some (.int x9), none, none, none, none, none] [] w = if (x3 &&& (nI 1)) = 0 then zd scr 94 424 [some (.ref a0), some (.int x1), some (.int x2), some (.int x3), some (.int x4), some (.int x5), some (.int x6), some (.int x7), some (.int f1), some (.int x9), none, none, none, none, none] [] w1 else zd scr 94 436 [some (.ref a0), some (.int x1), some (.int x2), some (.int x3), some (.int x4), some (.int x5), some (.int x6), some (.int x7), some (.int f1), some (.int x9), none, none, none, none, none] [] w1 := by
  refine Eq.trans (zd_aload_n zh94 rfl rfl) ?_
  refine Eq.trans (zd_bipush zh94 (v := (nI 12)) rfl rfl) ?_
  refine Eq.trans (zd_invVi zh94 zh69 rfl rfl ⟨Nat.le_of_ble_eq_true rfl, Nat.le_of_ble_eq_true rfl, Nat.le_of_ble_eq_true rfl, Nat.le_of_ble_eq_true rfl⟩ rfl h1 h2 rfl) ?_
  refine Eq.trans (zd_istore zh94 (ls' := [some (.ref a0), some (.int x1), some (.int x2), some (.int x3), some (.int x4), some (.int x5), some (.int x6), some (.int x7), some (.int f1), some (.int x9), none, none, none, none, none]) (Nat.le_of_ble_eq_true rfl) rfl rfl) ?_
  refine Eq.trans (zd_iload_n zh94 rfl rfl) ?_
  refine Eq.trans (zd_iconst zh94 (v := (nI 1)) rfl rfl) ?_
  refine Eq.trans (zd_iand zh94 rfl) ?_
  exact zd_ifne zh94 (t := 436) (by decide) rfl
set_option maxRecDepth 20000 in
theorem b94_491 {scr : List Int32} {w : zAW} {a0 : Nat} {x1 : Int32} {x2 : Int32} {x3 : Int32} {x4 : Int32} {x5 : Int32} {x6 : Int32} {x7 : Int32} {x8 : Int32} {x9 : Int32} {f1 : Int32} {w1 : zAW} (h1 : zC scr 86 [.int x2, .int (nI 4)] w = some (some (.int f1), w1)) (h2 : zob w1 a0 5 = true) {f2 : Int32} {w2 : zAW} (h3 : zC scr 67 [.ref a0, .int f1] w1 = some (some (.int f2), w2)) {f3 : Int32} {w3 : zAW} (h4 : zC scr 86 [.int x3, .int (nI 4)] w2 = some (some (.int f3), w3)) : zd scr 94 491 [some (.ref a0), some (.int x1), some (.int x2), some (.int x3), some (.int x4), some (.int x5), some (.int x6), some (.int x7), some (.int x8), some (.int x9), none, none, none, none, none] [] w = if f2 = f3 then zd scr 94 508 [some (.ref a0), some (.int x1), some (.int x2), some (.int x3), some (.int x4), some (.int x5), some (.int x6), some (.int x7), some (.int x8), some (.int x9), none, none, none, none, none] [] w3 else zd scr 94 512 [some (.ref a0), some (.int x1), some (.int x2), some (.int x3), some (.int x4), some (.int x5), some (.int x6), some (.int x7), some (.int x8), some (.int x9), none, none, none, none, none] [] w3 := by
  refine Eq.trans (zd_aload_n zh94 rfl rfl) ?_
  refine Eq.trans (zd_iload_n zh94 rfl rfl) ?_
  refine Eq.trans (zd_iconst zh94 (v := (nI 4)) rfl rfl) ?_
  refine Eq.trans (zd_invSi zh94 zh86 rfl rfl ⟨Nat.le_of_ble_eq_true rfl, Nat.le_of_ble_eq_true rfl, Nat.le_of_ble_eq_true rfl, Or.inl (Nat.le_of_ble_eq_true rfl), Nat.le_of_ble_eq_true rfl⟩ rfl h1 rfl) ?_
  refine Eq.trans (zd_invVi zh94 zh67 rfl rfl ⟨Nat.le_of_ble_eq_true rfl, Nat.le_of_ble_eq_true rfl, Nat.le_of_ble_eq_true rfl, Nat.le_of_ble_eq_true rfl⟩ rfl h2 h3 rfl) ?_
  refine Eq.trans (zd_iload_n zh94 rfl rfl) ?_
  refine Eq.trans (zd_iconst zh94 (v := (nI 4)) rfl rfl) ?_
  refine Eq.trans (zd_invSi zh94 zh86 rfl rfl ⟨Nat.le_of_ble_eq_true rfl, Nat.le_of_ble_eq_true rfl, Nat.le_of_ble_eq_true rfl, Or.inl (Nat.le_of_ble_eq_true rfl), Nat.le_of_ble_eq_true rfl⟩ rfl h4 rfl) ?_
  exact zd_icmpne zh94 (t := 512) (by decide) rfl
set_option maxRecDepth 20000 in
theorem b94_512 {scr : List Int32} {w : zAW} {a0 : Nat} {x1 : Int32} {x2 : Int32} {x3 : Int32} {x4 : Int32} {x5 : Int32} {x6 : Int32} {x7 : Int32} {x8 : Int32} {x9 : Int32}  : zd scr 94 512 [some (.ref a0), some (.int x1), some (.int x2), some (.int x3), some (.int x4), some (.int x5), some (.int x6), some (.int x7), some (.int x8), some (.int x9), none, none, none, none, none] [] w = if (nI 0) = 0 then zd scr 94 705 [some (.ref a0), some (.int x1), some (.int x2), some (.int x3), some (.int x4), some (.int x5), some (.int x6), some (.int x7), some (.int x8), some (.int (nI 0)), none, none, none, none, none] [] w else zd scr 94 669 [some (.ref a0), some (.int x1), some (.int x2), some (.int x3), some (.int x4), some (.int x5), some (.int x6), some (.int x7), some (.int x8), some (.int (nI 0)), none, none, none, none, none] [] w := by
  refine Eq.trans (zd_iconst zh94 (v := (nI 0)) rfl rfl) ?_
  refine Eq.trans (zd_istore zh94 (ls' := [some (.ref a0), some (.int x1), some (.int x2), some (.int x3), some (.int x4), some (.int x5), some (.int x6), some (.int x7), some (.int x8), some (.int (nI 0)), none, none, none, none, none]) (Nat.le_of_ble_eq_true rfl) rfl rfl) ?_
  refine Eq.trans (zd_goto zh94 (t := 664) (by decide) rfl) ?_
  refine Eq.trans (zd_iload zh94 rfl rfl) ?_
  exact zd_ifeq zh94 (t := 705) (by decide) rfl
set_option maxRecDepth 20000 in
theorem b94_705 {scr : List Int32} {w : zAW} {a0 : Nat} {x1 : Int32} {x2 : Int32} {x3 : Int32} {x4 : Int32} {x5 : Int32} {x6 : Int32} {x7 : Int32} {x8 : Int32} {x9 : Int32} {v10 : Option Value} {v11 : Option Value} {v12 : Option Value} {v13 : Option Value} {v14 : Option Value}  : zd scr 94 705 [some (.ref a0), some (.int x1), some (.int x2), some (.int x3), some (.int x4), some (.int x5), some (.int x6), some (.int x7), some (.int x8), some (.int x9), v10, v11, v12, v13, v14] [] w = some (some (.int (nI 0)), w) := by
  refine Eq.trans (zd_iconst zh94 (v := (nI 0)) rfl rfl) ?_
  exact zd_iret zh94 rfl rfl
set_option maxRecDepth 20000 in
theorem b94_669 {scr : List Int32} {w : zAW} {a0 : Nat} {x1 : Int32} {x2 : Int32} {x3 : Int32} {x4 : Int32} {x5 : Int32} {x6 : Int32} {x7 : Int32} {x8 : Int32} {x9 : Int32} {v10 : Option Value} {v11 : Option Value} {v12 : Option Value} {v13 : Option Value} {v14 : Option Value} (h1 : zob w a0 5 = true) {f1 : Int32} {w1 : zAW} (h2 : zC scr 69 [.ref a0, .int (nI 1)] w = some (some (.int f1), w1)) (h3 : zob w1 a0 5 = true) {f2 : Int32} {w2 : zAW} (h4 : zC scr 69 [.ref a0, .int (nI 2)] w1 = some (some (.int f2), w2)) : zd scr 94 669 [some (.ref a0), some (.int x1), some (.int x2), some (.int x3), some (.int x4), some (.int x5), some (.int x6), some (.int x7), some (.int x8), some (.int x9), v10, v11, v12, v13, v14] [] w = if x6 = (f1 + f2) then zd scr 94 685 [some (.ref a0), some (.int x1), some (.int x2), some (.int x3), some (.int x4), some (.int x5), some (.int x6), some (.int x7), some (.int x8), some (.int x9), v10, v11, v12, v13, v14] [] w2 else zd scr 94 705 [some (.ref a0), some (.int x1), some (.int x2), some (.int x3), some (.int x4), some (.int x5), some (.int x6), some (.int x7), some (.int x8), some (.int x9), v10, v11, v12, v13, v14] [] w2 := by
  refine Eq.trans (zd_iload zh94 rfl rfl) ?_
  refine Eq.trans (zd_aload_n zh94 rfl rfl) ?_
  refine Eq.trans (zd_iconst zh94 (v := (nI 1)) rfl rfl) ?_
  refine Eq.trans (zd_invVi zh94 zh69 rfl rfl ⟨Nat.le_of_ble_eq_true rfl, Nat.le_of_ble_eq_true rfl, Nat.le_of_ble_eq_true rfl, Nat.le_of_ble_eq_true rfl⟩ rfl h1 h2 rfl) ?_
  refine Eq.trans (zd_aload_n zh94 rfl rfl) ?_
  refine Eq.trans (zd_iconst zh94 (v := (nI 2)) rfl rfl) ?_
  refine Eq.trans (zd_invVi zh94 zh69 rfl rfl ⟨Nat.le_of_ble_eq_true rfl, Nat.le_of_ble_eq_true rfl, Nat.le_of_ble_eq_true rfl, Nat.le_of_ble_eq_true rfl⟩ rfl h3 h4 rfl) ?_
  refine Eq.trans (zd_iadd zh94 rfl) ?_
  exact zd_icmpne zh94 (t := 705) (by decide) rfl
set_option maxRecDepth 20000 in
theorem b94_661 {scr : List Int32} {w : zAW} {a0 : Nat} {x1 : Int32} {x2 : Int32} {x3 : Int32} {x4 : Int32} {x5 : Int32} {x6 : Int32} {x7 : Int32} {x8 : Int32} {x9 : Int32} {x13 : Int32} {x14 : Int32}  : zd scr 94 661 [some (.ref a0), some (.int x1), some (.int x2), some (.int x3), some (.int x4), some (.int x5), some (.int x6), some (.int x7), some (.int x8), some (.int x9), none, none, none, some (.int x13), some (.int x14)] [] w = if (nI 0) = 0 then zd scr 94 705 [some (.ref a0), some (.int x1), some (.int x2), some (.int x3), some (.int x4), some (.int x5), some (.int x6), some (.int x7), some (.int x8), some (.int (nI 0)), none, none, none, some (.int x13), some (.int x14)] [] w else zd scr 94 669 [some (.ref a0), some (.int x1), some (.int x2), some (.int x3), some (.int x4), some (.int x5), some (.int x6), some (.int x7), some (.int x8), some (.int (nI 0)), none, none, none, some (.int x13), some (.int x14)] [] w := by
  refine Eq.trans (zd_iconst zh94 (v := (nI 0)) rfl rfl) ?_
  refine Eq.trans (zd_istore zh94 (ls' := [some (.ref a0), some (.int x1), some (.int x2), some (.int x3), some (.int x4), some (.int x5), some (.int x6), some (.int x7), some (.int x8), some (.int (nI 0)), none, none, none, some (.int x13), some (.int x14)]) (Nat.le_of_ble_eq_true rfl) rfl rfl) ?_
  refine Eq.trans (zd_iload zh94 rfl rfl) ?_
  exact zd_ifeq zh94 (t := 705) (by decide) rfl
set_option maxRecDepth 20000 in
theorem b94_609 {scr : List Int32} {w : zAW} {a0 : Nat} {x1 : Int32} {x2 : Int32} {x3 : Int32} {x4 : Int32} {x5 : Int32} {x6 : Int32} {x7 : Int32} {x8 : Int32} {x9 : Int32} {x13 : Int32} {x14 : Int32} (h1 : zob w a0 5 = true) {f1 : Int32} {w1 : zAW} (h2 : zC scr 69 [.ref a0, .int (nI 6)] w = some (some (.int f1), w1)) : zd scr 94 609 [some (.ref a0), some (.int x1), some (.int x2), some (.int x3), some (.int x4), some (.int x5), some (.int x6), some (.int x7), some (.int x8), some (.int x9), none, none, none, some (.int x13), some (.int x14)] [] w = if f1 = (x8 + x14) then zd scr 94 623 [some (.ref a0), some (.int x1), some (.int x2), some (.int x3), some (.int x4), some (.int x5), some (.int x6), some (.int x7), some (.int x8), some (.int x9), none, none, none, some (.int x13), some (.int x14)] [] w1 else zd scr 94 661 [some (.ref a0), some (.int x1), some (.int x2), some (.int x3), some (.int x4), some (.int x5), some (.int x6), some (.int x7), some (.int x8), some (.int x9), none, none, none, some (.int x13), some (.int x14)] [] w1 := by
  refine Eq.trans (zd_aload_n zh94 rfl rfl) ?_
  refine Eq.trans (zd_bipush zh94 (v := (nI 6)) rfl rfl) ?_
  refine Eq.trans (zd_invVi zh94 zh69 rfl rfl ⟨Nat.le_of_ble_eq_true rfl, Nat.le_of_ble_eq_true rfl, Nat.le_of_ble_eq_true rfl, Nat.le_of_ble_eq_true rfl⟩ rfl h1 h2 rfl) ?_
  refine Eq.trans (zd_iload zh94 rfl rfl) ?_
  refine Eq.trans (zd_iload zh94 rfl rfl) ?_
  refine Eq.trans (zd_iadd zh94 rfl) ?_
  exact zd_icmpne zh94 (t := 661) (by decide) rfl
set_option maxRecDepth 20000 in
theorem b94_156 {scr : List Int32} {w : zAW} {a0 : Nat} {x1 : Int32} {x2 : Int32} {x3 : Int32} {x4 : Int32} {x5 : Int32} {x6 : Int32} {x7 : Int32} {x8 : Int32} {x9 : Int32}  : zd scr 94 156 [some (.ref a0), some (.int x1), some (.int x2), some (.int x3), some (.int x4), some (.int x5), some (.int x6), some (.int x7), some (.int x8), some (.int x9), none, none, none, none, none] [] w = if x4 = (nI 6) then zd scr 94 185 [some (.ref a0), some (.int x1), some (.int x2), some (.int x3), some (.int x4), some (.int x5), some (.int x6), some (.int x7), some (.int x8), some (.int x9), none, none, none, none, none] [] w else zd scr 94 163 [some (.ref a0), some (.int x1), some (.int x2), some (.int x3), some (.int x4), some (.int x5), some (.int x6), some (.int x7), some (.int x8), some (.int x9), none, none, none, none, none] [] w := by
  refine Eq.trans (zd_iload zh94 rfl rfl) ?_
  refine Eq.trans (zd_bipush zh94 (v := (nI 6)) rfl rfl) ?_
  exact zd_icmpeq zh94 (t := 185) (by decide) rfl
set_option maxRecDepth 20000 in
theorem b94_189 {scr : List Int32} {w : zAW} {a0 : Nat} {x1 : Int32} {x2 : Int32} {x3 : Int32} {x4 : Int32} {x5 : Int32} {x6 : Int32} {x7 : Int32} {x8 : Int32} {x9 : Int32}  : zd scr 94 189 [some (.ref a0), some (.int x1), some (.int x2), some (.int x3), some (.int x4), some (.int x5), some (.int x6), some (.int x7), some (.int x8), some (.int x9), none, none, none, none, none] [] w = if (nI 0) = 0 then zd scr 94 705 [some (.ref a0), some (.int x1), some (.int x2), some (.int x3), some (.int x4), some (.int x5), some (.int x6), some (.int x7), some (.int x8), some (.int (nI 0)), none, none, none, none, none] [] w else zd scr 94 669 [some (.ref a0), some (.int x1), some (.int x2), some (.int x3), some (.int x4), some (.int x5), some (.int x6), some (.int x7), some (.int x8), some (.int (nI 0)), none, none, none, none, none] [] w := by
  refine Eq.trans (zd_iconst zh94 (v := (nI 0)) rfl rfl) ?_
  refine Eq.trans (zd_istore zh94 (ls' := [some (.ref a0), some (.int x1), some (.int x2), some (.int x3), some (.int x4), some (.int x5), some (.int x6), some (.int x7), some (.int x8), some (.int (nI 0)), none, none, none, none, none]) (Nat.le_of_ble_eq_true rfl) rfl rfl) ?_
  refine Eq.trans (zd_goto zh94 (t := 664) (by decide) rfl) ?_
  refine Eq.trans (zd_iload zh94 rfl rfl) ?_
  exact zd_ifeq zh94 (t := 705) (by decide) rfl
set_option maxRecDepth 20000 in
theorem b94_239 {scr : List Int32} {w : zAW} {a0 : Nat} {x1 : Int32} {x2 : Int32} {x3 : Int32} {x4 : Int32} {x5 : Int32} {x6 : Int32} {x7 : Int32} {x8 : Int32} {x9 : Int32} {x10 : Int32} {x11 : Int32} (h1 : zob w a0 5 = true) {f1 : Int32} {w1 : zAW} (h2 : zC scr 54 [.ref a0, .int x5] w = some (some (.int f1), w1)) : zd scr 94 239 [some (.ref a0), some (.int x1), some (.int x2), some (.int x3), some (.int x4), some (.int x5), some (.int x6), some (.int x7), some (.int x8), some (.int x9), some (.int x10), some (.int x11), none, none, none] [] w = if x8 < 0 then zd scr 94 250 [some (.ref a0), some (.int x1), some (.int x2), some (.int x3), some (.int x4), some (.int x5), some (.int x6), some (.int x7), some (.int x8), some (.int x9), some (.int x10), some (.int x11), none, none, none] [.int f1] w1 else zd scr 94 254 [some (.ref a0), some (.int x1), some (.int x2), some (.int x3), some (.int x4), some (.int x5), some (.int x6), some (.int x7), some (.int x8), some (.int x9), some (.int x10), some (.int x11), none, none, none] [.int f1] w1 := by
  refine Eq.trans (zd_aload_n zh94 rfl rfl) ?_
  refine Eq.trans (zd_iload zh94 rfl rfl) ?_
  refine Eq.trans (zd_invVi zh94 zh54 rfl rfl ⟨Nat.le_of_ble_eq_true rfl, Nat.le_of_ble_eq_true rfl, Nat.le_of_ble_eq_true rfl, Nat.le_of_ble_eq_true rfl⟩ rfl h1 h2 rfl) ?_
  refine Eq.trans (zd_iload zh94 rfl rfl) ?_
  exact zd_ifge zh94 (t := 254) (by decide) rfl
set_option maxRecDepth 20000 in
theorem b94_312 {scr : List Int32} {w : zAW} {a0 : Nat} {x1 : Int32} {x2 : Int32} {x3 : Int32} {x4 : Int32} {x5 : Int32} {x6 : Int32} {x7 : Int32} {x8 : Int32} {x9 : Int32} {x10 : Int32} {x11 : Int32}  : zd scr 94 312 [some (.ref a0), some (.int x1), some (.int x2), some (.int x3), some (.int x4), some (.int x5), some (.int x6), some (.int x7), some (.int x8), some (.int x9), some (.int x10), some (.int x11), none, none, none] [] w = if (nI 1) = 0 then zd scr 94 705 [some (.ref a0), some (.int x1), some (.int x2), some (.int x3), some (.int x4), some (.int x5), some (.int x6), some (.int x7), some (.int x8), some (.int (nI 1)), some (.int x10), some (.int x11), none, none, none] [] w else zd scr 94 669 [some (.ref a0), some (.int x1), some (.int x2), some (.int x3), some (.int x4), some (.int x5), some (.int x6), some (.int x7), some (.int x8), some (.int (nI 1)), some (.int x10), some (.int x11), none, none, none] [] w := by
  refine Eq.trans (zd_iconst zh94 (v := (nI 1)) rfl rfl) ?_
  refine Eq.trans (zd_goto zh94 (t := 317) (by decide) rfl) ?_
  refine Eq.trans (zd_istore zh94 (ls' := [some (.ref a0), some (.int x1), some (.int x2), some (.int x3), some (.int x4), some (.int x5), some (.int x6), some (.int x7), some (.int x8), some (.int (nI 1)), some (.int x10), some (.int x11), none, none, none]) (Nat.le_of_ble_eq_true rfl) rfl rfl) ?_
  refine Eq.trans (zd_goto zh94 (t := 664) (by decide) rfl) ?_
  refine Eq.trans (zd_iload zh94 rfl rfl) ?_
  exact zd_ifeq zh94 (t := 705) (by decide) rfl
set_option maxRecDepth 20000 in
theorem b94_226 {scr : List Int32} {w : zAW} {a0 : Nat} {x1 : Int32} {x2 : Int32} {x3 : Int32} {x4 : Int32} {x5 : Int32} {x6 : Int32} {x7 : Int32} {x8 : Int32} {x9 : Int32} {x10 : Int32}  : zd scr 94 226 [some (.ref a0), some (.int x1), some (.int x2), some (.int x3), some (.int x4), some (.int x5), some (.int x6), some (.int x7), some (.int x8), some (.int x9), some (.int x10), none, none, none, none] [] w = if (x3 &&& (nI 3)) = 0 then zd scr 94 239 [some (.ref a0), some (.int x1), some (.int x2), some (.int x3), some (.int x4), some (.int x5), some (.int x6), some (.int x7), some (.int x8), some (.int x9), some (.int x10), some (.int (nI 1)), none, none, none] [] w else zd scr 94 312 [some (.ref a0), some (.int x1), some (.int x2), some (.int x3), some (.int x4), some (.int x5), some (.int x6), some (.int x7), some (.int x8), some (.int x9), some (.int x10), some (.int (nI 1)), none, none, none] [] w := by
  refine Eq.trans (zd_iconst zh94 (v := (nI 1)) rfl rfl) ?_
  refine Eq.trans (zd_goto zh94 (t := 231) (by decide) rfl) ?_
  refine Eq.trans (zd_istore zh94 (ls' := [some (.ref a0), some (.int x1), some (.int x2), some (.int x3), some (.int x4), some (.int x5), some (.int x6), some (.int x7), some (.int x8), some (.int x9), some (.int x10), some (.int (nI 1)), none, none, none]) (Nat.le_of_ble_eq_true rfl) rfl rfl) ?_
  refine Eq.trans (zd_iload_n zh94 rfl rfl) ?_
  refine Eq.trans (zd_iconst zh94 (v := (nI 3)) rfl rfl) ?_
  refine Eq.trans (zd_iand zh94 rfl) ?_
  exact zd_ifne zh94 (t := 312) (by decide) rfl
set_option maxRecDepth 20000 in
theorem b94_349 {scr : List Int32} {w : zAW} {a0 : Nat} {x1 : Int32} {x2 : Int32} {x3 : Int32} {x4 : Int32} {x5 : Int32} {x6 : Int32} {x7 : Int32} {x8 : Int32} {x9 : Int32} {x12 : Int32}  : zd scr 94 349 [some (.ref a0), some (.int x1), some (.int x2), some (.int x3), some (.int x4), some (.int x5), some (.int x6), some (.int x7), some (.int x8), some (.int x9), none, none, some (.int x12), none, none] [] w = if (nI 1) = 0 then zd scr 94 705 [some (.ref a0), some (.int x1), some (.int x2), some (.int x3), some (.int x4), some (.int x5), some (.int x6), some (.int x7), some (.int x8), some (.int (nI 1)), none, none, some (.int x12), none, none] [] w else zd scr 94 669 [some (.ref a0), some (.int x1), some (.int x2), some (.int x3), some (.int x4), some (.int x5), some (.int x6), some (.int x7), some (.int x8), some (.int (nI 1)), none, none, some (.int x12), none, none] [] w := by
  refine Eq.trans (zd_iconst zh94 (v := (nI 1)) rfl rfl) ?_
  refine Eq.trans (zd_goto zh94 (t := 390) (by decide) rfl) ?_
  refine Eq.trans (zd_istore zh94 (ls' := [some (.ref a0), some (.int x1), some (.int x2), some (.int x3), some (.int x4), some (.int x5), some (.int x6), some (.int x7), some (.int x8), some (.int (nI 1)), none, none, some (.int x12), none, none]) (Nat.le_of_ble_eq_true rfl) rfl rfl) ?_
  refine Eq.trans (zd_goto zh94 (t := 664) (by decide) rfl) ?_
  refine Eq.trans (zd_iload zh94 rfl rfl) ?_
  exact zd_ifeq zh94 (t := 705) (by decide) rfl
set_option maxRecDepth 20000 in
theorem b94_353 {scr : List Int32} {w : zAW} {a0 : Nat} {x1 : Int32} {x2 : Int32} {x3 : Int32} {x4 : Int32} {x5 : Int32} {x6 : Int32} {x7 : Int32} {x8 : Int32} {x9 : Int32} {x12 : Int32}  : zd scr 94 353 [some (.ref a0), some (.int x1), some (.int x2), some (.int x3), some (.int x4), some (.int x5), some (.int x6), some (.int x7), some (.int x8), some (.int x9), none, none, some (.int x12), none, none] [] w = if (nI 0) = 0 then zd scr 94 705 [some (.ref a0), some (.int x1), some (.int x2), some (.int x3), some (.int x4), some (.int x5), some (.int x6), some (.int x7), some (.int x8), some (.int (nI 0)), none, none, some (.int x12), none, none] [] w else zd scr 94 669 [some (.ref a0), some (.int x1), some (.int x2), some (.int x3), some (.int x4), some (.int x5), some (.int x6), some (.int x7), some (.int x8), some (.int (nI 0)), none, none, some (.int x12), none, none] [] w := by
  refine Eq.trans (zd_iconst zh94 (v := (nI 0)) rfl rfl) ?_
  refine Eq.trans (zd_goto zh94 (t := 390) (by decide) rfl) ?_
  refine Eq.trans (zd_istore zh94 (ls' := [some (.ref a0), some (.int x1), some (.int x2), some (.int x3), some (.int x4), some (.int x5), some (.int x6), some (.int x7), some (.int x8), some (.int (nI 0)), none, none, some (.int x12), none, none]) (Nat.le_of_ble_eq_true rfl) rfl rfl) ?_
  refine Eq.trans (zd_goto zh94 (t := 664) (by decide) rfl) ?_
  refine Eq.trans (zd_iload zh94 rfl rfl) ?_
  exact zd_ifeq zh94 (t := 705) (by decide) rfl
set_option maxRecDepth 20000 in
theorem b94_369 {scr : List Int32} {w : zAW} {a0 : Nat} {x1 : Int32} {x2 : Int32} {x3 : Int32} {x4 : Int32} {x5 : Int32} {x6 : Int32} {x7 : Int32} {x8 : Int32} {x9 : Int32} {x12 : Int32} (h1 : zob w a0 5 = true) {f1 : Int32} {w1 : zAW} (h2 : zC scr 64 [.ref a0, .int x5, .int (nI 1)] w = some (some (.int f1), w1)) {f2 : Int32} {w2 : zAW} (h3 : zC scr 86 [.int x3, .int (nI 6)] w1 = some (some (.int f2), w2)) : zd scr 94 369 [some (.ref a0), some (.int x1), some (.int x2), some (.int x3), some (.int x4), some (.int x5), some (.int x6), some (.int x7), some (.int x8), some (.int x9), none, none, some (.int x12), none, none] [] w = if f1 = f2 then zd scr 94 385 [some (.ref a0), some (.int x1), some (.int x2), some (.int x3), some (.int x4), some (.int x5), some (.int x6), some (.int x7), some (.int x8), some (.int x9), none, none, some (.int x12), none, none] [] w2 else zd scr 94 389 [some (.ref a0), some (.int x1), some (.int x2), some (.int x3), some (.int x4), some (.int x5), some (.int x6), some (.int x7), some (.int x8), some (.int x9), none, none, some (.int x12), none, none] [] w2 := by
  refine Eq.trans (zd_aload_n zh94 rfl rfl) ?_
  refine Eq.trans (zd_iload zh94 rfl rfl) ?_
  refine Eq.trans (zd_iconst zh94 (v := (nI 1)) rfl rfl) ?_
  refine Eq.trans (zd_invVi zh94 zh64 rfl rfl ⟨Nat.le_of_ble_eq_true rfl, Nat.le_of_ble_eq_true rfl, Nat.le_of_ble_eq_true rfl, Nat.le_of_ble_eq_true rfl⟩ rfl h1 h2 rfl) ?_
  refine Eq.trans (zd_iload_n zh94 rfl rfl) ?_
  refine Eq.trans (zd_bipush zh94 (v := (nI 6)) rfl rfl) ?_
  refine Eq.trans (zd_invSi zh94 zh86 rfl rfl ⟨Nat.le_of_ble_eq_true rfl, Nat.le_of_ble_eq_true rfl, Nat.le_of_ble_eq_true rfl, Or.inl (Nat.le_of_ble_eq_true rfl), Nat.le_of_ble_eq_true rfl⟩ rfl h3 rfl) ?_
  exact zd_icmpne zh94 (t := 389) (by decide) rfl
set_option maxRecDepth 20000 in
theorem b94_389 {scr : List Int32} {w : zAW} {a0 : Nat} {x1 : Int32} {x2 : Int32} {x3 : Int32} {x4 : Int32} {x5 : Int32} {x6 : Int32} {x7 : Int32} {x8 : Int32} {x9 : Int32} {x12 : Int32}  : zd scr 94 389 [some (.ref a0), some (.int x1), some (.int x2), some (.int x3), some (.int x4), some (.int x5), some (.int x6), some (.int x7), some (.int x8), some (.int x9), none, none, some (.int x12), none, none] [] w = if (nI 0) = 0 then zd scr 94 705 [some (.ref a0), some (.int x1), some (.int x2), some (.int x3), some (.int x4), some (.int x5), some (.int x6), some (.int x7), some (.int x8), some (.int (nI 0)), none, none, some (.int x12), none, none] [] w else zd scr 94 669 [some (.ref a0), some (.int x1), some (.int x2), some (.int x3), some (.int x4), some (.int x5), some (.int x6), some (.int x7), some (.int x8), some (.int (nI 0)), none, none, some (.int x12), none, none] [] w := by
  refine Eq.trans (zd_iconst zh94 (v := (nI 0)) rfl rfl) ?_
  refine Eq.trans (zd_istore zh94 (ls' := [some (.ref a0), some (.int x1), some (.int x2), some (.int x3), some (.int x4), some (.int x5), some (.int x6), some (.int x7), some (.int x8), some (.int (nI 0)), none, none, some (.int x12), none, none]) (Nat.le_of_ble_eq_true rfl) rfl rfl) ?_
  refine Eq.trans (zd_goto zh94 (t := 664) (by decide) rfl) ?_
  refine Eq.trans (zd_iload zh94 rfl rfl) ?_
  exact zd_ifeq zh94 (t := 705) (by decide) rfl
set_option maxRecDepth 20000 in
theorem b94_424 {scr : List Int32} {w : zAW} {a0 : Nat} {x1 : Int32} {x2 : Int32} {x3 : Int32} {x4 : Int32} {x5 : Int32} {x6 : Int32} {x7 : Int32} {x8 : Int32} {x9 : Int32} {f1 : Int32} {w1 : zAW} (h1 : zC scr 86 [.int x2, .int (nI 3)] w = some (some (.int f1), w1)) (h2 : zob w1 a0 5 = true) {f2 : Int32} {w2 : zAW} (h3 : zC scr 56 [.ref a0, .int f1] w1 = some (some (.int f2), w2)) : zd scr 94 424 [some (.ref a0), some (.int x1), some (.int x2), some (.int x3), some (.int x4), some (.int x5), some (.int x6), some (.int x7), some (.int x8), some (.int x9), none, none, none, none, none] [] w = if f2 = x8 then zd scr 94 451 [some (.ref a0), some (.int x1), some (.int x2), some (.int x3), some (.int x4), some (.int x5), some (.int x6), some (.int x7), some (.int x8), some (.int x9), none, none, none, none, none] [] w2 else zd scr 94 455 [some (.ref a0), some (.int x1), some (.int x2), some (.int x3), some (.int x4), some (.int x5), some (.int x6), some (.int x7), some (.int x8), some (.int x9), none, none, none, none, none] [] w2 := by
  refine Eq.trans (zd_aload_n zh94 rfl rfl) ?_
  refine Eq.trans (zd_iload_n zh94 rfl rfl) ?_
  refine Eq.trans (zd_iconst zh94 (v := (nI 3)) rfl rfl) ?_
  refine Eq.trans (zd_invSi zh94 zh86 rfl rfl ⟨Nat.le_of_ble_eq_true rfl, Nat.le_of_ble_eq_true rfl, Nat.le_of_ble_eq_true rfl, Or.inl (Nat.le_of_ble_eq_true rfl), Nat.le_of_ble_eq_true rfl⟩ rfl h1 rfl) ?_
  refine Eq.trans (zd_invVi zh94 zh56 rfl rfl ⟨Nat.le_of_ble_eq_true rfl, Nat.le_of_ble_eq_true rfl, Nat.le_of_ble_eq_true rfl, Nat.le_of_ble_eq_true rfl⟩ rfl h2 h3 rfl) ?_
  refine Eq.trans (zd_goto zh94 (t := 446) (by decide) rfl) ?_
  refine Eq.trans (zd_iload zh94 rfl rfl) ?_
  exact zd_icmpne zh94 (t := 455) (by decide) rfl
set_option maxRecDepth 20000 in
theorem b94_436 {scr : List Int32} {w : zAW} {a0 : Nat} {x1 : Int32} {x2 : Int32} {x3 : Int32} {x4 : Int32} {x5 : Int32} {x6 : Int32} {x7 : Int32} {x8 : Int32} {x9 : Int32} {f1 : Int32} {w1 : zAW} (h1 : zC scr 86 [.int x2, .int (nI 9)] w = some (some (.int f1), w1)) (h2 : zob w1 a0 5 = true) {f2 : Int32} {w2 : zAW} (h3 : zC scr 57 [.ref a0, .int f1] w1 = some (some (.int f2), w2)) : zd scr 94 436 [some (.ref a0), some (.int x1), some (.int x2), some (.int x3), some (.int x4), some (.int x5), some (.int x6), some (.int x7), some (.int x8), some (.int x9), none, none, none, none, none] [] w = if f2 = x8 then zd scr 94 451 [some (.ref a0), some (.int x1), some (.int x2), some (.int x3), some (.int x4), some (.int x5), some (.int x6), some (.int x7), some (.int x8), some (.int x9), none, none, none, none, none] [] w2 else zd scr 94 455 [some (.ref a0), some (.int x1), some (.int x2), some (.int x3), some (.int x4), some (.int x5), some (.int x6), some (.int x7), some (.int x8), some (.int x9), none, none, none, none, none] [] w2 := by
  refine Eq.trans (zd_aload_n zh94 rfl rfl) ?_
  refine Eq.trans (zd_iload_n zh94 rfl rfl) ?_
  refine Eq.trans (zd_bipush zh94 (v := (nI 9)) rfl rfl) ?_
  refine Eq.trans (zd_invSi zh94 zh86 rfl rfl ⟨Nat.le_of_ble_eq_true rfl, Nat.le_of_ble_eq_true rfl, Nat.le_of_ble_eq_true rfl, Or.inl (Nat.le_of_ble_eq_true rfl), Nat.le_of_ble_eq_true rfl⟩ rfl h1 rfl) ?_
  refine Eq.trans (zd_invVi zh94 zh57 rfl rfl ⟨Nat.le_of_ble_eq_true rfl, Nat.le_of_ble_eq_true rfl, Nat.le_of_ble_eq_true rfl, Nat.le_of_ble_eq_true rfl⟩ rfl h2 h3 rfl) ?_
  refine Eq.trans (zd_iload zh94 rfl rfl) ?_
  exact zd_icmpne zh94 (t := 455) (by decide) rfl
set_option maxRecDepth 20000 in
theorem b94_508 {scr : List Int32} {w : zAW} {a0 : Nat} {x1 : Int32} {x2 : Int32} {x3 : Int32} {x4 : Int32} {x5 : Int32} {x6 : Int32} {x7 : Int32} {x8 : Int32} {x9 : Int32}  : zd scr 94 508 [some (.ref a0), some (.int x1), some (.int x2), some (.int x3), some (.int x4), some (.int x5), some (.int x6), some (.int x7), some (.int x8), some (.int x9), none, none, none, none, none] [] w = if (nI 1) = 0 then zd scr 94 705 [some (.ref a0), some (.int x1), some (.int x2), some (.int x3), some (.int x4), some (.int x5), some (.int x6), some (.int x7), some (.int x8), some (.int (nI 1)), none, none, none, none, none] [] w else zd scr 94 669 [some (.ref a0), some (.int x1), some (.int x2), some (.int x3), some (.int x4), some (.int x5), some (.int x6), some (.int x7), some (.int x8), some (.int (nI 1)), none, none, none, none, none] [] w := by
  refine Eq.trans (zd_iconst zh94 (v := (nI 1)) rfl rfl) ?_
  refine Eq.trans (zd_goto zh94 (t := 513) (by decide) rfl) ?_
  refine Eq.trans (zd_istore zh94 (ls' := [some (.ref a0), some (.int x1), some (.int x2), some (.int x3), some (.int x4), some (.int x5), some (.int x6), some (.int x7), some (.int x8), some (.int (nI 1)), none, none, none, none, none]) (Nat.le_of_ble_eq_true rfl) rfl rfl) ?_
  refine Eq.trans (zd_goto zh94 (t := 664) (by decide) rfl) ?_
  refine Eq.trans (zd_iload zh94 rfl rfl) ?_
  exact zd_ifeq zh94 (t := 705) (by decide) rfl
set_option maxRecDepth 20000 in
theorem b94_685 {scr : List Int32} {w : zAW} {a0 : Nat} {x1 : Int32} {x2 : Int32} {x3 : Int32} {x4 : Int32} {x5 : Int32} {x6 : Int32} {x7 : Int32} {x8 : Int32} {x9 : Int32} {v10 : Option Value} {v11 : Option Value} {v12 : Option Value} {v13 : Option Value} {v14 : Option Value} (h1 : zob w a0 5 = true) {f1 : Int32} {w1 : zAW} (h2 : zC scr 69 [.ref a0, .int (nI 3)] w = some (some (.int f1), w1)) (h3 : zob w1 a0 5 = true) {f2 : Int32} {w2 : zAW} (h4 : zC scr 69 [.ref a0, .int (nI 4)] w1 = some (some (.int f2), w2)) : zd scr 94 685 [some (.ref a0), some (.int x1), some (.int x2), some (.int x3), some (.int x4), some (.int x5), some (.int x6), some (.int x7), some (.int x8), some (.int x9), v10, v11, v12, v13, v14] [] w = if x7 = (f1 + f2) then zd scr 94 701 [some (.ref a0), some (.int x1), some (.int x2), some (.int x3), some (.int x4), some (.int x5), some (.int x6), some (.int x7), some (.int x8), some (.int x9), v10, v11, v12, v13, v14] [] w2 else zd scr 94 705 [some (.ref a0), some (.int x1), some (.int x2), some (.int x3), some (.int x4), some (.int x5), some (.int x6), some (.int x7), some (.int x8), some (.int x9), v10, v11, v12, v13, v14] [] w2 := by
  refine Eq.trans (zd_iload zh94 rfl rfl) ?_
  refine Eq.trans (zd_aload_n zh94 rfl rfl) ?_
  refine Eq.trans (zd_iconst zh94 (v := (nI 3)) rfl rfl) ?_
  refine Eq.trans (zd_invVi zh94 zh69 rfl rfl ⟨Nat.le_of_ble_eq_true rfl, Nat.le_of_ble_eq_true rfl, Nat.le_of_ble_eq_true rfl, Nat.le_of_ble_eq_true rfl⟩ rfl h1 h2 rfl) ?_
  refine Eq.trans (zd_aload_n zh94 rfl rfl) ?_
  refine Eq.trans (zd_iconst zh94 (v := (nI 4)) rfl rfl) ?_
  refine Eq.trans (zd_invVi zh94 zh69 rfl rfl ⟨Nat.le_of_ble_eq_true rfl, Nat.le_of_ble_eq_true rfl, Nat.le_of_ble_eq_true rfl, Nat.le_of_ble_eq_true rfl⟩ rfl h3 h4 rfl) ?_
  refine Eq.trans (zd_iadd zh94 rfl) ?_
  exact zd_icmpne zh94 (t := 705) (by decide) rfl
set_option maxRecDepth 20000 in
theorem b94_623 {scr : List Int32} {w : zAW} {a0 : Nat} {x1 : Int32} {x2 : Int32} {x3 : Int32} {x4 : Int32} {x5 : Int32} {x6 : Int32} {x7 : Int32} {x8 : Int32} {x9 : Int32} {x13 : Int32} {x14 : Int32} (h1 : zob w a0 5 = true) {f1 : Int32} {w1 : zAW} (h2 : zC scr 69 [.ref a0, .int (nI 8)] w = some (some (.int f1), w1)) : zd scr 94 623 [some (.ref a0), some (.int x1), some (.int x2), some (.int x3), some (.int x4), some (.int x5), some (.int x6), some (.int x7), some (.int x8), some (.int x9), none, none, none, some (.int x13), some (.int x14)] [] w = if f1 < (x13 + x14) then zd scr 94 661 [some (.ref a0), some (.int x1), some (.int x2), some (.int x3), some (.int x4), some (.int x5), some (.int x6), some (.int x7), some (.int x8), some (.int x9), none, none, none, some (.int x13), some (.int x14)] [] w1 else zd scr 94 637 [some (.ref a0), some (.int x1), some (.int x2), some (.int x3), some (.int x4), some (.int x5), some (.int x6), some (.int x7), some (.int x8), some (.int x9), none, none, none, some (.int x13), some (.int x14)] [] w1 := by
  refine Eq.trans (zd_aload_n zh94 rfl rfl) ?_
  refine Eq.trans (zd_bipush zh94 (v := (nI 8)) rfl rfl) ?_
  refine Eq.trans (zd_invVi zh94 zh69 rfl rfl ⟨Nat.le_of_ble_eq_true rfl, Nat.le_of_ble_eq_true rfl, Nat.le_of_ble_eq_true rfl, Nat.le_of_ble_eq_true rfl⟩ rfl h1 h2 rfl) ?_
  refine Eq.trans (zd_iload zh94 rfl rfl) ?_
  refine Eq.trans (zd_iload zh94 rfl rfl) ?_
  refine Eq.trans (zd_iadd zh94 rfl) ?_
  exact zd_icmplt zh94 (t := 661) (by decide) rfl
set_option maxRecDepth 20000 in
theorem b94_185 {scr : List Int32} {w : zAW} {a0 : Nat} {x1 : Int32} {x2 : Int32} {x3 : Int32} {x4 : Int32} {x5 : Int32} {x6 : Int32} {x7 : Int32} {x8 : Int32} {x9 : Int32}  : zd scr 94 185 [some (.ref a0), some (.int x1), some (.int x2), some (.int x3), some (.int x4), some (.int x5), some (.int x6), some (.int x7), some (.int x8), some (.int x9), none, none, none, none, none] [] w = if (nI 1) = 0 then zd scr 94 705 [some (.ref a0), some (.int x1), some (.int x2), some (.int x3), some (.int x4), some (.int x5), some (.int x6), some (.int x7), some (.int x8), some (.int (nI 1)), none, none, none, none, none] [] w else zd scr 94 669 [some (.ref a0), some (.int x1), some (.int x2), some (.int x3), some (.int x4), some (.int x5), some (.int x6), some (.int x7), some (.int x8), some (.int (nI 1)), none, none, none, none, none] [] w := by
  refine Eq.trans (zd_iconst zh94 (v := (nI 1)) rfl rfl) ?_
  refine Eq.trans (zd_goto zh94 (t := 190) (by decide) rfl) ?_
  refine Eq.trans (zd_istore zh94 (ls' := [some (.ref a0), some (.int x1), some (.int x2), some (.int x3), some (.int x4), some (.int x5), some (.int x6), some (.int x7), some (.int x8), some (.int (nI 1)), none, none, none, none, none]) (Nat.le_of_ble_eq_true rfl) rfl rfl) ?_
  refine Eq.trans (zd_goto zh94 (t := 664) (by decide) rfl) ?_
  refine Eq.trans (zd_iload zh94 rfl rfl) ?_
  exact zd_ifeq zh94 (t := 705) (by decide) rfl
set_option maxRecDepth 20000 in
theorem b94_163 {scr : List Int32} {w : zAW} {a0 : Nat} {x1 : Int32} {x2 : Int32} {x3 : Int32} {x4 : Int32} {x5 : Int32} {x6 : Int32} {x7 : Int32} {x8 : Int32} {x9 : Int32} (h1 : zob w a0 5 = true) {f1 : Int32} {w1 : zAW} (h2 : zC scr 64 [.ref a0, .int x4, .int (nI 5)] w = some (some (.int f1), w1)) : zd scr 94 163 [some (.ref a0), some (.int x1), some (.int x2), some (.int x3), some (.int x4), some (.int x5), some (.int x6), some (.int x7), some (.int x8), some (.int x9), none, none, none, none, none] [] w = if f1 = x4 then zd scr 94 175 [some (.ref a0), some (.int x1), some (.int x2), some (.int x3), some (.int x4), some (.int x5), some (.int x6), some (.int x7), some (.int x8), some (.int x9), none, none, none, none, none] [] w1 else zd scr 94 189 [some (.ref a0), some (.int x1), some (.int x2), some (.int x3), some (.int x4), some (.int x5), some (.int x6), some (.int x7), some (.int x8), some (.int x9), none, none, none, none, none] [] w1 := by
  refine Eq.trans (zd_aload_n zh94 rfl rfl) ?_
  refine Eq.trans (zd_iload zh94 rfl rfl) ?_
  refine Eq.trans (zd_iconst zh94 (v := (nI 5)) rfl rfl) ?_
  refine Eq.trans (zd_invVi zh94 zh64 rfl rfl ⟨Nat.le_of_ble_eq_true rfl, Nat.le_of_ble_eq_true rfl, Nat.le_of_ble_eq_true rfl, Nat.le_of_ble_eq_true rfl⟩ rfl h1 h2 rfl) ?_
  refine Eq.trans (zd_iload zh94 rfl rfl) ?_
  exact zd_icmpne zh94 (t := 189) (by decide) rfl
set_option maxRecDepth 20000 in
theorem b94_250 {scr : List Int32} {w : zAW} {a0 : Nat} {x1 : Int32} {x2 : Int32} {x3 : Int32} {x4 : Int32} {x5 : Int32} {x6 : Int32} {x7 : Int32} {x8 : Int32} {x9 : Int32} {x10 : Int32} {x11 : Int32} {y0 : Int32}  : zd scr 94 250 [some (.ref a0), some (.int x1), some (.int x2), some (.int x3), some (.int x4), some (.int x5), some (.int x6), some (.int x7), some (.int x8), some (.int x9), some (.int x10), some (.int x11), none, none, none] [.int y0] w = if y0 = (-1) then zd scr 94 269 [some (.ref a0), some (.int x1), some (.int x2), some (.int x3), some (.int x4), some (.int x5), some (.int x6), some (.int x7), some (.int x8), some (.int x9), some (.int x10), some (.int x11), none, none, none] [] w else zd scr 94 316 [some (.ref a0), some (.int x1), some (.int x2), some (.int x3), some (.int x4), some (.int x5), some (.int x6), some (.int x7), some (.int x8), some (.int x9), some (.int x10), some (.int x11), none, none, none] [] w := by
  refine Eq.trans (zd_iconst zh94 (v := (-1)) rfl rfl) ?_
  refine Eq.trans (zd_goto zh94 (t := 266) (by decide) rfl) ?_
  exact zd_icmpne zh94 (t := 316) (by decide) rfl
set_option maxRecDepth 20000 in
theorem b94_254 {scr : List Int32} {w : zAW} {a0 : Nat} {x1 : Int32} {x2 : Int32} {x3 : Int32} {x4 : Int32} {x5 : Int32} {x6 : Int32} {x7 : Int32} {x8 : Int32} {x9 : Int32} {x10 : Int32} {x11 : Int32} {y0 : Int32}  : zd scr 94 254 [some (.ref a0), some (.int x1), some (.int x2), some (.int x3), some (.int x4), some (.int x5), some (.int x6), some (.int x7), some (.int x8), some (.int x9), some (.int x10), some (.int x11), none, none, none] [.int y0] w = if x11 = 0 then zd scr 94 264 [some (.ref a0), some (.int x1), some (.int x2), some (.int x3), some (.int x4), some (.int x5), some (.int x6), some (.int x7), some (.int x8), some (.int x9), some (.int x10), some (.int x11), none, none, none] [.int y0] w else zd scr 94 259 [some (.ref a0), some (.int x1), some (.int x2), some (.int x3), some (.int x4), some (.int x5), some (.int x6), some (.int x7), some (.int x8), some (.int x9), some (.int x10), some (.int x11), none, none, none] [.int y0] w := by
  refine Eq.trans (zd_iload zh94 rfl rfl) ?_
  exact zd_ifeq zh94 (t := 264) (by decide) rfl
set_option maxRecDepth 20000 in
theorem b94_385 {scr : List Int32} {w : zAW} {a0 : Nat} {x1 : Int32} {x2 : Int32} {x3 : Int32} {x4 : Int32} {x5 : Int32} {x6 : Int32} {x7 : Int32} {x8 : Int32} {x9 : Int32} {x12 : Int32}  : zd scr 94 385 [some (.ref a0), some (.int x1), some (.int x2), some (.int x3), some (.int x4), some (.int x5), some (.int x6), some (.int x7), some (.int x8), some (.int x9), none, none, some (.int x12), none, none] [] w = if (nI 1) = 0 then zd scr 94 705 [some (.ref a0), some (.int x1), some (.int x2), some (.int x3), some (.int x4), some (.int x5), some (.int x6), some (.int x7), some (.int x8), some (.int (nI 1)), none, none, some (.int x12), none, none] [] w else zd scr 94 669 [some (.ref a0), some (.int x1), some (.int x2), some (.int x3), some (.int x4), some (.int x5), some (.int x6), some (.int x7), some (.int x8), some (.int (nI 1)), none, none, some (.int x12), none, none] [] w := by
  refine Eq.trans (zd_iconst zh94 (v := (nI 1)) rfl rfl) ?_
  refine Eq.trans (zd_goto zh94 (t := 390) (by decide) rfl) ?_
  refine Eq.trans (zd_istore zh94 (ls' := [some (.ref a0), some (.int x1), some (.int x2), some (.int x3), some (.int x4), some (.int x5), some (.int x6), some (.int x7), some (.int x8), some (.int (nI 1)), none, none, some (.int x12), none, none]) (Nat.le_of_ble_eq_true rfl) rfl rfl) ?_
  refine Eq.trans (zd_goto zh94 (t := 664) (by decide) rfl) ?_
  refine Eq.trans (zd_iload zh94 rfl rfl) ?_
  exact zd_ifeq zh94 (t := 705) (by decide) rfl
set_option maxRecDepth 20000 in
theorem b94_451 {scr : List Int32} {w : zAW} {a0 : Nat} {x1 : Int32} {x2 : Int32} {x3 : Int32} {x4 : Int32} {x5 : Int32} {x6 : Int32} {x7 : Int32} {x8 : Int32} {x9 : Int32}  : zd scr 94 451 [some (.ref a0), some (.int x1), some (.int x2), some (.int x3), some (.int x4), some (.int x5), some (.int x6), some (.int x7), some (.int x8), some (.int x9), none, none, none, none, none] [] w = if (nI 1) = 0 then zd scr 94 705 [some (.ref a0), some (.int x1), some (.int x2), some (.int x3), some (.int x4), some (.int x5), some (.int x6), some (.int x7), some (.int x8), some (.int (nI 1)), none, none, none, none, none] [] w else zd scr 94 669 [some (.ref a0), some (.int x1), some (.int x2), some (.int x3), some (.int x4), some (.int x5), some (.int x6), some (.int x7), some (.int x8), some (.int (nI 1)), none, none, none, none, none] [] w := by
  refine Eq.trans (zd_iconst zh94 (v := (nI 1)) rfl rfl) ?_
  refine Eq.trans (zd_goto zh94 (t := 456) (by decide) rfl) ?_
  refine Eq.trans (zd_istore zh94 (ls' := [some (.ref a0), some (.int x1), some (.int x2), some (.int x3), some (.int x4), some (.int x5), some (.int x6), some (.int x7), some (.int x8), some (.int (nI 1)), none, none, none, none, none]) (Nat.le_of_ble_eq_true rfl) rfl rfl) ?_
  refine Eq.trans (zd_goto zh94 (t := 664) (by decide) rfl) ?_
  refine Eq.trans (zd_iload zh94 rfl rfl) ?_
  exact zd_ifeq zh94 (t := 705) (by decide) rfl
set_option maxRecDepth 20000 in
theorem b94_455 {scr : List Int32} {w : zAW} {a0 : Nat} {x1 : Int32} {x2 : Int32} {x3 : Int32} {x4 : Int32} {x5 : Int32} {x6 : Int32} {x7 : Int32} {x8 : Int32} {x9 : Int32}  : zd scr 94 455 [some (.ref a0), some (.int x1), some (.int x2), some (.int x3), some (.int x4), some (.int x5), some (.int x6), some (.int x7), some (.int x8), some (.int x9), none, none, none, none, none] [] w = if (nI 0) = 0 then zd scr 94 705 [some (.ref a0), some (.int x1), some (.int x2), some (.int x3), some (.int x4), some (.int x5), some (.int x6), some (.int x7), some (.int x8), some (.int (nI 0)), none, none, none, none, none] [] w else zd scr 94 669 [some (.ref a0), some (.int x1), some (.int x2), some (.int x3), some (.int x4), some (.int x5), some (.int x6), some (.int x7), some (.int x8), some (.int (nI 0)), none, none, none, none, none] [] w := by
  refine Eq.trans (zd_iconst zh94 (v := (nI 0)) rfl rfl) ?_
  refine Eq.trans (zd_istore zh94 (ls' := [some (.ref a0), some (.int x1), some (.int x2), some (.int x3), some (.int x4), some (.int x5), some (.int x6), some (.int x7), some (.int x8), some (.int (nI 0)), none, none, none, none, none]) (Nat.le_of_ble_eq_true rfl) rfl rfl) ?_
  refine Eq.trans (zd_goto zh94 (t := 664) (by decide) rfl) ?_
  refine Eq.trans (zd_iload zh94 rfl rfl) ?_
  exact zd_ifeq zh94 (t := 705) (by decide) rfl
set_option maxRecDepth 20000 in
theorem b94_701 {scr : List Int32} {w : zAW} {a0 : Nat} {x1 : Int32} {x2 : Int32} {x3 : Int32} {x4 : Int32} {x5 : Int32} {x6 : Int32} {x7 : Int32} {x8 : Int32} {x9 : Int32} {v10 : Option Value} {v11 : Option Value} {v12 : Option Value} {v13 : Option Value} {v14 : Option Value}  : zd scr 94 701 [some (.ref a0), some (.int x1), some (.int x2), some (.int x3), some (.int x4), some (.int x5), some (.int x6), some (.int x7), some (.int x8), some (.int x9), v10, v11, v12, v13, v14] [] w = some (some (.int (nI 1)), w) := by
  refine Eq.trans (zd_iconst zh94 (v := (nI 1)) rfl rfl) ?_
  refine Eq.trans (zd_goto zh94 (t := 706) (by decide) rfl) ?_
  exact zd_iret zh94 rfl rfl
set_option maxRecDepth 20000 in
theorem b94_637 {scr : List Int32} {w : zAW} {a0 : Nat} {x1 : Int32} {x2 : Int32} {x3 : Int32} {x4 : Int32} {x5 : Int32} {x6 : Int32} {x7 : Int32} {x8 : Int32} {x9 : Int32} {x13 : Int32} {x14 : Int32} (h1 : zob w a0 5 = true) {f1 : Int32} {w1 : zAW} (h2 : zC scr 73 [.ref a0, .int (nI 0)] w = some (some (.int f1), w1)) : zd scr 94 637 [some (.ref a0), some (.int x1), some (.int x2), some (.int x3), some (.int x4), some (.int x5), some (.int x6), some (.int x7), some (.int x8), some (.int x9), none, none, none, some (.int x13), some (.int x14)] [] w = if f1 = (-6) then zd scr 94 647 [some (.ref a0), some (.int x1), some (.int x2), some (.int x3), some (.int x4), some (.int x5), some (.int x6), some (.int x7), some (.int x8), some (.int x9), none, none, none, some (.int x13), some (.int x14)] [] w1 else zd scr 94 661 [some (.ref a0), some (.int x1), some (.int x2), some (.int x3), some (.int x4), some (.int x5), some (.int x6), some (.int x7), some (.int x8), some (.int x9), none, none, none, some (.int x13), some (.int x14)] [] w1 := by
  refine Eq.trans (zd_aload_n zh94 rfl rfl) ?_
  refine Eq.trans (zd_iconst zh94 (v := (nI 0)) rfl rfl) ?_
  refine Eq.trans (zd_invVi zh94 zh73 rfl rfl ⟨Nat.le_of_ble_eq_true rfl, Nat.le_of_ble_eq_true rfl, Nat.le_of_ble_eq_true rfl, Nat.le_of_ble_eq_true rfl⟩ rfl h1 h2 rfl) ?_
  refine Eq.trans (zd_bipush zh94 (v := (-6)) rfl rfl) ?_
  exact zd_icmpne zh94 (t := 661) (by decide) rfl
set_option maxRecDepth 20000 in
theorem b94_175 {scr : List Int32} {w : zAW} {a0 : Nat} {x1 : Int32} {x2 : Int32} {x3 : Int32} {x4 : Int32} {x5 : Int32} {x6 : Int32} {x7 : Int32} {x8 : Int32} {x9 : Int32} (h1 : zob w a0 5 = true) {f1 : Int32} {w1 : zAW} (h2 : zC scr 64 [.ref a0, .int x4, .int (nI 2)] w = some (some (.int f1), w1)) : zd scr 94 175 [some (.ref a0), some (.int x1), some (.int x2), some (.int x3), some (.int x4), some (.int x5), some (.int x6), some (.int x7), some (.int x8), some (.int x9), none, none, none, none, none] [] w = if f1 = 0 then zd scr 94 185 [some (.ref a0), some (.int x1), some (.int x2), some (.int x3), some (.int x4), some (.int x5), some (.int x6), some (.int x7), some (.int x8), some (.int x9), none, none, none, none, none] [] w1 else zd scr 94 189 [some (.ref a0), some (.int x1), some (.int x2), some (.int x3), some (.int x4), some (.int x5), some (.int x6), some (.int x7), some (.int x8), some (.int x9), none, none, none, none, none] [] w1 := by
  refine Eq.trans (zd_aload_n zh94 rfl rfl) ?_
  refine Eq.trans (zd_iload zh94 rfl rfl) ?_
  refine Eq.trans (zd_iconst zh94 (v := (nI 2)) rfl rfl) ?_
  refine Eq.trans (zd_invVi zh94 zh64 rfl rfl ⟨Nat.le_of_ble_eq_true rfl, Nat.le_of_ble_eq_true rfl, Nat.le_of_ble_eq_true rfl, Nat.le_of_ble_eq_true rfl⟩ rfl h1 h2 rfl) ?_
  exact zd_ifne zh94 (t := 189) (by decide) rfl
set_option maxRecDepth 20000 in
theorem b94_269 {scr : List Int32} {w : zAW} {a0 : Nat} {x1 : Int32} {x2 : Int32} {x3 : Int32} {x4 : Int32} {x5 : Int32} {x6 : Int32} {x7 : Int32} {x8 : Int32} {x9 : Int32} {x10 : Int32} {x11 : Int32} (h1 : zob w a0 5 = true) {f1 : Int32} {w1 : zAW} (h2 : zC scr 69 [.ref a0, .int (nI 0)] w = some (some (.int f1), w1)) : zd scr 94 269 [some (.ref a0), some (.int x1), some (.int x2), some (.int x3), some (.int x4), some (.int x5), some (.int x6), some (.int x7), some (.int x8), some (.int x9), some (.int x10), some (.int x11), none, none, none] [] w = if x11 = 0 then zd scr 94 285 [some (.ref a0), some (.int x1), some (.int x2), some (.int x3), some (.int x4), some (.int x5), some (.int x6), some (.int x7), some (.int x8), some (.int x9), some (.int x10), some (.int x11), none, none, none] [.int x4, .int f1] w1 else zd scr 94 281 [some (.ref a0), some (.int x1), some (.int x2), some (.int x3), some (.int x4), some (.int x5), some (.int x6), some (.int x7), some (.int x8), some (.int x9), some (.int x10), some (.int x11), none, none, none] [.int x4, .int f1] w1 := by
  refine Eq.trans (zd_aload_n zh94 rfl rfl) ?_
  refine Eq.trans (zd_iconst zh94 (v := (nI 0)) rfl rfl) ?_
  refine Eq.trans (zd_invVi zh94 zh69 rfl rfl ⟨Nat.le_of_ble_eq_true rfl, Nat.le_of_ble_eq_true rfl, Nat.le_of_ble_eq_true rfl, Nat.le_of_ble_eq_true rfl⟩ rfl h1 h2 rfl) ?_
  refine Eq.trans (zd_iload zh94 rfl rfl) ?_
  refine Eq.trans (zd_iload zh94 rfl rfl) ?_
  exact zd_ifeq zh94 (t := 285) (by decide) rfl
set_option maxRecDepth 20000 in
theorem b94_316 {scr : List Int32} {w : zAW} {a0 : Nat} {x1 : Int32} {x2 : Int32} {x3 : Int32} {x4 : Int32} {x5 : Int32} {x6 : Int32} {x7 : Int32} {x8 : Int32} {x9 : Int32} {x10 : Int32} {x11 : Int32}  : zd scr 94 316 [some (.ref a0), some (.int x1), some (.int x2), some (.int x3), some (.int x4), some (.int x5), some (.int x6), some (.int x7), some (.int x8), some (.int x9), some (.int x10), some (.int x11), none, none, none] [] w = if (nI 0) = 0 then zd scr 94 705 [some (.ref a0), some (.int x1), some (.int x2), some (.int x3), some (.int x4), some (.int x5), some (.int x6), some (.int x7), some (.int x8), some (.int (nI 0)), some (.int x10), some (.int x11), none, none, none] [] w else zd scr 94 669 [some (.ref a0), some (.int x1), some (.int x2), some (.int x3), some (.int x4), some (.int x5), some (.int x6), some (.int x7), some (.int x8), some (.int (nI 0)), some (.int x10), some (.int x11), none, none, none] [] w := by
  refine Eq.trans (zd_iconst zh94 (v := (nI 0)) rfl rfl) ?_
  refine Eq.trans (zd_istore zh94 (ls' := [some (.ref a0), some (.int x1), some (.int x2), some (.int x3), some (.int x4), some (.int x5), some (.int x6), some (.int x7), some (.int x8), some (.int (nI 0)), some (.int x10), some (.int x11), none, none, none]) (Nat.le_of_ble_eq_true rfl) rfl rfl) ?_
  refine Eq.trans (zd_goto zh94 (t := 664) (by decide) rfl) ?_
  refine Eq.trans (zd_iload zh94 rfl rfl) ?_
  exact zd_ifeq zh94 (t := 705) (by decide) rfl
set_option maxRecDepth 20000 in
theorem b94_264 {scr : List Int32} {w : zAW} {a0 : Nat} {x1 : Int32} {x2 : Int32} {x3 : Int32} {x4 : Int32} {x5 : Int32} {x6 : Int32} {x7 : Int32} {x8 : Int32} {x9 : Int32} {x10 : Int32} {x11 : Int32} {y0 : Int32}  : zd scr 94 264 [some (.ref a0), some (.int x1), some (.int x2), some (.int x3), some (.int x4), some (.int x5), some (.int x6), some (.int x7), some (.int x8), some (.int x9), some (.int x10), some (.int x11), none, none, none] [.int y0] w = if y0 = (-4) then zd scr 94 269 [some (.ref a0), some (.int x1), some (.int x2), some (.int x3), some (.int x4), some (.int x5), some (.int x6), some (.int x7), some (.int x8), some (.int x9), some (.int x10), some (.int x11), none, none, none] [] w else zd scr 94 316 [some (.ref a0), some (.int x1), some (.int x2), some (.int x3), some (.int x4), some (.int x5), some (.int x6), some (.int x7), some (.int x8), some (.int x9), some (.int x10), some (.int x11), none, none, none] [] w := by
  refine Eq.trans (zd_bipush zh94 (v := (-4)) rfl rfl) ?_
  exact zd_icmpne zh94 (t := 316) (by decide) rfl
set_option maxRecDepth 20000 in
theorem b94_259 {scr : List Int32} {w : zAW} {a0 : Nat} {x1 : Int32} {x2 : Int32} {x3 : Int32} {x4 : Int32} {x5 : Int32} {x6 : Int32} {x7 : Int32} {x8 : Int32} {x9 : Int32} {x10 : Int32} {x11 : Int32} {y0 : Int32}  : zd scr 94 259 [some (.ref a0), some (.int x1), some (.int x2), some (.int x3), some (.int x4), some (.int x5), some (.int x6), some (.int x7), some (.int x8), some (.int x9), some (.int x10), some (.int x11), none, none, none] [.int y0] w = if y0 = x8 then zd scr 94 269 [some (.ref a0), some (.int x1), some (.int x2), some (.int x3), some (.int x4), some (.int x5), some (.int x6), some (.int x7), some (.int x8), some (.int x9), some (.int x10), some (.int x11), none, none, none] [] w else zd scr 94 316 [some (.ref a0), some (.int x1), some (.int x2), some (.int x3), some (.int x4), some (.int x5), some (.int x6), some (.int x7), some (.int x8), some (.int x9), some (.int x10), some (.int x11), none, none, none] [] w := by
  refine Eq.trans (zd_iload zh94 rfl rfl) ?_
  refine Eq.trans (zd_goto zh94 (t := 266) (by decide) rfl) ?_
  exact zd_icmpne zh94 (t := 316) (by decide) rfl
set_option maxRecDepth 20000 in
theorem b94_647 {scr : List Int32} {w : zAW} {a0 : Nat} {x1 : Int32} {x2 : Int32} {x3 : Int32} {x4 : Int32} {x5 : Int32} {x6 : Int32} {x7 : Int32} {x8 : Int32} {x9 : Int32} {x13 : Int32} {x14 : Int32} (h1 : zob w a0 5 = true) {f1 : Int32} {w1 : zAW} (h2 : zC scr 73 [.ref a0, .int (nI 4)] w = some (some (.int f1), w1)) : zd scr 94 647 [some (.ref a0), some (.int x1), some (.int x2), some (.int x3), some (.int x4), some (.int x5), some (.int x6), some (.int x7), some (.int x8), some (.int x9), none, none, none, some (.int x13), some (.int x14)] [] w = if f1 = (-6) then zd scr 94 657 [some (.ref a0), some (.int x1), some (.int x2), some (.int x3), some (.int x4), some (.int x5), some (.int x6), some (.int x7), some (.int x8), some (.int x9), none, none, none, some (.int x13), some (.int x14)] [] w1 else zd scr 94 661 [some (.ref a0), some (.int x1), some (.int x2), some (.int x3), some (.int x4), some (.int x5), some (.int x6), some (.int x7), some (.int x8), some (.int x9), none, none, none, some (.int x13), some (.int x14)] [] w1 := by
  refine Eq.trans (zd_aload_n zh94 rfl rfl) ?_
  refine Eq.trans (zd_iconst zh94 (v := (nI 4)) rfl rfl) ?_
  refine Eq.trans (zd_invVi zh94 zh73 rfl rfl ⟨Nat.le_of_ble_eq_true rfl, Nat.le_of_ble_eq_true rfl, Nat.le_of_ble_eq_true rfl, Nat.le_of_ble_eq_true rfl⟩ rfl h1 h2 rfl) ?_
  refine Eq.trans (zd_bipush zh94 (v := (-6)) rfl rfl) ?_
  exact zd_icmpne zh94 (t := 661) (by decide) rfl
set_option maxRecDepth 20000 in
theorem b94_285 {scr : List Int32} {w : zAW} {a0 : Nat} {x1 : Int32} {x2 : Int32} {x3 : Int32} {x4 : Int32} {x5 : Int32} {x6 : Int32} {x7 : Int32} {x8 : Int32} {x9 : Int32} {x10 : Int32} {x11 : Int32} {y0 : Int32} {y1 : Int32}  : zd scr 94 285 [some (.ref a0), some (.int x1), some (.int x2), some (.int x3), some (.int x4), some (.int x5), some (.int x6), some (.int x7), some (.int x8), some (.int x9), some (.int x10), some (.int x11), none, none, none] [.int y1, .int y0] w = if y0 = (y1 - (nI 0)) then zd scr 94 290 [some (.ref a0), some (.int x1), some (.int x2), some (.int x3), some (.int x4), some (.int x5), some (.int x6), some (.int x7), some (.int x8), some (.int x9), some (.int x10), some (.int x11), none, none, none] [] w else zd scr 94 316 [some (.ref a0), some (.int x1), some (.int x2), some (.int x3), some (.int x4), some (.int x5), some (.int x6), some (.int x7), some (.int x8), some (.int x9), some (.int x10), some (.int x11), none, none, none] [] w := by
  refine Eq.trans (zd_iconst zh94 (v := (nI 0)) rfl rfl) ?_
  refine Eq.trans (zd_isub zh94 rfl) ?_
  exact zd_icmpne zh94 (t := 316) (by decide) rfl
set_option maxRecDepth 20000 in
theorem b94_281 {scr : List Int32} {w : zAW} {a0 : Nat} {x1 : Int32} {x2 : Int32} {x3 : Int32} {x4 : Int32} {x5 : Int32} {x6 : Int32} {x7 : Int32} {x8 : Int32} {x9 : Int32} {x10 : Int32} {x11 : Int32} {y0 : Int32} {y1 : Int32}  : zd scr 94 281 [some (.ref a0), some (.int x1), some (.int x2), some (.int x3), some (.int x4), some (.int x5), some (.int x6), some (.int x7), some (.int x8), some (.int x9), some (.int x10), some (.int x11), none, none, none] [.int y1, .int y0] w = if y0 = (y1 - (nI 1)) then zd scr 94 290 [some (.ref a0), some (.int x1), some (.int x2), some (.int x3), some (.int x4), some (.int x5), some (.int x6), some (.int x7), some (.int x8), some (.int x9), some (.int x10), some (.int x11), none, none, none] [] w else zd scr 94 316 [some (.ref a0), some (.int x1), some (.int x2), some (.int x3), some (.int x4), some (.int x5), some (.int x6), some (.int x7), some (.int x8), some (.int x9), some (.int x10), some (.int x11), none, none, none] [] w := by
  refine Eq.trans (zd_iconst zh94 (v := (nI 1)) rfl rfl) ?_
  refine Eq.trans (zd_goto zh94 (t := 286) (by decide) rfl) ?_
  refine Eq.trans (zd_isub zh94 rfl) ?_
  exact zd_icmpne zh94 (t := 316) (by decide) rfl
set_option maxRecDepth 20000 in
theorem b94_657 {scr : List Int32} {w : zAW} {a0 : Nat} {x1 : Int32} {x2 : Int32} {x3 : Int32} {x4 : Int32} {x5 : Int32} {x6 : Int32} {x7 : Int32} {x8 : Int32} {x9 : Int32} {x13 : Int32} {x14 : Int32}  : zd scr 94 657 [some (.ref a0), some (.int x1), some (.int x2), some (.int x3), some (.int x4), some (.int x5), some (.int x6), some (.int x7), some (.int x8), some (.int x9), none, none, none, some (.int x13), some (.int x14)] [] w = if (nI 1) = 0 then zd scr 94 705 [some (.ref a0), some (.int x1), some (.int x2), some (.int x3), some (.int x4), some (.int x5), some (.int x6), some (.int x7), some (.int x8), some (.int (nI 1)), none, none, none, some (.int x13), some (.int x14)] [] w else zd scr 94 669 [some (.ref a0), some (.int x1), some (.int x2), some (.int x3), some (.int x4), some (.int x5), some (.int x6), some (.int x7), some (.int x8), some (.int (nI 1)), none, none, none, some (.int x13), some (.int x14)] [] w := by
  refine Eq.trans (zd_iconst zh94 (v := (nI 1)) rfl rfl) ?_
  refine Eq.trans (zd_goto zh94 (t := 662) (by decide) rfl) ?_
  refine Eq.trans (zd_istore zh94 (ls' := [some (.ref a0), some (.int x1), some (.int x2), some (.int x3), some (.int x4), some (.int x5), some (.int x6), some (.int x7), some (.int x8), some (.int (nI 1)), none, none, none, some (.int x13), some (.int x14)]) (Nat.le_of_ble_eq_true rfl) rfl rfl) ?_
  refine Eq.trans (zd_iload zh94 rfl rfl) ?_
  exact zd_ifeq zh94 (t := 705) (by decide) rfl
set_option maxRecDepth 20000 in
theorem b94_290 {scr : List Int32} {w : zAW} {a0 : Nat} {x1 : Int32} {x2 : Int32} {x3 : Int32} {x4 : Int32} {x5 : Int32} {x6 : Int32} {x7 : Int32} {x8 : Int32} {x9 : Int32} {x10 : Int32} {x11 : Int32} (h1 : zob w a0 5 = true) {f1 : Int32} {w1 : zAW} (h2 : zC scr 69 [.ref a0, .int (nI 1)] w = some (some (.int f1), w1)) : zd scr 94 290 [some (.ref a0), some (.int x1), some (.int x2), some (.int x3), some (.int x4), some (.int x5), some (.int x6), some (.int x7), some (.int x8), some (.int x9), some (.int x10), some (.int x11), none, none, none] [] w = if x11 = 0 then zd scr 94 307 [some (.ref a0), some (.int x1), some (.int x2), some (.int x3), some (.int x4), some (.int x5), some (.int x6), some (.int x7), some (.int x8), some (.int x9), some (.int x10), some (.int x11), none, none, none] [.int x10, .int f1] w1 else zd scr 94 302 [some (.ref a0), some (.int x1), some (.int x2), some (.int x3), some (.int x4), some (.int x5), some (.int x6), some (.int x7), some (.int x8), some (.int x9), some (.int x10), some (.int x11), none, none, none] [.int x10, .int f1] w1 := by
  refine Eq.trans (zd_aload_n zh94 rfl rfl) ?_
  refine Eq.trans (zd_iconst zh94 (v := (nI 1)) rfl rfl) ?_
  refine Eq.trans (zd_invVi zh94 zh69 rfl rfl ⟨Nat.le_of_ble_eq_true rfl, Nat.le_of_ble_eq_true rfl, Nat.le_of_ble_eq_true rfl, Nat.le_of_ble_eq_true rfl⟩ rfl h1 h2 rfl) ?_
  refine Eq.trans (zd_iload zh94 rfl rfl) ?_
  refine Eq.trans (zd_iload zh94 rfl rfl) ?_
  exact zd_ifeq zh94 (t := 307) (by decide) rfl
set_option maxRecDepth 20000 in
theorem b94_307 {scr : List Int32} {w : zAW} {a0 : Nat} {x1 : Int32} {x2 : Int32} {x3 : Int32} {x4 : Int32} {x5 : Int32} {x6 : Int32} {x7 : Int32} {x8 : Int32} {x9 : Int32} {x10 : Int32} {x11 : Int32} {y0 : Int32} {y1 : Int32}  : zd scr 94 307 [some (.ref a0), some (.int x1), some (.int x2), some (.int x3), some (.int x4), some (.int x5), some (.int x6), some (.int x7), some (.int x8), some (.int x9), some (.int x10), some (.int x11), none, none, none] [.int y1, .int y0] w = if y0 = (y1 + (nI 0)) then zd scr 94 312 [some (.ref a0), some (.int x1), some (.int x2), some (.int x3), some (.int x4), some (.int x5), some (.int x6), some (.int x7), some (.int x8), some (.int x9), some (.int x10), some (.int x11), none, none, none] [] w else zd scr 94 316 [some (.ref a0), some (.int x1), some (.int x2), some (.int x3), some (.int x4), some (.int x5), some (.int x6), some (.int x7), some (.int x8), some (.int x9), some (.int x10), some (.int x11), none, none, none] [] w := by
  refine Eq.trans (zd_iconst zh94 (v := (nI 0)) rfl rfl) ?_
  refine Eq.trans (zd_iadd zh94 rfl) ?_
  exact zd_icmpne zh94 (t := 316) (by decide) rfl
set_option maxRecDepth 20000 in
theorem b94_302 {scr : List Int32} {w : zAW} {a0 : Nat} {x1 : Int32} {x2 : Int32} {x3 : Int32} {x4 : Int32} {x5 : Int32} {x6 : Int32} {x7 : Int32} {x8 : Int32} {x9 : Int32} {x10 : Int32} {x11 : Int32} {y0 : Int32} {y1 : Int32}  : zd scr 94 302 [some (.ref a0), some (.int x1), some (.int x2), some (.int x3), some (.int x4), some (.int x5), some (.int x6), some (.int x7), some (.int x8), some (.int x9), some (.int x10), some (.int x11), none, none, none] [.int y1, .int y0] w = if y0 = (y1 + x8) then zd scr 94 312 [some (.ref a0), some (.int x1), some (.int x2), some (.int x3), some (.int x4), some (.int x5), some (.int x6), some (.int x7), some (.int x8), some (.int x9), some (.int x10), some (.int x11), none, none, none] [] w else zd scr 94 316 [some (.ref a0), some (.int x1), some (.int x2), some (.int x3), some (.int x4), some (.int x5), some (.int x6), some (.int x7), some (.int x8), some (.int x9), some (.int x10), some (.int x11), none, none, none] [] w := by
  refine Eq.trans (zd_iload zh94 rfl rfl) ?_
  refine Eq.trans (zd_goto zh94 (t := 308) (by decide) rfl) ?_
  refine Eq.trans (zd_iadd zh94 rfl) ?_
  exact zd_icmpne zh94 (t := 316) (by decide) rfl
/-! yL_cell: 95, MarbleHeirsLaw.cell([II)I -/
set_option maxRecDepth 20000 in
theorem b95_0 {scr : List Int32} {w : zAW} {x1 : Int32}  : zd scr 95 0 [some (.retAddr 0), some (.int x1)] [] w = if x1 < (Int32.ofNat scr.length) then zd scr 95 6 [some (.retAddr 0), some (.int x1)] [] w else zd scr 95 12 [some (.retAddr 0), some (.int x1)] [] w := by
  refine Eq.trans (zd_iload_n zh95 rfl rfl) ?_
  refine Eq.trans (zd_aload_s zh95 rfl rfl) ?_
  refine Eq.trans (zd_slen zh95 (Nat.le_of_ble_eq_true rfl) rfl) ?_
  exact zd_icmpge zh95 (t := 12) (by decide) rfl
set_option maxRecDepth 20000 in
theorem b95_6 {scr : List Int32} {w : zAW} {x1 : Int32} {f1 : Int32} (h1 : ¬ x1 < 0) (h2 : scr[(x1).toNatClampNeg]? = some f1) : zd scr 95 6 [some (.retAddr 0), some (.int x1)] [] w = some (some (.int f1), w) := by
  refine Eq.trans (zd_aload_s zh95 rfl rfl) ?_
  refine Eq.trans (zd_iload_n zh95 rfl rfl) ?_
  refine Eq.trans (zd_sld zh95 (Nat.le_of_ble_eq_true rfl) h1 h2 rfl) ?_
  refine Eq.trans (zd_goto zh95 (t := 20) (by decide) rfl) ?_
  exact zd_iret zh95 rfl rfl
set_option maxRecDepth 20000 in
theorem b95_12 {scr : List Int32} {w : zAW} {x1 : Int32}  : zd scr 95 12 [some (.retAddr 0), some (.int x1)] [] w = some (some (.int (((nI 40503) * x1) + (nI 977))), w) := by
  refine Eq.trans (zd_ldc zh95 (n := 40503) (v := (nI 40503)) rfl rfl rfl) ?_
  refine Eq.trans (zd_iload_n zh95 rfl rfl) ?_
  refine Eq.trans (zd_imul zh95 rfl) ?_
  refine Eq.trans (zd_sipush zh95 (v := (nI 977)) rfl rfl) ?_
  refine Eq.trans (zd_iadd zh95 rfl) ?_
  exact zd_iret zh95 rfl rfl
/-! yL_law: 96, MarbleHeirsLaw.law([I)Z -/
set_option maxRecDepth 20000 in
theorem b96_70 {scr : List Int32} {w : zAW} {a1 : Nat} {x2 : Int32} {x3 : Int32} {x4 : Int32}  : zd scr 96 70 [some (.retAddr 0), some (.ref a1), some (.int x2), some (.int x3), some (.int x4)] [] w = if x4 < x3 then zd scr 96 76 [some (.retAddr 0), some (.ref a1), some (.int x2), some (.int x3), some (.int x4)] [] w else zd scr 96 161 [some (.retAddr 0), some (.ref a1), some (.int x2), some (.int x3), some (.int x4)] [] w := by
  refine Eq.trans (zd_iload zh96 rfl rfl) ?_
  refine Eq.trans (zd_iload_n zh96 rfl rfl) ?_
  exact zd_icmpge zh96 (t := 161) (by decide) rfl
set_option maxRecDepth 20000 in
theorem b96_76 {scr : List Int32} {w : zAW} {a1 : Nat} {x2 : Int32} {x3 : Int32} {x4 : Int32}  : zd scr 96 76 [some (.retAddr 0), some (.ref a1), some (.int x2), some (.int x3), some (.int x4)] [] w = if x2 = 0 then zd scr 96 161 [some (.retAddr 0), some (.ref a1), some (.int x2), some (.int x3), some (.int x4)] [] w else zd scr 96 80 [some (.retAddr 0), some (.ref a1), some (.int x2), some (.int x3), some (.int x4)] [] w := by
  refine Eq.trans (zd_iload_n zh96 rfl rfl) ?_
  exact zd_ifeq zh96 (t := 161) (by decide) rfl
set_option maxRecDepth 20000 in
theorem b96_161 {scr : List Int32} {w : zAW} {a1 : Nat} {x2 : Int32} {x3 : Int32} {x4 : Int32} (h1 : zrok (some .boolean) x2 = true) : zd scr 96 161 [some (.retAddr 0), some (.ref a1), some (.int x2), some (.int x3), some (.int x4)] [] w = some (some (.int x2), w) := by
  refine Eq.trans (zd_iload_n zh96 rfl rfl) ?_
  exact zd_iret zh96 h1 rfl
set_option maxRecDepth 20000 in
theorem b96_80 {scr : List Int32} {w : zAW} {a1 : Nat} {x2 : Int32} {x3 : Int32} {x4 : Int32} {f1 : Int32} {w1 : zAW} (h1 : zC scr 95 [.retAddr 0, .int ((nI 3) * x4)] w = some (some (.int f1), w1)) {f2 : Int32} {w2 : zAW} (h2 : zC scr 86 [.int f1, .int (nI 16)] w1 = some (some (.int f2), w2)) {f3 : Int32} {w3 : zAW} (h3 : zC scr 95 [.retAddr 0, .int (((nI 3) * x4) + (nI 1))] w2 = some (some (.int f3), w3)) {f4 : Int32} {w4 : zAW} (h4 : zC scr 95 [.retAddr 0, .int (((nI 3) * x4) + (nI 2))] w3 = some (some (.int f4), w4)) {f5 : Int32} {w5 : zAW} (h5 : zC scr 94 [.ref a1, .int f2, .int f3, .int f4] w4 = some (some (.int f5), w5)) : zd scr 96 80 [some (.retAddr 0), some (.ref a1), some (.int x2), some (.int x3), some (.int x4)] [] w = if f5 = 0 then zd scr 96 153 [some (.retAddr 0), some (.ref a1), some (.int x2), some (.int x3), some (.int x4)] [] w5 else zd scr 96 120 [some (.retAddr 0), some (.ref a1), some (.int x2), some (.int x3), some (.int x4)] [] w5 := by
  refine Eq.trans (zd_aload_n zh96 rfl rfl) ?_
  refine Eq.trans (zd_aload_s zh96 rfl rfl) ?_
  refine Eq.trans (zd_iconst zh96 (v := (nI 3)) rfl rfl) ?_
  refine Eq.trans (zd_iload zh96 rfl rfl) ?_
  refine Eq.trans (zd_imul zh96 rfl) ?_
  refine Eq.trans (zd_invSi zh96 zh95 rfl rfl ⟨Nat.le_of_ble_eq_true rfl, Nat.le_of_ble_eq_true rfl, Nat.le_of_ble_eq_true rfl, Or.inr ⟨rfl, rfl⟩, Nat.le_of_ble_eq_true rfl⟩ rfl h1 rfl) ?_
  refine Eq.trans (zd_bipush zh96 (v := (nI 16)) rfl rfl) ?_
  refine Eq.trans (zd_invSi zh96 zh86 rfl rfl ⟨Nat.le_of_ble_eq_true rfl, Nat.le_of_ble_eq_true rfl, Nat.le_of_ble_eq_true rfl, Or.inl (Nat.le_of_ble_eq_true rfl), Nat.le_of_ble_eq_true rfl⟩ rfl h2 rfl) ?_
  refine Eq.trans (zd_aload_s zh96 rfl rfl) ?_
  refine Eq.trans (zd_iconst zh96 (v := (nI 3)) rfl rfl) ?_
  refine Eq.trans (zd_iload zh96 rfl rfl) ?_
  refine Eq.trans (zd_imul zh96 rfl) ?_
  refine Eq.trans (zd_iconst zh96 (v := (nI 1)) rfl rfl) ?_
  refine Eq.trans (zd_iadd zh96 rfl) ?_
  refine Eq.trans (zd_invSi zh96 zh95 rfl rfl ⟨Nat.le_of_ble_eq_true rfl, Nat.le_of_ble_eq_true rfl, Nat.le_of_ble_eq_true rfl, Or.inr ⟨rfl, rfl⟩, Nat.le_of_ble_eq_true rfl⟩ rfl h3 rfl) ?_
  refine Eq.trans (zd_aload_s zh96 rfl rfl) ?_
  refine Eq.trans (zd_iconst zh96 (v := (nI 3)) rfl rfl) ?_
  refine Eq.trans (zd_iload zh96 rfl rfl) ?_
  refine Eq.trans (zd_imul zh96 rfl) ?_
  refine Eq.trans (zd_iconst zh96 (v := (nI 2)) rfl rfl) ?_
  refine Eq.trans (zd_iadd zh96 rfl) ?_
  refine Eq.trans (zd_invSi zh96 zh95 rfl rfl ⟨Nat.le_of_ble_eq_true rfl, Nat.le_of_ble_eq_true rfl, Nat.le_of_ble_eq_true rfl, Or.inr ⟨rfl, rfl⟩, Nat.le_of_ble_eq_true rfl⟩ rfl h4 rfl) ?_
  refine Eq.trans (zd_invSi zh96 zh94 rfl rfl ⟨Nat.le_of_ble_eq_true rfl, Nat.le_of_ble_eq_true rfl, Nat.le_of_ble_eq_true rfl, Or.inl (Nat.le_of_ble_eq_true rfl), Nat.le_of_ble_eq_true rfl⟩ rfl h5 rfl) ?_
  exact zd_ifeq zh96 (t := 153) (by decide) rfl
set_option maxRecDepth 20000 in
theorem b96_153 {scr : List Int32} {w : zAW} {a1 : Nat} {x2 : Int32} {x3 : Int32} {x4 : Int32}  : zd scr 96 153 [some (.retAddr 0), some (.ref a1), some (.int x2), some (.int x3), some (.int x4)] [] w = zd scr 96 70 [some (.retAddr 0), some (.ref a1), some (.int (nI 0)), some (.int x3), some (.int (x4 + (nI 1)))] [] w := by
  refine Eq.trans (zd_iconst zh96 (v := (nI 0)) rfl rfl) ?_
  refine Eq.trans (zd_istore_n zh96 (ls' := [some (.retAddr 0), some (.ref a1), some (.int (nI 0)), some (.int x3), some (.int x4)]) (Nat.le_of_ble_eq_true rfl) rfl rfl) ?_
  refine Eq.trans (zd_iinc zh96 (ls' := [some (.retAddr 0), some (.ref a1), some (.int (nI 0)), some (.int x3), some (.int (x4 + (nI 1)))]) (v := (x4 + (nI 1))) rfl rfl rfl rfl) ?_
  refine Eq.trans (zd_goto zh96 (t := 70) (by decide) rfl) ?_
  exact rfl
set_option maxRecDepth 20000 in
theorem b96_120 {scr : List Int32} {w : zAW} {a1 : Nat} {x2 : Int32} {x3 : Int32} {x4 : Int32} {f1 : Int32} {w1 : zAW} (h1 : zC scr 93 [.ref a1] w = some (some (.int f1), w1)) : zd scr 96 120 [some (.retAddr 0), some (.ref a1), some (.int x2), some (.int x3), some (.int x4)] [] w = if f1 = 0 then zd scr 96 153 [some (.retAddr 0), some (.ref a1), some (.int x2), some (.int x3), some (.int x4)] [] w1 else zd scr 96 127 [some (.retAddr 0), some (.ref a1), some (.int x2), some (.int x3), some (.int x4)] [] w1 := by
  refine Eq.trans (zd_aload_n zh96 rfl rfl) ?_
  refine Eq.trans (zd_invSi zh96 zh93 rfl rfl ⟨Nat.le_of_ble_eq_true rfl, Nat.le_of_ble_eq_true rfl, Nat.le_of_ble_eq_true rfl, Or.inl (Nat.le_of_ble_eq_true rfl), Nat.le_of_ble_eq_true rfl⟩ rfl h1 rfl) ?_
  exact zd_ifeq zh96 (t := 153) (by decide) rfl
set_option maxRecDepth 20000 in
theorem b96_127 {scr : List Int32} {w : zAW} {a1 : Nat} {x2 : Int32} {x3 : Int32} {x4 : Int32}  : zd scr 96 127 [some (.retAddr 0), some (.ref a1), some (.int x2), some (.int x3), some (.int x4)] [] w = if (zrem x4 (nI 4)) = (nI 3) then zd scr 96 135 [some (.retAddr 0), some (.ref a1), some (.int x2), some (.int x3), some (.int x4)] [] w else zd scr 96 149 [some (.retAddr 0), some (.ref a1), some (.int x2), some (.int x3), some (.int x4)] [] w := by
  refine Eq.trans (zd_iload zh96 rfl rfl) ?_
  refine Eq.trans (zd_iconst zh96 (v := (nI 4)) rfl rfl) ?_
  refine Eq.trans (zd_irem zh96 (by decide) rfl) ?_
  refine Eq.trans (zd_iconst zh96 (v := (nI 3)) rfl rfl) ?_
  exact zd_icmpne zh96 (t := 149) (by decide) rfl
set_option maxRecDepth 20000 in
theorem b96_135 {scr : List Int32} {w : zAW} {a1 : Nat} {x2 : Int32} {x3 : Int32} {x4 : Int32} {f1 : Int32} {w1 : zAW} (h1 : zC scr 92 [.ref a1] w = some (some (.int f1), w1)) : zd scr 96 135 [some (.retAddr 0), some (.ref a1), some (.int x2), some (.int x3), some (.int x4)] [] w = if f1 = 0 then zd scr 96 153 [some (.retAddr 0), some (.ref a1), some (.int x2), some (.int x3), some (.int x4)] [] w1 else zd scr 96 142 [some (.retAddr 0), some (.ref a1), some (.int x2), some (.int x3), some (.int x4)] [] w1 := by
  refine Eq.trans (zd_aload_n zh96 rfl rfl) ?_
  refine Eq.trans (zd_invSi zh96 zh92 rfl rfl ⟨Nat.le_of_ble_eq_true rfl, Nat.le_of_ble_eq_true rfl, Nat.le_of_ble_eq_true rfl, Or.inl (Nat.le_of_ble_eq_true rfl), Nat.le_of_ble_eq_true rfl⟩ rfl h1 rfl) ?_
  exact zd_ifeq zh96 (t := 153) (by decide) rfl
set_option maxRecDepth 20000 in
theorem b96_149 {scr : List Int32} {w : zAW} {a1 : Nat} {x2 : Int32} {x3 : Int32} {x4 : Int32}  : zd scr 96 149 [some (.retAddr 0), some (.ref a1), some (.int x2), some (.int x3), some (.int x4)] [] w = zd scr 96 70 [some (.retAddr 0), some (.ref a1), some (.int (nI 1)), some (.int x3), some (.int (x4 + (nI 1)))] [] w := by
  refine Eq.trans (zd_iconst zh96 (v := (nI 1)) rfl rfl) ?_
  refine Eq.trans (zd_goto zh96 (t := 154) (by decide) rfl) ?_
  refine Eq.trans (zd_istore_n zh96 (ls' := [some (.retAddr 0), some (.ref a1), some (.int (nI 1)), some (.int x3), some (.int x4)]) (Nat.le_of_ble_eq_true rfl) rfl rfl) ?_
  refine Eq.trans (zd_iinc zh96 (ls' := [some (.retAddr 0), some (.ref a1), some (.int (nI 1)), some (.int x3), some (.int (x4 + (nI 1)))]) (v := (x4 + (nI 1))) rfl rfl rfl rfl) ?_
  refine Eq.trans (zd_goto zh96 (t := 70) (by decide) rfl) ?_
  exact rfl
set_option maxRecDepth 20000 in
theorem b96_142 {scr : List Int32} {w : zAW} {a1 : Nat} {x2 : Int32} {x3 : Int32} {x4 : Int32} {f1 : Int32} {w1 : zAW} (h1 : zC scr 93 [.ref a1] w = some (some (.int f1), w1)) : zd scr 96 142 [some (.retAddr 0), some (.ref a1), some (.int x2), some (.int x3), some (.int x4)] [] w = if f1 = 0 then zd scr 96 153 [some (.retAddr 0), some (.ref a1), some (.int x2), some (.int x3), some (.int x4)] [] w1 else zd scr 96 149 [some (.retAddr 0), some (.ref a1), some (.int x2), some (.int x3), some (.int x4)] [] w1 := by
  refine Eq.trans (zd_aload_n zh96 rfl rfl) ?_
  refine Eq.trans (zd_invSi zh96 zh93 rfl rfl ⟨Nat.le_of_ble_eq_true rfl, Nat.le_of_ble_eq_true rfl, Nat.le_of_ble_eq_true rfl, Or.inl (Nat.le_of_ble_eq_true rfl), Nat.le_of_ble_eq_true rfl⟩ rfl h1 rfl) ?_
  exact zd_ifeq zh96 (t := 153) (by decide) rfl
