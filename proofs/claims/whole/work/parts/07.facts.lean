theorem zz_t1 {i : Nat} {w : Cond} (h : tables_1_1[i]? = some w) : w ∈ lw_tbl := List.mem_append_right _ (List.mem_append_left _ (List.mem_of_getElem? h))
theorem zz_t2 {i : Nat} {w : Cond} (h : tables_1_2[i]? = some w) : w ∈ lw_tbl := List.mem_append_right _ (List.mem_append_right _ (List.mem_append_left _ (List.mem_of_getElem? h)))
theorem zz_t3 {i : Nat} {w : Cond} (h : tables_1_3[i]? = some w) : w ∈ lw_tbl := List.mem_append_right _ (List.mem_append_right _ (List.mem_append_right _ (List.mem_append_left _ (List.mem_of_getElem? h))))
theorem zz_t4 {i : Nat} {w : Cond} (h : tables_1_4[i]? = some w) : w ∈ lw_tbl := List.mem_append_right _ (List.mem_append_right _ (List.mem_append_right _ (List.mem_append_right _ (List.mem_of_getElem? h))))
theorem zz_p {i : Nat} {w : Cond} (h : (k2_sels lw_privs)[i]? = some w) : w ∈ lw_tbl := List.mem_append_left _ (List.mem_of_getElem? h)
def zGW : List Cond := lw_tbl.filter goodWord
theorem zz_g {w : Cond} (h : w ∈ lw_tbl) (hg : goodWord w = true) : w ∈ zGW := List.mem_filter.mpr ⟨h, hg⟩
set_option maxRecDepth 20000 in
theorem zin0 : ∀ w ∈ u_ws RX0 TX0 6, w ∈ zGW := ((List.forall_mem_cons.mpr ⟨(zz_g (zz_t1 (i := 130) rfl) rfl), (List.forall_mem_cons.mpr ⟨(zz_g (zz_t1 (i := 132) rfl) rfl), (List.forall_mem_cons.mpr ⟨(zz_g (zz_t1 (i := 134) rfl) rfl), (List.forall_mem_cons.mpr ⟨(zz_g (zz_t1 (i := 136) rfl) rfl), (List.forall_mem_cons.mpr ⟨(zz_g (zz_t1 (i := 138) rfl) rfl), (List.forall_mem_cons.mpr ⟨(zz_g (zz_t1 (i := 140) rfl) rfl), (fun _ h => absurd h List.not_mem_nil)⟩)⟩)⟩)⟩)⟩)⟩) : ∀ w ∈ [u_lay RX0 TX0 0, u_lay RX0 TX0 1, u_lay RX0 TX0 2, u_lay RX0 TX0 3, u_lay RX0 TX0 4, u_lay RX0 TX0 5], w ∈ zGW)
set_option maxRecDepth 20000 in
theorem zin1 : ∀ w ∈ u_ws RX1 TX1 2, w ∈ zGW := ((List.forall_mem_cons.mpr ⟨(zz_g (zz_t1 (i := 32) rfl) rfl), (List.forall_mem_cons.mpr ⟨(zz_g (zz_t1 (i := 34) rfl) rfl), (fun _ h => absurd h List.not_mem_nil)⟩)⟩) : ∀ w ∈ [u_lay RX1 TX1 0, u_lay RX1 TX1 1], w ∈ zGW)
set_option maxRecDepth 20000 in
theorem zin2 : ∀ w ∈ u_ws RX2 TX2 2, w ∈ zGW := ((List.forall_mem_cons.mpr ⟨(zz_g (zz_t1 (i := 94) rfl) rfl), (List.forall_mem_cons.mpr ⟨(zz_g (zz_t1 (i := 96) rfl) rfl), (fun _ h => absurd h List.not_mem_nil)⟩)⟩) : ∀ w ∈ [u_lay RX2 TX2 0, u_lay RX2 TX2 1], w ∈ zGW)
set_option maxRecDepth 20000 in
theorem zin3 : ∀ w ∈ u_ws RX3 TX3 11, w ∈ zGW := ((List.forall_mem_cons.mpr ⟨(zz_g (zz_t1 (i := 59) rfl) rfl), (List.forall_mem_cons.mpr ⟨(zz_g (zz_t1 (i := 61) rfl) rfl), (List.forall_mem_cons.mpr ⟨(zz_g (zz_t1 (i := 63) rfl) rfl), (List.forall_mem_cons.mpr ⟨(zz_g (zz_t1 (i := 65) rfl) rfl), (List.forall_mem_cons.mpr ⟨(zz_g (zz_t1 (i := 67) rfl) rfl), (List.forall_mem_cons.mpr ⟨(zz_g (zz_t1 (i := 69) rfl) rfl), (List.forall_mem_cons.mpr ⟨(zz_g (zz_t1 (i := 71) rfl) rfl), (List.forall_mem_cons.mpr ⟨(zz_g (zz_t1 (i := 73) rfl) rfl), (List.forall_mem_cons.mpr ⟨(zz_g (zz_t1 (i := 75) rfl) rfl), (List.forall_mem_cons.mpr ⟨(zz_g (zz_t1 (i := 77) rfl) rfl), (List.forall_mem_cons.mpr ⟨(zz_g (zz_t1 (i := 79) rfl) rfl), (fun _ h => absurd h List.not_mem_nil)⟩)⟩)⟩)⟩)⟩)⟩)⟩)⟩)⟩)⟩)⟩) : ∀ w ∈ [u_lay RX3 TX3 0, u_lay RX3 TX3 1, u_lay RX3 TX3 2, u_lay RX3 TX3 3, u_lay RX3 TX3 4, u_lay RX3 TX3 5, u_lay RX3 TX3 6, u_lay RX3 TX3 7, u_lay RX3 TX3 8, u_lay RX3 TX3 9, u_lay RX3 TX3 10], w ∈ zGW)
set_option maxRecDepth 20000 in
theorem zin4 : ∀ w ∈ u_ws RX4 TX4 2, w ∈ zGW := ((List.forall_mem_cons.mpr ⟨(zz_g (zz_t1 (i := 108) rfl) rfl), (List.forall_mem_cons.mpr ⟨(zz_g (zz_t1 (i := 110) rfl) rfl), (fun _ h => absurd h List.not_mem_nil)⟩)⟩) : ∀ w ∈ [u_lay RX4 TX4 0, u_lay RX4 TX4 1], w ∈ zGW)
set_option maxRecDepth 20000 in
theorem zin5 : ∀ w ∈ u_ws RX5 TX5 7, w ∈ zGW := ((List.forall_mem_cons.mpr ⟨(zz_g (zz_t1 (i := 150) rfl) rfl), (List.forall_mem_cons.mpr ⟨(zz_g (zz_t1 (i := 152) rfl) rfl), (List.forall_mem_cons.mpr ⟨(zz_g (zz_t1 (i := 154) rfl) rfl), (List.forall_mem_cons.mpr ⟨(zz_g (zz_t1 (i := 156) rfl) rfl), (List.forall_mem_cons.mpr ⟨(zz_g (zz_t1 (i := 158) rfl) rfl), (List.forall_mem_cons.mpr ⟨(zz_g (zz_t1 (i := 160) rfl) rfl), (List.forall_mem_cons.mpr ⟨(zz_g (zz_t1 (i := 162) rfl) rfl), (fun _ h => absurd h List.not_mem_nil)⟩)⟩)⟩)⟩)⟩)⟩)⟩) : ∀ w ∈ [u_lay RX5 TX5 0, u_lay RX5 TX5 1, u_lay RX5 TX5 2, u_lay RX5 TX5 3, u_lay RX5 TX5 4, u_lay RX5 TX5 5, u_lay RX5 TX5 6], w ∈ zGW)
set_option maxRecDepth 20000 in
theorem zin6 : ∀ w ∈ u_ws RX6 TX6 10, w ∈ zGW := ((List.forall_mem_cons.mpr ⟨(zz_g (zz_t3 (i := 46) rfl) rfl), (List.forall_mem_cons.mpr ⟨(zz_g (zz_t3 (i := 48) rfl) rfl), (List.forall_mem_cons.mpr ⟨(zz_g (zz_t3 (i := 50) rfl) rfl), (List.forall_mem_cons.mpr ⟨(zz_g (zz_t3 (i := 52) rfl) rfl), (List.forall_mem_cons.mpr ⟨(zz_g (zz_t3 (i := 54) rfl) rfl), (List.forall_mem_cons.mpr ⟨(zz_g (zz_t3 (i := 56) rfl) rfl), (List.forall_mem_cons.mpr ⟨(zz_g (zz_t3 (i := 58) rfl) rfl), (List.forall_mem_cons.mpr ⟨(zz_g (zz_t3 (i := 60) rfl) rfl), (List.forall_mem_cons.mpr ⟨(zz_g (zz_t3 (i := 62) rfl) rfl), (List.forall_mem_cons.mpr ⟨(zz_g (zz_t3 (i := 64) rfl) rfl), (fun _ h => absurd h List.not_mem_nil)⟩)⟩)⟩)⟩)⟩)⟩)⟩)⟩)⟩)⟩) : ∀ w ∈ [u_lay RX6 TX6 0, u_lay RX6 TX6 1, u_lay RX6 TX6 2, u_lay RX6 TX6 3, u_lay RX6 TX6 4, u_lay RX6 TX6 5, u_lay RX6 TX6 6, u_lay RX6 TX6 7, u_lay RX6 TX6 8, u_lay RX6 TX6 9], w ∈ zGW)
theorem zcl_ok {ci : Nat} {q : vw_C} (h : zcl[ci]? = some q) : q = (zcn ci, zT ci, q.2.2) ∧ (∀ w ∈ u_ws q.1 q.2.1 q.2.2, w ∈ zGW) ∧ (∀ k, k < q.2.2 → parseFieldDescriptor (q.2.1 k).2.2.1 = some (zTy ci k)) ∧ (∀ a, a < q.2.2 → ∀ b, b < q.2.2 → a ≠ b → (q.2.1 a).2.1 ≠ (q.2.1 b).2.1) ∧ ∀ k, (q.2.1 k).1 = q.1 := by
  have hc : ci < 7 := (List.getElem?_eq_some_iff.mp h).1
  rcases ci with _ | _ | _ | _ | _ | _ | _ | n
  · cases h; exact ⟨rfl, zin0, tyX0_ok, nmX0, fun k => by simp only [TX0]; (repeat' split) <;> rfl⟩
  · cases h; exact ⟨rfl, zin1, tyX1_ok, nmX1, fun k => by simp only [TX1]; (repeat' split) <;> rfl⟩
  · cases h; exact ⟨rfl, zin2, tyX2_ok, nmX2, fun k => by simp only [TX2]; (repeat' split) <;> rfl⟩
  · cases h; exact ⟨rfl, zin3, tyX3_ok, nmX3, fun k => by simp only [TX3]; (repeat' split) <;> rfl⟩
  · cases h; exact ⟨rfl, zin4, tyX4_ok, nmX4, fun k => by simp only [TX4]; (repeat' split) <;> rfl⟩
  · cases h; exact ⟨rfl, zin5, tyX5_ok, nmX5, fun k => by simp only [TX5]; (repeat' split) <;> rfl⟩
  · cases h; exact ⟨rfl, zin6, tyX6_ok, nmX6, fun k => by simp only [TX6]; (repeat' split) <;> rfl⟩
  · omega
def zmOk (r : zRec) : Prop := plainName r.1.cls = true ∧ Cond.code r.1 r.2.1 r.2.2.1 r.2.2.2.1 ∈ zGW ∧ Cond.initialized r.1.cls ∈ zGW ∧ (parseMethodDescriptor r.1.desc).map (fun q => q.parameters.length) = some r.2.2.2.2.2.2.2 ∧ r.1.cls ≠ "java/lang/invoke/MethodHandle" ∧ r.1.cls ≠ "java/lang/invoke/VarHandle" ∧ zcn r.2.2.2.2.2.1 = r.1.cls ∧ r.2.2.1 ≤ 17 ∧ zdecs r.2.1 r.2.2.2.2.1
set_option maxRecDepth 20000 in
theorem zm0 : zmOk (yX0_init, cX0_init, 1, none, zc0, 0, 1, 0) := ⟨by decide +kernel, (zz_g (zz_t1 (i := 117) rfl) rfl), (zz_g (zz_t1 (i := 6) rfl) rfl), by decide +kernel, by decide +kernel, by decide +kernel, rfl, Nat.le_of_ble_eq_true rfl, zcd0⟩
set_option maxRecDepth 20000 in
theorem zm1 : zmOk (yX0_tell, cX0_tell, 2, (some .int), zc1, 0, 0, 1) := ⟨by decide +kernel, (zz_g (zz_t2 (i := 212) rfl) rfl), (zz_g (zz_t1 (i := 6) rfl) rfl), by decide +kernel, by decide +kernel, by decide +kernel, rfl, Nat.le_of_ble_eq_true rfl, zcd1⟩
set_option maxRecDepth 20000 in
theorem zm2 : zmOk (yX0_searchIn, cX0_searchIn, 5, none, zc2, 0, 4, 1) := ⟨by decide +kernel, (zz_g (zz_t2 (i := 110) rfl) rfl), (zz_g (zz_t1 (i := 6) rfl) rfl), by decide +kernel, by decide +kernel, by decide +kernel, rfl, Nat.le_of_ble_eq_true rfl, zcd2⟩
set_option maxRecDepth 20000 in
theorem zm3 : zmOk (yX0_searchPartners, cX0_searchPartners, 13, none, zc3, 0, 3, 3) := ⟨by decide +kernel, (zz_g (zz_t2 (i := 115) rfl) rfl), (zz_g (zz_t1 (i := 6) rfl) rfl), by decide +kernel, by decide +kernel, by decide +kernel, rfl, Nat.le_of_ble_eq_true rfl, zcd3⟩
set_option maxRecDepth 20000 in
theorem zm4 : zmOk (yX0_one, cX0_one, 2, (some .int), zc4, 0, 0, 2) := ⟨by decide +kernel, (zz_g (zz_t2 (i := 122) rfl) rfl), (zz_g (zz_t1 (i := 6) rfl) rfl), by decide +kernel, by decide +kernel, by decide +kernel, rfl, Nat.le_of_ble_eq_true rfl, zcd4⟩
set_option maxRecDepth 20000 in
theorem zm5 : zmOk (yX0_weigh, cX0_weigh, 9, none, zc5, 0, 2, 6) := ⟨by decide +kernel, (zz_g (zz_t2 (i := 129) rfl) rfl), (zz_g (zz_t1 (i := 6) rfl) rfl), by decide +kernel, by decide +kernel, by decide +kernel, rfl, Nat.le_of_ble_eq_true rfl, zcd5⟩
set_option maxRecDepth 20000 in
theorem zm6 : zmOk (yX1_init, cX1_init, 1, none, zc6, 1, 1, 0) := ⟨by decide +kernel, (zz_g (zz_t1 (i := 28) rfl) rfl), (zz_g (zz_t1 (i := 3) rfl) rfl), by decide +kernel, by decide +kernel, by decide +kernel, rfl, Nat.le_of_ble_eq_true rfl, zcd6⟩
set_option maxRecDepth 20000 in
theorem zm7 : zmOk (yX1_copyFrom, cX1_copyFrom, 2, none, zc7, 1, 1, 1) := ⟨by decide +kernel, (zz_g (zz_t1 (i := 190) rfl) rfl), (zz_g (zz_t1 (i := 3) rfl) rfl), by decide +kernel, by decide +kernel, by decide +kernel, rfl, Nat.le_of_ble_eq_true rfl, zcd7⟩
set_option maxRecDepth 20000 in
theorem zm8 : zmOk (yX1_count, cX1_count, 2, (some .int), zc8, 1, 0, 1) := ⟨by decide +kernel, (zz_g (zz_t1 (i := 210) rfl) rfl), (zz_g (zz_t1 (i := 3) rfl) rfl), by decide +kernel, by decide +kernel, by decide +kernel, rfl, Nat.le_of_ble_eq_true rfl, zcd8⟩
set_option maxRecDepth 20000 in
theorem zm9 : zmOk (yX1_has, cX1_has, 3, (some .boolean), zc9, 1, 1, 2) := ⟨by decide +kernel, (zz_g (zz_t2 (i := 78) rfl) rfl), (zz_g (zz_t1 (i := 3) rfl) rfl), by decide +kernel, by decide +kernel, by decide +kernel, rfl, Nat.le_of_ble_eq_true rfl, zcd9⟩
set_option maxRecDepth 20000 in
theorem zm10 : zmOk (yX1_colour, cX1_colour, 3, (some .int), zc10, 1, 0, 2) := ⟨by decide +kernel, (zz_g (zz_t2 (i := 119) rfl) rfl), (zz_g (zz_t1 (i := 3) rfl) rfl), by decide +kernel, by decide +kernel, by decide +kernel, rfl, Nat.le_of_ble_eq_true rfl, zcd10⟩
set_option maxRecDepth 20000 in
theorem zm11 : zmOk (yX1_value, cX1_value, 3, (some .int), zc11, 1, 0, 2) := ⟨by decide +kernel, (zz_g (zz_t2 (i := 90) rfl) rfl), (zz_g (zz_t1 (i := 3) rfl) rfl), by decide +kernel, by decide +kernel, by decide +kernel, rfl, Nat.le_of_ble_eq_true rfl, zcd11⟩
set_option maxRecDepth 20000 in
theorem zm12 : zmOk (yX1_describe, cX1_describe, 4, (some .int), zc12, 1, 1, 3) := ⟨by decide +kernel, (zz_g (zz_t2 (i := 152) rfl) rfl), (zz_g (zz_t1 (i := 3) rfl) rfl), by decide +kernel, by decide +kernel, by decide +kernel, rfl, Nat.le_of_ble_eq_true rfl, zcd12⟩
set_option maxRecDepth 20000 in
theorem zm13 : zmOk (yX1_sum, cX1_sum, 4, (some .int), zc13, 1, 0, 1) := ⟨by decide +kernel, (zz_g (zz_t2 (i := 44) rfl) rfl), (zz_g (zz_t1 (i := 3) rfl) rfl), by decide +kernel, by decide +kernel, by decide +kernel, rfl, Nat.le_of_ble_eq_true rfl, zcd13⟩
set_option maxRecDepth 20000 in
theorem zm14 : zmOk (yX1_countOf, cX1_countOf, 5, (some .int), zc14, 1, 0, 2) := ⟨by decide +kernel, (zz_g (zz_t1 (i := 235) rfl) rfl), (zz_g (zz_t1 (i := 3) rfl) rfl), by decide +kernel, by decide +kernel, by decide +kernel, rfl, Nat.le_of_ble_eq_true rfl, zcd14⟩
set_option maxRecDepth 20000 in
theorem zm15 : zmOk (yX1_hasRoom, cX1_hasRoom, 1, (some .boolean), zc15, 1, 1, 0) := ⟨by decide +kernel, (zz_g (zz_t2 (i := 15) rfl) rfl), (zz_g (zz_t1 (i := 3) rfl) rfl), by decide +kernel, by decide +kernel, by decide +kernel, rfl, Nat.le_of_ble_eq_true rfl, zcd15⟩
set_option maxRecDepth 20000 in
theorem zm16 : zmOk (yX1_add, cX1_add, 3, (some .boolean), zc16, 1, 2, 2) := ⟨by decide +kernel, (zz_g (zz_t2 (i := 19) rfl) rfl), (zz_g (zz_t1 (i := 3) rfl) rfl), by decide +kernel, by decide +kernel, by decide +kernel, rfl, Nat.le_of_ble_eq_true rfl, zcd16⟩
set_option maxRecDepth 20000 in
theorem zm17 : zmOk (yX1_giveFirstTo, cX1_giveFirstTo, 6, none, zc17, 1, 1, 1) := ⟨by decide +kernel, (zz_g (zz_t2 (i := 48) rfl) rfl), (zz_g (zz_t1 (i := 3) rfl) rfl), by decide +kernel, by decide +kernel, by decide +kernel, rfl, Nat.le_of_ble_eq_true rfl, zcd17⟩
set_option maxRecDepth 20000 in
theorem zm18 : zmOk (yX1_trade, cX1_trade, 8, none, zc18, 1, 0, 4) := ⟨by decide +kernel, (zz_g (zz_t2 (i := 102) rfl) rfl), (zz_g (zz_t1 (i := 3) rfl) rfl), by decide +kernel, by decide +kernel, by decide +kernel, rfl, Nat.le_of_ble_eq_true rfl, zcd18⟩
set_option maxRecDepth 20000 in
theorem zm19 : zmOk (yX1_removeBag, cX1_removeBag, 4, none, zc19, 1, 1, 1) := ⟨by decide +kernel, (zz_g (zz_t1 (i := 218) rfl) rfl), (zz_g (zz_t1 (i := 3) rfl) rfl), by decide +kernel, by decide +kernel, by decide +kernel, rfl, Nat.le_of_ble_eq_true rfl, zcd19⟩
set_option maxRecDepth 20000 in
theorem zm20 : zmOk (yX2_init, cX2_init, 2, none, zc20, 2, 3, 0) := ⟨by decide +kernel, (zz_g (zz_t1 (i := 86) rfl) rfl), (zz_g (zz_t1 (i := 4) rfl) rfl), by decide +kernel, by decide +kernel, by decide +kernel, rfl, Nat.le_of_ble_eq_true rfl, zcd20⟩
set_option maxRecDepth 20000 in
theorem zm21 : zmOk (yX2_keep, cX2_keep, 2, none, zc21, 2, 3, 1) := ⟨by decide +kernel, (zz_g (zz_t1 (i := 178) rfl) rfl), (zz_g (zz_t1 (i := 4) rfl) rfl), by decide +kernel, by decide +kernel, by decide +kernel, rfl, Nat.le_of_ble_eq_true rfl, zcd21⟩
set_option maxRecDepth 20000 in
theorem zm22 : zmOk (yX2_discardOldest, cX2_discardOldest, 3, none, zc22, 2, 0, 0) := ⟨by decide +kernel, (zz_g (zz_t1 (i := 182) rfl) rfl), (zz_g (zz_t1 (i := 4) rfl) rfl), by decide +kernel, by decide +kernel, by decide +kernel, rfl, Nat.le_of_ble_eq_true rfl, zcd22⟩
set_option maxRecDepth 20000 in
theorem zm23 : zmOk (yX2_takeBack, cX2_takeBack, 2, none, zc23, 2, 3, 1) := ⟨by decide +kernel, (zz_g (zz_t3 (i := 21) rfl) rfl), (zz_g (zz_t1 (i := 4) rfl) rfl), by decide +kernel, by decide +kernel, by decide +kernel, rfl, Nat.le_of_ble_eq_true rfl, zcd23⟩
set_option maxRecDepth 20000 in
theorem zm24 : zmOk (yX3_init, cX3_init, 2, none, zc24, 3, 2, 0) := ⟨by decide +kernel, (zz_g (zz_t1 (i := 22) rfl) rfl), (zz_g (zz_t1 (i := 2) rfl) rfl), by decide +kernel, by decide +kernel, by decide +kernel, rfl, Nat.le_of_ble_eq_true rfl, zcd24⟩
set_option maxRecDepth 20000 in
theorem zm25 : zmOk (yX3_copyFrom, cX3_copyFrom, 2, none, zc25, 3, 2, 1) := ⟨by decide +kernel, (zz_g (zz_t1 (i := 186) rfl) rfl), (zz_g (zz_t1 (i := 2) rfl) rfl), by decide +kernel, by decide +kernel, by decide +kernel, rfl, Nat.le_of_ble_eq_true rfl, zcd25⟩
set_option maxRecDepth 20000 in
theorem zm26 : zmOk (yX3_hasHeir, cX3_hasHeir, 2, (some .boolean), zc26, 3, 0, 1) := ⟨by decide +kernel, (zz_g (zz_t1 (i := 206) rfl) rfl), (zz_g (zz_t1 (i := 2) rfl) rfl), by decide +kernel, by decide +kernel, by decide +kernel, rfl, Nat.le_of_ble_eq_true rfl, zcd26⟩
set_option maxRecDepth 20000 in
theorem zm27 : zmOk (yX3_hasMarble, cX3_hasMarble, 3, (some .boolean), zc27, 3, 2, 2) := ⟨by decide +kernel, (zz_g (zz_t2 (i := 73) rfl) rfl), (zz_g (zz_t1 (i := 2) rfl) rfl), by decide +kernel, by decide +kernel, by decide +kernel, rfl, Nat.le_of_ble_eq_true rfl, zcd27⟩
set_option maxRecDepth 20000 in
theorem zm28 : zmOk (yX3_addHeir, cX3_addHeir, 4, (some .int), zc28, 3, 0, 2) := ⟨by decide +kernel, (zz_g (zz_t1 (i := 198) rfl) rfl), (zz_g (zz_t1 (i := 2) rfl) rfl), by decide +kernel, by decide +kernel, by decide +kernel, rfl, Nat.le_of_ble_eq_true rfl, zcd28⟩
set_option maxRecDepth 20000 in
theorem zm29 : zmOk (yX3_removeHeir, cX3_removeHeir, 3, none, zc29, 3, 2, 1) := ⟨by decide +kernel, (zz_g (zz_t1 (i := 214) rfl) rfl), (zz_g (zz_t1 (i := 2) rfl) rfl), by decide +kernel, by decide +kernel, by decide +kernel, rfl, Nat.le_of_ble_eq_true rfl, zcd29⟩
set_option maxRecDepth 20000 in
theorem zm30 : zmOk (yX3_placeOf, cX3_placeOf, 3, (some .int), zc30, 3, 0, 1) := ⟨by decide +kernel, (zz_g (zz_t1 (i := 226) rfl) rfl), (zz_g (zz_t1 (i := 2) rfl) rfl), by decide +kernel, by decide +kernel, by decide +kernel, rfl, Nat.le_of_ble_eq_true rfl, zcd30⟩
set_option maxRecDepth 20000 in
theorem zm31 : zmOk (yX3_playAllRounds, cX3_playAllRounds, 3, (some .int), zc31, 3, 4, 0) := ⟨by decide +kernel, (zz_g (zz_t2 (i := 60) rfl) rfl), (zz_g (zz_t1 (i := 2) rfl) rfl), by decide +kernel, by decide +kernel, by decide +kernel, rfl, Nat.le_of_ble_eq_true rfl, zcd31⟩
set_option maxRecDepth 20000 in
theorem zm32 : zmOk (yX3_playRound, cX3_playRound, 3, (some .int), zc32, 3, 3, 0) := ⟨by decide +kernel, (zz_g (zz_t2 (i := 28) rfl) rfl), (zz_g (zz_t1 (i := 2) rfl) rfl), by decide +kernel, by decide +kernel, by decide +kernel, rfl, Nat.le_of_ble_eq_true rfl, zcd32⟩
set_option maxRecDepth 20000 in
theorem zm33 : zmOk (yX3_giveInOrder, cX3_giveInOrder, 3, none, zc33, 3, 2, 1) := ⟨by decide +kernel, (zz_g (zz_t2 (i := 52) rfl) rfl), (zz_g (zz_t1 (i := 2) rfl) rfl), by decide +kernel, by decide +kernel, by decide +kernel, rfl, Nat.le_of_ble_eq_true rfl, zcd33⟩
set_option maxRecDepth 20000 in
theorem zm34 : zmOk (yX3_giveToPoorest, cX3_giveToPoorest, 5, none, zc34, 3, 2, 1) := ⟨by decide +kernel, (zz_g (zz_t2 (i := 36) rfl) rfl), (zz_g (zz_t1 (i := 2) rfl) rfl), by decide +kernel, by decide +kernel, by decide +kernel, rfl, Nat.le_of_ble_eq_true rfl, zcd34⟩
set_option maxRecDepth 20000 in
theorem zm35 : zmOk (yX3_poorestBut, cX3_poorestBut, 7, (some .int), zc35, 3, 1, 1) := ⟨by decide +kernel, (zz_g (zz_t2 (i := 40) rfl) rfl), (zz_g (zz_t1 (i := 2) rfl) rfl), by decide +kernel, by decide +kernel, by decide +kernel, rfl, Nat.le_of_ble_eq_true rfl, zcd35⟩
set_option maxRecDepth 20000 in
theorem zm36 : zmOk (yX3_exchangeUnlessVetoed, cX3_exchangeUnlessVetoed, 6, (some .int), zc36, 3, 2, 4) := ⟨by decide +kernel, (zz_g (zz_t2 (i := 82) rfl) rfl), (zz_g (zz_t1 (i := 2) rfl) rfl), by decide +kernel, by decide +kernel, by decide +kernel, rfl, Nat.le_of_ble_eq_true rfl, zcd36⟩
set_option maxRecDepth 20000 in
theorem zm37 : zmOk (yX3_exchange, cX3_exchange, 5, none, zc37, 3, 1, 4) := ⟨by decide +kernel, (zz_g (zz_t2 (i := 98) rfl) rfl), (zz_g (zz_t1 (i := 2) rfl) rfl), by decide +kernel, by decide +kernel, by decide +kernel, rfl, Nat.le_of_ble_eq_true rfl, zcd37⟩
set_option maxRecDepth 20000 in
theorem zm38 : zmOk (yX3_vetoer, cX3_vetoer, 6, (some .int), zc38, 3, 1, 4) := ⟨by decide +kernel, (zz_g (zz_t2 (i := 86) rfl) rfl), (zz_g (zz_t1 (i := 2) rfl) rfl), by decide +kernel, by decide +kernel, by decide +kernel, rfl, Nat.le_of_ble_eq_true rfl, zcd38⟩
set_option maxRecDepth 20000 in
theorem zm39 : zmOk (yX3_objects, cX3_objects, 3, (some .boolean), zc39, 3, 0, 2) := ⟨by decide +kernel, (zz_g (zz_t2 (i := 94) rfl) rfl), (zz_g (zz_t1 (i := 2) rfl) rfl), by decide +kernel, by decide +kernel, by decide +kernel, rfl, Nat.le_of_ble_eq_true rfl, zcd39⟩
set_option maxRecDepth 20000 in
theorem zm40 : zmOk (yX3_about, cX3_about, 3, (some .int), zc40, 3, 1, 2) := ⟨by decide +kernel, (zz_g (zz_t2 (i := 143) rfl) rfl), (zz_g (zz_t1 (i := 2) rfl) rfl), by decide +kernel, by decide +kernel, by decide +kernel, rfl, Nat.le_of_ble_eq_true rfl, zcd40⟩
set_option maxRecDepth 20000 in
theorem zm41 : zmOk (yX3_figure, cX3_figure, 2, (some .int), zc41, 3, 3, 1) := ⟨by decide +kernel, (zz_g (zz_t2 (i := 175) rfl) rfl), (zz_g (zz_t1 (i := 2) rfl) rfl), by decide +kernel, by decide +kernel, by decide +kernel, rfl, Nat.le_of_ble_eq_true rfl, zcd41⟩
set_option maxRecDepth 20000 in
theorem zm42 : zmOk (yX3_overAll, cX3_overAll, 4, (some .int), zc42, 3, 2, 1) := ⟨by decide +kernel, (zz_g (zz_t2 (i := 179) rfl) rfl), (zz_g (zz_t1 (i := 2) rfl) rfl), by decide +kernel, by decide +kernel, by decide +kernel, rfl, Nat.le_of_ble_eq_true rfl, zcd42⟩
set_option maxRecDepth 20000 in
theorem zm43 : zmOk (yX3_spread, cX3_spread, 6, (some .int), zc43, 3, 2, 1) := ⟨by decide +kernel, (zz_g (zz_t2 (i := 184) rfl) rfl), (zz_g (zz_t1 (i := 2) rfl) rfl), by decide +kernel, by decide +kernel, by decide +kernel, rfl, Nat.le_of_ble_eq_true rfl, zcd43⟩
set_option maxRecDepth 20000 in
theorem zm44 : zmOk (yX4_init, cX4_init, 1, none, zc44, 4, 1, 0) := ⟨by decide +kernel, (zz_g (zz_t1 (i := 103) rfl) rfl), (zz_g (zz_t1 (i := 5) rfl) rfl), by decide +kernel, by decide +kernel, by decide +kernel, rfl, Nat.le_of_ble_eq_true rfl, zcd44⟩
set_option maxRecDepth 20000 in
theorem zm45 : zmOk (yX4_add, cX4_add, 2, none, zc45, 4, 0, 1) := ⟨by decide +kernel, (zz_g (zz_t2 (i := 220) rfl) rfl), (zz_g (zz_t1 (i := 5) rfl) rfl), by decide +kernel, by decide +kernel, by decide +kernel, rfl, Nat.le_of_ble_eq_true rfl, zcd45⟩
set_option maxRecDepth 20000 in
theorem zm46 : zmOk (yX4_firstError, cX4_firstError, 3, (some .int), zc46, 4, 3, 0) := ⟨by decide +kernel, (zz_g (zz_t2 (i := 232) rfl) rfl), (zz_g (zz_t1 (i := 5) rfl) rfl), by decide +kernel, by decide +kernel, by decide +kernel, rfl, Nat.le_of_ble_eq_true rfl, zcd46⟩
set_option maxRecDepth 20000 in
theorem zm47 : zmOk (yX4_dropInto, cX4_dropInto, 7, (some .boolean), zc47, 4, 4, 1) := ⟨by decide +kernel, (zz_g (zz_t3 (i := 9) rfl) rfl), (zz_g (zz_t1 (i := 5) rfl) rfl), by decide +kernel, by decide +kernel, by decide +kernel, rfl, Nat.le_of_ble_eq_true rfl, zcd47⟩
set_option maxRecDepth 20000 in
theorem zm48 : zmOk (yX4_dropEach, cX4_dropEach, 5, (some .boolean), zc48, 4, 3, 4) := ⟨by decide +kernel, (zz_g (zz_t3 (i := 12) rfl) rfl), (zz_g (zz_t1 (i := 5) rfl) rfl), by decide +kernel, by decide +kernel, by decide +kernel, rfl, Nat.le_of_ble_eq_true rfl, zcd48⟩
set_option maxRecDepth 20000 in
theorem zm49 : zmOk (yX4_stageBehind, cX4_stageBehind, 3, (some .int), zc49, 4, 2, 2) := ⟨by decide +kernel, (zz_g (zz_t2 (i := 235) rfl) rfl), (zz_g (zz_t1 (i := 5) rfl) rfl), by decide +kernel, by decide +kernel, by decide +kernel, rfl, Nat.le_of_ble_eq_true rfl, zcd49⟩
set_option maxRecDepth 20000 in
theorem zm50 : zmOk (yX4_isColourLetter, cX4_isColourLetter, 1, (some .boolean), zc50, 4, 1, 1) := ⟨by decide +kernel, (zz_g (zz_t2 (i := 238) rfl) rfl), (zz_g (zz_t1 (i := 5) rfl) rfl), by decide +kernel, by decide +kernel, by decide +kernel, rfl, Nat.le_of_ble_eq_true rfl, zcd50⟩
set_option maxRecDepth 20000 in
theorem zm51 : zmOk (yX4_colourOf, cX4_colourOf, 1, (some .int), zc51, 4, 0, 1) := ⟨by decide +kernel, (zz_g (zz_t3 (i := 1) rfl) rfl), (zz_g (zz_t1 (i := 5) rfl) rfl), by decide +kernel, by decide +kernel, by decide +kernel, rfl, Nat.le_of_ble_eq_true rfl, zcd51⟩
set_option maxRecDepth 20000 in
theorem zm52 : zmOk (yX5_init, cX5_init, 1, none, zc52, 5, 4, 0) := ⟨by decide +kernel, (zz_g (zz_t1 (i := 14) rfl) rfl), (zz_g (zz_t1 (i := 1) rfl) rfl), by decide +kernel, by decide +kernel, by decide +kernel, rfl, Nat.le_of_ble_eq_true rfl, zcd52⟩
set_option maxRecDepth 20000 in
theorem zm53 : zmOk (yX5_come, cX5_come, 3, (some .int), zc53, 5, 4, 2) := ⟨by decide +kernel, (zz_g (zz_t1 (i := 168) rfl) rfl), (zz_g (zz_t1 (i := 1) rfl) rfl), by decide +kernel, by decide +kernel, by decide +kernel, rfl, Nat.le_of_ble_eq_true rfl, zcd53⟩
set_option maxRecDepth 20000 in
theorem zm54 : zmOk (yX5_leave, cX5_leave, 3, (some .int), zc54, 5, 4, 1) := ⟨by decide +kernel, (zz_g (zz_t1 (i := 202) rfl) rfl), (zz_g (zz_t1 (i := 1) rfl) rfl), by decide +kernel, by decide +kernel, by decide +kernel, rfl, Nat.le_of_ble_eq_true rfl, zcd54⟩
set_option maxRecDepth 20000 in
theorem zm55 : zmOk (yX5_wish, cX5_wish, 3, (some .int), zc55, 5, 4, 2) := ⟨by decide +kernel, (zz_g (zz_t1 (i := 231) rfl) rfl), (zz_g (zz_t1 (i := 1) rfl) rfl), by decide +kernel, by decide +kernel, by decide +kernel, rfl, Nat.le_of_ble_eq_true rfl, zcd55⟩
set_option maxRecDepth 20000 in
theorem zm56 : zmOk (yX5_setRule, cX5_setRule, 3, (some .int), zc56, 5, 4, 1) := ⟨by decide +kernel, (zz_g (zz_t1 (i := 239) rfl) rfl), (zz_g (zz_t1 (i := 1) rfl) rfl), by decide +kernel, by decide +kernel, by decide +kernel, rfl, Nat.le_of_ble_eq_true rfl, zcd56⟩
set_option maxRecDepth 20000 in
theorem zm57 : zmOk (yX5_setPatience, cX5_setPatience, 3, (some .int), zc57, 5, 4, 1) := ⟨by decide +kernel, (zz_g (zz_t2 (i := 3) rfl) rfl), (zz_g (zz_t1 (i := 1) rfl) rfl), by decide +kernel, by decide +kernel, by decide +kernel, rfl, Nat.le_of_ble_eq_true rfl, zcd57⟩
set_option maxRecDepth 20000 in
theorem zm58 : zmOk (yX5_grant, cX5_grant, 4, (some .int), zc58, 5, 4, 2) := ⟨by decide +kernel, (zz_g (zz_t2 (i := 7) rfl) rfl), (zz_g (zz_t1 (i := 1) rfl) rfl), by decide +kernel, by decide +kernel, by decide +kernel, rfl, Nat.le_of_ble_eq_true rfl, zcd58⟩
set_option maxRecDepth 20000 in
theorem zm59 : zmOk (yX5_drop, cX5_drop, 3, (some .int), zc59, 5, 4, 2) := ⟨by decide +kernel, (zz_g (zz_t2 (i := 11) rfl) rfl), (zz_g (zz_t1 (i := 1) rfl) rfl), by decide +kernel, by decide +kernel, by decide +kernel, rfl, Nat.le_of_ble_eq_true rfl, zcd59⟩
set_option maxRecDepth 20000 in
theorem zm60 : zmOk (yX5_round, cX5_round, 1, (some .int), zc60, 5, 4, 0) := ⟨by decide +kernel, (zz_g (zz_t2 (i := 24) rfl) rfl), (zz_g (zz_t1 (i := 1) rfl) rfl), by decide +kernel, by decide +kernel, by decide +kernel, rfl, Nat.le_of_ble_eq_true rfl, zcd60⟩
set_option maxRecDepth 20000 in
theorem zm61 : zmOk (yX5_divide, cX5_divide, 1, (some .int), zc61, 5, 5, 0) := ⟨by decide +kernel, (zz_g (zz_t2 (i := 56) rfl) rfl), (zz_g (zz_t1 (i := 1) rfl) rfl), by decide +kernel, by decide +kernel, by decide +kernel, rfl, Nat.le_of_ble_eq_true rfl, zcd61⟩
set_option maxRecDepth 20000 in
theorem zm62 : zmOk (yX5_swap, cX5_swap, 6, (some .int), zc62, 5, 4, 4) := ⟨by decide +kernel, (zz_g (zz_t2 (i := 65) rfl) rfl), (zz_g (zz_t1 (i := 1) rfl) rfl), by decide +kernel, by decide +kernel, by decide +kernel, rfl, Nat.le_of_ble_eq_true rfl, zcd62⟩
set_option maxRecDepth 20000 in
theorem zm63 : zmOk (yX5_settle, cX5_settle, 2, (some .int), zc63, 5, 5, 0) := ⟨by decide +kernel, (zz_g (zz_t2 (i := 106) rfl) rfl), (zz_g (zz_t1 (i := 1) rfl) rfl), by decide +kernel, by decide +kernel, by decide +kernel, rfl, Nat.le_of_ble_eq_true rfl, zcd63⟩
set_option maxRecDepth 20000 in
theorem zm64 : zmOk (yX5_heir, cX5_heir, 3, (some .int), zc64, 5, 2, 2) := ⟨by decide +kernel, (zz_g (zz_t2 (i := 139) rfl) rfl), (zz_g (zz_t1 (i := 1) rfl) rfl), by decide +kernel, by decide +kernel, by decide +kernel, rfl, Nat.le_of_ble_eq_true rfl, zcd64⟩
set_option maxRecDepth 20000 in
theorem zm65 : zmOk (yX5_bag, cX5_bag, 4, (some .int), zc65, 5, 3, 3) := ⟨by decide +kernel, (zz_g (zz_t2 (i := 148) rfl) rfl), (zz_g (zz_t1 (i := 1) rfl) rfl), by decide +kernel, by decide +kernel, by decide +kernel, rfl, Nat.le_of_ble_eq_true rfl, zcd65⟩
set_option maxRecDepth 20000 in
theorem zm66 : zmOk (yX5_hopper, cX5_hopper, 3, (some .int), zc66, 5, 2, 2) := ⟨by decide +kernel, (zz_g (zz_t2 (i := 158) rfl) rfl), (zz_g (zz_t1 (i := 1) rfl) rfl), by decide +kernel, by decide +kernel, by decide +kernel, rfl, Nat.le_of_ble_eq_true rfl, zcd66⟩
set_option maxRecDepth 20000 in
theorem zm67 : zmOk (yX5_vetoes, cX5_vetoes, 2, (some .int), zc67, 5, 1, 1) := ⟨by decide +kernel, (zz_g (zz_t2 (i := 163) rfl) rfl), (zz_g (zz_t1 (i := 1) rfl) rfl), by decide +kernel, by decide +kernel, by decide +kernel, rfl, Nat.le_of_ble_eq_true rfl, zcd67⟩
set_option maxRecDepth 20000 in
theorem zm68 : zmOk (yX5_at, cX5_at, 2, (some .int), zc68, 5, 0, 1) := ⟨by decide +kernel, (zz_g (zz_t2 (i := 167) rfl) rfl), (zz_g (zz_t1 (i := 1) rfl) rfl), by decide +kernel, by decide +kernel, by decide +kernel, rfl, Nat.le_of_ble_eq_true rfl, zcd68⟩
set_option maxRecDepth 20000 in
theorem zm69 : zmOk (yX5_total, cX5_total, 2, (some .int), zc69, 5, 4, 1) := ⟨by decide +kernel, (zz_g (zz_t2 (i := 171) rfl) rfl), (zz_g (zz_t1 (i := 1) rfl) rfl), by decide +kernel, by decide +kernel, by decide +kernel, rfl, Nat.le_of_ble_eq_true rfl, zcd69⟩
set_option maxRecDepth 20000 in
theorem zm70 : zmOk (yX5_ifDivided, cX5_ifDivided, 3, (some .int), zc70, 5, 5, 2) := ⟨by decide +kernel, (zz_g (zz_t2 (i := 189) rfl) rfl), (zz_g (zz_t1 (i := 1) rfl) rfl), by decide +kernel, by decide +kernel, by decide +kernel, rfl, Nat.le_of_ble_eq_true rfl, zcd70⟩
set_option maxRecDepth 20000 in
theorem zm71 : zmOk (yX5_fairestRule, cX5_fairestRule, 5, (some .int), zc71, 5, 6, 0) := ⟨by decide +kernel, (zz_g (zz_t2 (i := 194) rfl) rfl), (zz_g (zz_t1 (i := 1) rfl) rfl), by decide +kernel, by decide +kernel, by decide +kernel, rfl, Nat.le_of_ble_eq_true rfl, zcd71⟩
set_option maxRecDepth 20000 in
theorem zm72 : zmOk (yX5_whoVetoes, cX5_whoVetoes, 6, (some .int), zc72, 5, 4, 4) := ⟨by decide +kernel, (zz_g (zz_t2 (i := 203) rfl) rfl), (zz_g (zz_t1 (i := 1) rfl) rfl), by decide +kernel, by decide +kernel, by decide +kernel, rfl, Nat.le_of_ble_eq_true rfl, zcd72⟩
set_option maxRecDepth 20000 in
theorem zm73 : zmOk (yX5_bestSwap, cX5_bestSwap, 2, (some .int), zc73, 5, 5, 1) := ⟨by decide +kernel, (zz_g (zz_t2 (i := 208) rfl) rfl), (zz_g (zz_t1 (i := 1) rfl) rfl), by decide +kernel, by decide +kernel, by decide +kernel, rfl, Nat.le_of_ble_eq_true rfl, zcd73⟩
set_option maxRecDepth 20000 in
theorem zm74 : zmOk (yX5_append, cX5_append, 2, (some .int), zc74, 5, 1, 1) := ⟨by decide +kernel, (zz_g (zz_t2 (i := 216) rfl) rfl), (zz_g (zz_t1 (i := 1) rfl) rfl), by decide +kernel, by decide +kernel, by decide +kernel, rfl, Nat.le_of_ble_eq_true rfl, zcd74⟩
set_option maxRecDepth 20000 in
theorem zm75 : zmOk (yX5_clearText, cX5_clearText, 2, (some .int), zc75, 5, 0, 0) := ⟨by decide +kernel, (zz_g (zz_t2 (i := 224) rfl) rfl), (zz_g (zz_t1 (i := 1) rfl) rfl), by decide +kernel, by decide +kernel, by decide +kernel, rfl, Nat.le_of_ble_eq_true rfl, zcd75⟩
set_option maxRecDepth 20000 in
theorem zm76 : zmOk (yX5_errorPosition, cX5_errorPosition, 1, (some .int), zc76, 5, 4, 0) := ⟨by decide +kernel, (zz_g (zz_t2 (i := 228) rfl) rfl), (zz_g (zz_t1 (i := 1) rfl) rfl), by decide +kernel, by decide +kernel, by decide +kernel, rfl, Nat.le_of_ble_eq_true rfl, zcd76⟩
set_option maxRecDepth 20000 in
theorem zm77 : zmOk (yX5_pour, cX5_pour, 1, (some .int), zc77, 5, 5, 0) := ⟨by decide +kernel, (zz_g (zz_t3 (i := 5) rfl) rfl), (zz_g (zz_t1 (i := 1) rfl) rfl), by decide +kernel, by decide +kernel, by decide +kernel, rfl, Nat.le_of_ble_eq_true rfl, zcd77⟩
set_option maxRecDepth 20000 in
theorem zm78 : zmOk (yX5_undo, cX5_undo, 1, (some .int), zc78, 5, 4, 0) := ⟨by decide +kernel, (zz_g (zz_t3 (i := 17) rfl) rfl), (zz_g (zz_t1 (i := 1) rfl) rfl), by decide +kernel, by decide +kernel, by decide +kernel, rfl, Nat.le_of_ble_eq_true rfl, zcd78⟩
set_option maxRecDepth 20000 in
theorem zm79 : zmOk (yX5_save, cX5_save, 1, (some .int), zc79, 5, 3, 0) := ⟨by decide +kernel, (zz_g (zz_t3 (i := 25) rfl) rfl), (zz_g (zz_t1 (i := 1) rfl) rfl), by decide +kernel, by decide +kernel, by decide +kernel, rfl, Nat.le_of_ble_eq_true rfl, zcd79⟩
set_option maxRecDepth 20000 in
theorem zm80 : zmOk (yX5_restore, cX5_restore, 1, (some .int), zc80, 5, 4, 0) := ⟨by decide +kernel, (zz_g (zz_t3 (i := 29) rfl) rfl), (zz_g (zz_t1 (i := 1) rfl) rfl), by decide +kernel, by decide +kernel, by decide +kernel, rfl, Nat.le_of_ble_eq_true rfl, zcd80⟩
set_option maxRecDepth 20000 in
theorem zm81 : zmOk (yX5_isMother, cX5_isMother, 1, (some .boolean), zc81, 5, 0, 1) := ⟨by decide +kernel, (zz_g (zz_t1 (i := 171) rfl) rfl), (zz_g (zz_t1 (i := 1) rfl) rfl), by decide +kernel, by decide +kernel, by decide +kernel, rfl, Nat.le_of_ble_eq_true rfl, zcd81⟩
set_option maxRecDepth 20000 in
theorem zm82 : zmOk (yX5_isColour, cX5_isColour, 1, (some .boolean), zc82, 5, 0, 1) := ⟨by decide +kernel, (zz_g (zz_t1 (i := 174) rfl) rfl), (zz_g (zz_t1 (i := 1) rfl) rfl), by decide +kernel, by decide +kernel, by decide +kernel, rfl, Nat.le_of_ble_eq_true rfl, zcd82⟩
set_option maxRecDepth 20000 in
theorem zm83 : zmOk (yX5_moveBack, cX5_moveBack, 5, none, zc83, 5, 0, 3) := ⟨by decide +kernel, (zz_g (zz_t1 (i := 222) rfl) rfl), (zz_g (zz_t1 (i := 1) rfl) rfl), by decide +kernel, by decide +kernel, by decide +kernel, rfl, Nat.le_of_ble_eq_true rfl, zcd83⟩
set_option maxRecDepth 20000 in
theorem zm84 : zmOk (yX5_swapError, cX5_swapError, 5, (some .int), zc84, 5, 3, 4) := ⟨by decide +kernel, (zz_g (zz_t2 (i := 69) rfl) rfl), (zz_g (zz_t1 (i := 1) rfl) rfl), by decide +kernel, by decide +kernel, by decide +kernel, rfl, Nat.le_of_ble_eq_true rfl, zcd84⟩
set_option maxRecDepth 20000 in
theorem zm85 : zmOk (yX5_spreadUnder, cX5_spreadUnder, 2, (some .int), zc85, 5, 5, 1) := ⟨by decide +kernel, (zz_g (zz_t2 (i := 198) rfl) rfl), (zz_g (zz_t1 (i := 1) rfl) rfl), by decide +kernel, by decide +kernel, by decide +kernel, rfl, Nat.le_of_ble_eq_true rfl, zcd85⟩
set_option maxRecDepth 20000 in
theorem zm86 : zmOk (yX6_init, cX6_init, 2, none, zc86, 6, 1, 0) := ⟨by decide +kernel, (zz_g (zz_t3 (i := 34) rfl) rfl), (zz_g (zz_t1 (i := 7) rfl) rfl), by decide +kernel, by decide +kernel, by decide +kernel, rfl, Nat.le_of_ble_eq_true rfl, zcd86⟩
set_option maxRecDepth 20000 in
theorem zm87 : zmOk (yX6_in, cX6_in, 3, (some .boolean), zc87, 6, 0, 3) := ⟨by decide +kernel, (zz_g (zz_t3 (i := 76) rfl) rfl), (zz_g (zz_t1 (i := 7) rfl) rfl), by decide +kernel, by decide +kernel, by decide +kernel, rfl, Nat.le_of_ble_eq_true rfl, zcd87⟩
set_option maxRecDepth 20000 in
theorem zm88 : zmOk (yX6_isHeir, cX6_isHeir, 2, (some .boolean), zc88, 6, 1, 1) := ⟨by decide +kernel, (zz_g (zz_t3 (i := 91) rfl) rfl), (zz_g (zz_t1 (i := 7) rfl) rfl), by decide +kernel, by decide +kernel, by decide +kernel, rfl, Nat.le_of_ble_eq_true rfl, zcd88⟩
set_option maxRecDepth 20000 in
theorem zm89 : zmOk (yX6_isMother, cX6_isMother, 1, (some .boolean), zc89, 6, 1, 1) := ⟨by decide +kernel, (zz_g (zz_t3 (i := 73) rfl) rfl), (zz_g (zz_t1 (i := 7) rfl) rfl), by decide +kernel, by decide +kernel, by decide +kernel, rfl, Nat.le_of_ble_eq_true rfl, zcd89⟩
set_option maxRecDepth 20000 in
theorem zm90 : zmOk (yX6_isColour, cX6_isColour, 1, (some .boolean), zc90, 6, 1, 1) := ⟨by decide +kernel, (zz_g (zz_t3 (i := 79) rfl) rfl), (zz_g (zz_t1 (i := 7) rfl) rfl), by decide +kernel, by decide +kernel, by decide +kernel, rfl, Nat.le_of_ble_eq_true rfl, zcd90⟩
set_option maxRecDepth 20000 in
theorem zm91 : zmOk (yX6_of, cX6_of, 3, (some .int), zc91, 6, 0, 2) := ⟨by decide +kernel, (zz_g (zz_t3 (i := 195) rfl) rfl), (zz_g (zz_t1 (i := 7) rfl) rfl), by decide +kernel, by decide +kernel, by decide +kernel, rfl, Nat.le_of_ble_eq_true rfl, zcd91⟩
set_option maxRecDepth 20000 in
theorem zm92 : zmOk (yX6_record, cX6_record, 2, none, zc92, 6, 0, 0) := ⟨by decide +kernel, (zz_g (zz_t3 (i := 83) rfl) rfl), (zz_g (zz_t1 (i := 7) rfl) rfl), by decide +kernel, by decide +kernel, by decide +kernel, rfl, Nat.le_of_ble_eq_true rfl, zcd92⟩
set_option maxRecDepth 20000 in
theorem zm93 : zmOk (yX6_putAside, cX6_putAside, 2, none, zc93, 6, 0, 0) := ⟨by decide +kernel, (zz_g (zz_t4 (i := 34) rfl) rfl), (zz_g (zz_t1 (i := 7) rfl) rfl), by decide +kernel, by decide +kernel, by decide +kernel, rfl, Nat.le_of_ble_eq_true rfl, zcd93⟩
set_option maxRecDepth 20000 in
theorem zm94 : zmOk (yX6_putBack, cX6_putBack, 2, none, zc94, 6, 0, 0) := ⟨by decide +kernel, (zz_g (zz_t4 (i := 38) rfl) rfl), (zz_g (zz_t1 (i := 7) rfl) rfl), by decide +kernel, by decide +kernel, by decide +kernel, rfl, Nat.le_of_ble_eq_true rfl, zcd94⟩
set_option maxRecDepth 20000 in
theorem zm95 : zmOk (yX6_ownerAt, cX6_ownerAt, 2, (some .int), zc95, 6, 0, 1) := ⟨by decide +kernel, (zz_g (zz_t3 (i := 99) rfl) rfl), (zz_g (zz_t1 (i := 7) rfl) rfl), by decide +kernel, by decide +kernel, by decide +kernel, rfl, Nat.le_of_ble_eq_true rfl, zcd95⟩
set_option maxRecDepth 20000 in
theorem zm96 : zmOk (yX6_colourAt, cX6_colourAt, 2, (some .int), zc96, 6, 0, 1) := ⟨by decide +kernel, (zz_g (zz_t3 (i := 115) rfl) rfl), (zz_g (zz_t1 (i := 7) rfl) rfl), by decide +kernel, by decide +kernel, by decide +kernel, rfl, Nat.le_of_ble_eq_true rfl, zcd96⟩
set_option maxRecDepth 20000 in
theorem zm97 : zmOk (yX6_valueAt, cX6_valueAt, 2, (some .int), zc97, 6, 0, 1) := ⟨by decide +kernel, (zz_g (zz_t3 (i := 163) rfl) rfl), (zz_g (zz_t1 (i := 7) rfl) rfl), by decide +kernel, by decide +kernel, by decide +kernel, rfl, Nat.le_of_ble_eq_true rfl, zcd97⟩
set_option maxRecDepth 20000 in
theorem zm98 : zmOk (yX6_inBag, cX6_inBag, 4, (some .int), zc98, 6, 1, 1) := ⟨by decide +kernel, (zz_g (zz_t3 (i := 95) rfl) rfl), (zz_g (zz_t1 (i := 7) rfl) rfl), by decide +kernel, by decide +kernel, by decide +kernel, rfl, Nat.le_of_ble_eq_true rfl, zcd98⟩
set_option maxRecDepth 20000 in
theorem zm99 : zmOk (yX6_worth, cX6_worth, 4, (some .int), zc99, 6, 1, 1) := ⟨by decide +kernel, (zz_g (zz_t3 (i := 159) rfl) rfl), (zz_g (zz_t1 (i := 7) rfl) rfl), by decide +kernel, by decide +kernel, by decide +kernel, rfl, Nat.le_of_ble_eq_true rfl, zcd99⟩
set_option maxRecDepth 20000 in
theorem zm100 : zmOk (yX6_ofColour, cX6_ofColour, 5, (some .int), zc100, 6, 1, 2) := ⟨by decide +kernel, (zz_g (zz_t3 (i := 111) rfl) rfl), (zz_g (zz_t1 (i := 7) rfl) rfl), by decide +kernel, by decide +kernel, by decide +kernel, rfl, Nat.le_of_ble_eq_true rfl, zcd100⟩
set_option maxRecDepth 20000 in
theorem zm101 : zmOk (yX6_find, cX6_find, 5, (some .int), zc101, 6, 2, 2) := ⟨by decide +kernel, (zz_g (zz_t3 (i := 187) rfl) rfl), (zz_g (zz_t1 (i := 7) rfl) rfl), by decide +kernel, by decide +kernel, by decide +kernel, rfl, Nat.le_of_ble_eq_true rfl, zcd101⟩
set_option maxRecDepth 20000 in
theorem zm102 : zmOk (yX6_wishes, cX6_wishes, 3, (some .int), zc102, 6, 1, 0) := ⟨by decide +kernel, (zz_g (zz_t4 (i := 22) rfl) rfl), (zz_g (zz_t1 (i := 7) rfl) rfl), by decide +kernel, by decide +kernel, by decide +kernel, rfl, Nat.le_of_ble_eq_true rfl, zcd102⟩
set_option maxRecDepth 20000 in
theorem zm103 : zmOk (yX6_spread, cX6_spread, 6, (some .int), zc103, 6, 2, 1) := ⟨by decide +kernel, (zz_g (zz_t4 (i := 26) rfl) rfl), (zz_g (zz_t1 (i := 7) rfl) rfl), by decide +kernel, by decide +kernel, by decide +kernel, rfl, Nat.le_of_ble_eq_true rfl, zcd103⟩
set_option maxRecDepth 20000 in
theorem zm104 : zmOk (yX6_gives, cX6_gives, 3, none, zc104, 6, 0, 1) := ⟨by decide +kernel, (zz_g (zz_t3 (i := 167) rfl) rfl), (zz_g (zz_t1 (i := 7) rfl) rfl), by decide +kernel, by decide +kernel, by decide +kernel, rfl, Nat.le_of_ble_eq_true rfl, zcd104⟩
set_option maxRecDepth 20000 in
theorem zm105 : zmOk (yX6_poorest, cX6_poorest, 5, (some .int), zc105, 6, 2, 1) := ⟨by decide +kernel, (zz_g (zz_t3 (i := 155) rfl) rfl), (zz_g (zz_t1 (i := 7) rfl) rfl), by decide +kernel, by decide +kernel, by decide +kernel, rfl, Nat.le_of_ble_eq_true rfl, zcd105⟩
set_option maxRecDepth 20000 in
theorem zm106 : zmOk (yX6_rounds, cX6_rounds, 7, (some .int), zc106, 6, 3, 0) := ⟨by decide +kernel, (zz_g (zz_t3 (i := 151) rfl) rfl), (zz_g (zz_t1 (i := 7) rfl) rfl), by decide +kernel, by decide +kernel, by decide +kernel, rfl, Nat.le_of_ble_eq_true rfl, zcd106⟩
set_option maxRecDepth 20000 in
theorem zm107 : zmOk (yX6_divides, cX6_divides, 2, (some .int), zc107, 6, 4, 0) := ⟨by decide +kernel, (zz_g (zz_t3 (i := 175) rfl) rfl), (zz_g (zz_t1 (i := 7) rfl) rfl), by decide +kernel, by decide +kernel, by decide +kernel, rfl, Nat.le_of_ble_eq_true rfl, zcd107⟩
set_option maxRecDepth 20000 in
theorem zm108 : zmOk (yX6_vetoer, cX6_vetoer, 6, (some .int), zc108, 6, 1, 2) := ⟨by decide +kernel, (zz_g (zz_t3 (i := 191) rfl) rfl), (zz_g (zz_t1 (i := 7) rfl) rfl), by decide +kernel, by decide +kernel, by decide +kernel, rfl, Nat.le_of_ble_eq_true rfl, zcd108⟩
set_option maxRecDepth 20000 in
theorem zm109 : zmOk (yX6_swaps, cX6_swaps, 4, none, zc109, 6, 1, 2) := ⟨by decide +kernel, (zz_g (zz_t3 (i := 199) rfl) rfl), (zz_g (zz_t1 (i := 7) rfl) rfl), by decide +kernel, by decide +kernel, by decide +kernel, rfl, Nat.le_of_ble_eq_true rfl, zcd109⟩
set_option maxRecDepth 20000 in
theorem zm110 : zmOk (yX6_growth, cX6_growth, 6, (some .int), zc110, 6, 1, 2) := ⟨by decide +kernel, (zz_g (zz_t3 (i := 219) rfl) rfl), (zz_g (zz_t1 (i := 7) rfl) rfl), by decide +kernel, by decide +kernel, by decide +kernel, rfl, Nat.le_of_ble_eq_true rfl, zcd110⟩
set_option maxRecDepth 20000 in
theorem zm111 : zmOk (yX6_size, cX6_size, 1, (some .int), zc111, 6, 0, 1) := ⟨by decide +kernel, (zz_g (zz_t3 (i := 222) rfl) rfl), (zz_g (zz_t1 (i := 7) rfl) rfl), by decide +kernel, by decide +kernel, by decide +kernel, rfl, Nat.le_of_ble_eq_true rfl, zcd111⟩
set_option maxRecDepth 20000 in
theorem zm112 : zmOk (yX6_rate, cX6_rate, 4, (some .int), zc112, 6, 2, 2) := ⟨by decide +kernel, (zz_g (zz_t3 (i := 215) rfl) rfl), (zz_g (zz_t1 (i := 7) rfl) rfl), by decide +kernel, by decide +kernel, by decide +kernel, rfl, Nat.le_of_ble_eq_true rfl, zcd112⟩
set_option maxRecDepth 20000 in
theorem zm113 : zmOk (yX6_rankOf, cX6_rankOf, 4, (some .int), zc113, 6, 1, 1) := ⟨by decide +kernel, (zz_g (zz_t3 (i := 226) rfl) rfl), (zz_g (zz_t1 (i := 7) rfl) rfl), by decide +kernel, by decide +kernel, by decide +kernel, rfl, Nat.le_of_ble_eq_true rfl, zcd113⟩
set_option maxRecDepth 20000 in
theorem zm114 : zmOk (yX6_layBest, cX6_layBest, 5, none, zc114, 6, 4, 0) := ⟨by decide +kernel, (zz_g (zz_t3 (i := 207) rfl) rfl), (zz_g (zz_t1 (i := 7) rfl) rfl), by decide +kernel, by decide +kernel, by decide +kernel, rfl, Nat.le_of_ble_eq_true rfl, zcd114⟩
set_option maxRecDepth 20000 in
theorem zm115 : zmOk (yX6_tries, cX6_tries, 6, (some .int), zc115, 6, 3, 3) := ⟨by decide +kernel, (zz_g (zz_t3 (i := 211) rfl) rfl), (zz_g (zz_t1 (i := 7) rfl) rfl), by decide +kernel, by decide +kernel, by decide +kernel, rfl, Nat.le_of_ble_eq_true rfl, zcd115⟩
set_option maxRecDepth 20000 in
theorem zm116 : zmOk (yX6_come, cX6_come, 4, (some .int), zc116, 6, 2, 2) := ⟨by decide +kernel, (zz_g (zz_t3 (i := 70) rfl) rfl), (zz_g (zz_t1 (i := 7) rfl) rfl), by decide +kernel, by decide +kernel, by decide +kernel, rfl, Nat.le_of_ble_eq_true rfl, zcd116⟩
set_option maxRecDepth 20000 in
theorem zm117 : zmOk (yX6_goBack, cX6_goBack, 5, none, zc117, 6, 0, 1) := ⟨by decide +kernel, (zz_g (zz_t3 (i := 103) rfl) rfl), (zz_g (zz_t1 (i := 7) rfl) rfl), by decide +kernel, by decide +kernel, by decide +kernel, rfl, Nat.le_of_ble_eq_true rfl, zcd117⟩
set_option maxRecDepth 20000 in
theorem zm118 : zmOk (yX6_leave, cX6_leave, 6, (some .int), zc118, 6, 2, 1) := ⟨by decide +kernel, (zz_g (zz_t3 (i := 87) rfl) rfl), (zz_g (zz_t1 (i := 7) rfl) rfl), by decide +kernel, by decide +kernel, by decide +kernel, rfl, Nat.le_of_ble_eq_true rfl, zcd118⟩
set_option maxRecDepth 20000 in
theorem zm119 : zmOk (yX6_wish, cX6_wish, 3, (some .int), zc119, 6, 2, 2) := ⟨by decide +kernel, (zz_g (zz_t3 (i := 107) rfl) rfl), (zz_g (zz_t1 (i := 7) rfl) rfl), by decide +kernel, by decide +kernel, by decide +kernel, rfl, Nat.le_of_ble_eq_true rfl, zcd119⟩
set_option maxRecDepth 20000 in
theorem zm120 : zmOk (yX6_lays, cX6_lays, 4, (some .int), zc120, 6, 1, 2) := ⟨by decide +kernel, (zz_g (zz_t3 (i := 123) rfl) rfl), (zz_g (zz_t1 (i := 7) rfl) rfl), by decide +kernel, by decide +kernel, by decide +kernel, rfl, Nat.le_of_ble_eq_true rfl, zcd120⟩
set_option maxRecDepth 20000 in
theorem zm121 : zmOk (yX6_setRule, cX6_setRule, 2, (some .int), zc121, 6, 2, 1) := ⟨by decide +kernel, (zz_g (zz_t3 (i := 119) rfl) rfl), (zz_g (zz_t1 (i := 7) rfl) rfl), by decide +kernel, by decide +kernel, by decide +kernel, rfl, Nat.le_of_ble_eq_true rfl, zcd121⟩
set_option maxRecDepth 20000 in
theorem zm122 : zmOk (yX6_setPatience, cX6_setPatience, 2, (some .int), zc122, 6, 2, 1) := ⟨by decide +kernel, (zz_g (zz_t3 (i := 127) rfl) rfl), (zz_g (zz_t1 (i := 7) rfl) rfl), by decide +kernel, by decide +kernel, by decide +kernel, rfl, Nat.le_of_ble_eq_true rfl, zcd122⟩
set_option maxRecDepth 20000 in
theorem zm123 : zmOk (yX6_grant, cX6_grant, 3, (some .int), zc123, 6, 2, 2) := ⟨by decide +kernel, (zz_g (zz_t3 (i := 131) rfl) rfl), (zz_g (zz_t1 (i := 7) rfl) rfl), by decide +kernel, by decide +kernel, by decide +kernel, rfl, Nat.le_of_ble_eq_true rfl, zcd123⟩
set_option maxRecDepth 20000 in
theorem zm124 : zmOk (yX6_hasRoom, cX6_hasRoom, 2, (some .boolean), zc124, 6, 0, 1) := ⟨by decide +kernel, (zz_g (zz_t3 (i := 139) rfl) rfl), (zz_g (zz_t1 (i := 7) rfl) rfl), by decide +kernel, by decide +kernel, by decide +kernel, rfl, Nat.le_of_ble_eq_true rfl, zcd124⟩
set_option maxRecDepth 20000 in
theorem zm125 : zmOk (yX6_drops, cX6_drops, 3, none, zc125, 6, 0, 2) := ⟨by decide +kernel, (zz_g (zz_t3 (i := 143) rfl) rfl), (zz_g (zz_t1 (i := 7) rfl) rfl), by decide +kernel, by decide +kernel, by decide +kernel, rfl, Nat.le_of_ble_eq_true rfl, zcd125⟩
set_option maxRecDepth 20000 in
theorem zm126 : zmOk (yX6_drop, cX6_drop, 3, (some .int), zc126, 6, 2, 2) := ⟨by decide +kernel, (zz_g (zz_t3 (i := 135) rfl) rfl), (zz_g (zz_t1 (i := 7) rfl) rfl), by decide +kernel, by decide +kernel, by decide +kernel, rfl, Nat.le_of_ble_eq_true rfl, zcd126⟩
set_option maxRecDepth 20000 in
theorem zm127 : zmOk (yX6_round, cX6_round, 1, (some .int), zc127, 6, 4, 0) := ⟨by decide +kernel, (zz_g (zz_t3 (i := 147) rfl) rfl), (zz_g (zz_t1 (i := 7) rfl) rfl), by decide +kernel, by decide +kernel, by decide +kernel, rfl, Nat.le_of_ble_eq_true rfl, zcd127⟩
set_option maxRecDepth 20000 in
theorem zm128 : zmOk (yX6_divide, cX6_divide, 1, (some .int), zc128, 6, 5, 0) := ⟨by decide +kernel, (zz_g (zz_t3 (i := 171) rfl) rfl), (zz_g (zz_t1 (i := 7) rfl) rfl), by decide +kernel, by decide +kernel, by decide +kernel, rfl, Nat.le_of_ble_eq_true rfl, zcd128⟩
set_option maxRecDepth 20000 in
theorem zm129 : zmOk (yX6_wrongSwap, cX6_wrongSwap, 5, (some .int), zc129, 6, 3, 4) := ⟨by decide +kernel, (zz_g (zz_t3 (i := 183) rfl) rfl), (zz_g (zz_t1 (i := 7) rfl) rfl), by decide +kernel, by decide +kernel, by decide +kernel, rfl, Nat.le_of_ble_eq_true rfl, zcd129⟩
set_option maxRecDepth 20000 in
theorem zm130 : zmOk (yX6_swap, cX6_swap, 9, (some .int), zc130, 6, 4, 4) := ⟨by decide +kernel, (zz_g (zz_t3 (i := 179) rfl) rfl), (zz_g (zz_t1 (i := 7) rfl) rfl), by decide +kernel, by decide +kernel, by decide +kernel, rfl, Nat.le_of_ble_eq_true rfl, zcd130⟩
set_option maxRecDepth 20000 in
theorem zm131 : zmOk (yX6_settle, cX6_settle, 2, (some .int), zc131, 6, 5, 0) := ⟨by decide +kernel, (zz_g (zz_t3 (i := 203) rfl) rfl), (zz_g (zz_t1 (i := 7) rfl) rfl), by decide +kernel, by decide +kernel, by decide +kernel, rfl, Nat.le_of_ble_eq_true rfl, zcd131⟩
set_option maxRecDepth 20000 in
theorem zm132 : zmOk (yX6_placeOf, cX6_placeOf, 4, (some .int), zc132, 6, 0, 1) := ⟨by decide +kernel, (zz_g (zz_t3 (i := 234) rfl) rfl), (zz_g (zz_t1 (i := 7) rfl) rfl), by decide +kernel, by decide +kernel, by decide +kernel, rfl, Nat.le_of_ble_eq_true rfl, zcd132⟩
set_option maxRecDepth 20000 in
theorem zm133 : zmOk (yX6_heir, cX6_heir, 3, (some .int), zc133, 6, 2, 2) := ⟨by decide +kernel, (zz_g (zz_t3 (i := 230) rfl) rfl), (zz_g (zz_t1 (i := 7) rfl) rfl), by decide +kernel, by decide +kernel, by decide +kernel, rfl, Nat.le_of_ble_eq_true rfl, zcd133⟩
set_option maxRecDepth 20000 in
theorem zm134 : zmOk (yX6_bag, cX6_bag, 5, (some .int), zc134, 6, 3, 3) := ⟨by decide +kernel, (zz_g (zz_t3 (i := 238) rfl) rfl), (zz_g (zz_t1 (i := 7) rfl) rfl), by decide +kernel, by decide +kernel, by decide +kernel, rfl, Nat.le_of_ble_eq_true rfl, zcd134⟩
set_option maxRecDepth 20000 in
theorem zm135 : zmOk (yX6_hopper, cX6_hopper, 3, (some .int), zc135, 6, 1, 2) := ⟨by decide +kernel, (zz_g (zz_t4 (i := 2) rfl) rfl), (zz_g (zz_t1 (i := 7) rfl) rfl), by decide +kernel, by decide +kernel, by decide +kernel, rfl, Nat.le_of_ble_eq_true rfl, zcd135⟩
set_option maxRecDepth 20000 in
theorem zm136 : zmOk (yX6_vetoes, cX6_vetoes, 2, (some .int), zc136, 6, 2, 1) := ⟨by decide +kernel, (zz_g (zz_t4 (i := 6) rfl) rfl), (zz_g (zz_t1 (i := 7) rfl) rfl), by decide +kernel, by decide +kernel, by decide +kernel, rfl, Nat.le_of_ble_eq_true rfl, zcd136⟩
set_option maxRecDepth 20000 in
theorem zm137 : zmOk (yX6_at, cX6_at, 2, (some .int), zc137, 6, 1, 1) := ⟨by decide +kernel, (zz_g (zz_t4 (i := 10) rfl) rfl), (zz_g (zz_t1 (i := 7) rfl) rfl), by decide +kernel, by decide +kernel, by decide +kernel, rfl, Nat.le_of_ble_eq_true rfl, zcd137⟩
set_option maxRecDepth 20000 in
theorem zm138 : zmOk (yX6_valuesIn, cX6_valuesIn, 5, (some .int), zc138, 6, 0, 2) := ⟨by decide +kernel, (zz_g (zz_t4 (i := 18) rfl) rfl), (zz_g (zz_t1 (i := 7) rfl) rfl), by decide +kernel, by decide +kernel, by decide +kernel, rfl, Nat.le_of_ble_eq_true rfl, zcd138⟩
set_option maxRecDepth 20000 in
theorem zm139 : zmOk (yX6_total, cX6_total, 2, (some .int), zc139, 6, 3, 1) := ⟨by decide +kernel, (zz_g (zz_t4 (i := 14) rfl) rfl), (zz_g (zz_t1 (i := 7) rfl) rfl), by decide +kernel, by decide +kernel, by decide +kernel, rfl, Nat.le_of_ble_eq_true rfl, zcd139⟩
set_option maxRecDepth 20000 in
theorem zm140 : zmOk (yX6_ifDivided, cX6_ifDivided, 5, (some .int), zc140, 6, 5, 2) := ⟨by decide +kernel, (zz_g (zz_t4 (i := 30) rfl) rfl), (zz_g (zz_t1 (i := 7) rfl) rfl), by decide +kernel, by decide +kernel, by decide +kernel, rfl, Nat.le_of_ble_eq_true rfl, zcd140⟩
set_option maxRecDepth 20000 in
theorem zm141 : zmOk (yX6_fairestRule, cX6_fairestRule, 6, (some .int), zc141, 6, 5, 0) := ⟨by decide +kernel, (zz_g (zz_t4 (i := 42) rfl) rfl), (zz_g (zz_t1 (i := 7) rfl) rfl), by decide +kernel, by decide +kernel, by decide +kernel, rfl, Nat.le_of_ble_eq_true rfl, zcd141⟩
set_option maxRecDepth 20000 in
theorem zm142 : zmOk (yX6_whoVetoes, cX6_whoVetoes, 6, (some .int), zc142, 6, 4, 4) := ⟨by decide +kernel, (zz_g (zz_t4 (i := 46) rfl) rfl), (zz_g (zz_t1 (i := 7) rfl) rfl), by decide +kernel, by decide +kernel, by decide +kernel, rfl, Nat.le_of_ble_eq_true rfl, zcd142⟩
set_option maxRecDepth 20000 in
theorem zm143 : zmOk (yX6_bestSwap, cX6_bestSwap, 2, (some .int), zc143, 6, 5, 1) := ⟨by decide +kernel, (zz_g (zz_t4 (i := 50) rfl) rfl), (zz_g (zz_t1 (i := 7) rfl) rfl), by decide +kernel, by decide +kernel, by decide +kernel, rfl, Nat.le_of_ble_eq_true rfl, zcd143⟩
set_option maxRecDepth 20000 in
theorem zm144 : zmOk (yX6_append, cX6_append, 2, (some .int), zc144, 6, 1, 1) := ⟨by decide +kernel, (zz_g (zz_t4 (i := 54) rfl) rfl), (zz_g (zz_t1 (i := 7) rfl) rfl), by decide +kernel, by decide +kernel, by decide +kernel, rfl, Nat.le_of_ble_eq_true rfl, zcd144⟩
set_option maxRecDepth 20000 in
theorem zm145 : zmOk (yX6_clearText, cX6_clearText, 2, (some .int), zc145, 6, 0, 0) := ⟨by decide +kernel, (zz_g (zz_t4 (i := 58) rfl) rfl), (zz_g (zz_t1 (i := 7) rfl) rfl), by decide +kernel, by decide +kernel, by decide +kernel, rfl, Nat.le_of_ble_eq_true rfl, zcd145⟩
set_option maxRecDepth 20000 in
theorem zm146 : zmOk (yX6_colourFor, cX6_colourFor, 1, (some .int), zc146, 6, 0, 1) := ⟨by decide +kernel, (zz_g (zz_t4 (i := 73) rfl) rfl), (zz_g (zz_t1 (i := 7) rfl) rfl), by decide +kernel, by decide +kernel, by decide +kernel, rfl, Nat.le_of_ble_eq_true rfl, zcd146⟩
set_option maxRecDepth 20000 in
theorem zm147 : zmOk (yX6_next, cX6_next, 2, (some .int), zc147, 6, 0, 1) := ⟨by decide +kernel, (zz_g (zz_t4 (i := 70) rfl) rfl), (zz_g (zz_t1 (i := 7) rfl) rfl), by decide +kernel, by decide +kernel, by decide +kernel, rfl, Nat.le_of_ble_eq_true rfl, zcd147⟩
set_option maxRecDepth 20000 in
theorem zm148 : zmOk (yX6_goes, cX6_goes, 6, (some .int), zc148, 6, 1, 1) := ⟨by decide +kernel, (zz_g (zz_t4 (i := 66) rfl) rfl), (zz_g (zz_t1 (i := 7) rfl) rfl), by decide +kernel, by decide +kernel, by decide +kernel, rfl, Nat.le_of_ble_eq_true rfl, zcd148⟩
set_option maxRecDepth 20000 in
theorem zm149 : zmOk (yX6_errorPosition, cX6_errorPosition, 1, (some .int), zc149, 6, 2, 0) := ⟨by decide +kernel, (zz_g (zz_t4 (i := 62) rfl) rfl), (zz_g (zz_t1 (i := 7) rfl) rfl), by decide +kernel, by decide +kernel, by decide +kernel, rfl, Nat.le_of_ble_eq_true rfl, zcd149⟩
set_option maxRecDepth 20000 in
theorem zm150 : zmOk (yX6_pour, cX6_pour, 2, (some .int), zc150, 6, 2, 0) := ⟨by decide +kernel, (zz_g (zz_t4 (i := 77) rfl) rfl), (zz_g (zz_t1 (i := 7) rfl) rfl), by decide +kernel, by decide +kernel, by decide +kernel, rfl, Nat.le_of_ble_eq_true rfl, zcd150⟩
set_option maxRecDepth 20000 in
theorem zm151 : zmOk (yX6_undo, cX6_undo, 2, (some .int), zc151, 6, 0, 0) := ⟨by decide +kernel, (zz_g (zz_t4 (i := 81) rfl) rfl), (zz_g (zz_t1 (i := 7) rfl) rfl), by decide +kernel, by decide +kernel, by decide +kernel, rfl, Nat.le_of_ble_eq_true rfl, zcd151⟩
set_option maxRecDepth 20000 in
theorem zm152 : zmOk (yX6_save, cX6_save, 2, (some .int), zc152, 6, 0, 0) := ⟨by decide +kernel, (zz_g (zz_t4 (i := 85) rfl) rfl), (zz_g (zz_t1 (i := 7) rfl) rfl), by decide +kernel, by decide +kernel, by decide +kernel, rfl, Nat.le_of_ble_eq_true rfl, zcd152⟩
set_option maxRecDepth 20000 in
theorem zm153 : zmOk (yX6_restore, cX6_restore, 2, (some .int), zc153, 6, 1, 0) := ⟨by decide +kernel, (zz_g (zz_t4 (i := 89) rfl) rfl), (zz_g (zz_t1 (i := 7) rfl) rfl), by decide +kernel, by decide +kernel, by decide +kernel, rfl, Nat.le_of_ble_eq_true rfl, zcd153⟩
