theorem zz_t1 {i : Nat} {w : Cond} (h : tables_1_1[i]? = some w) : w ∈ lw_tbl := List.mem_append_right _ (List.mem_append_left _ (List.mem_of_getElem? h))
theorem zz_t2 {i : Nat} {w : Cond} (h : tables_1_2[i]? = some w) : w ∈ lw_tbl := List.mem_append_right _ (List.mem_append_right _ (List.mem_append_left _ (List.mem_of_getElem? h)))
theorem zz_t3 {i : Nat} {w : Cond} (h : tables_1_3[i]? = some w) : w ∈ lw_tbl := List.mem_append_right _ (List.mem_append_right _ (List.mem_append_right _ (List.mem_of_getElem? h)))
theorem zz_p {i : Nat} {w : Cond} (h : (k2_sels lw_privs)[i]? = some w) : w ∈ lw_tbl := List.mem_append_left _ (List.mem_of_getElem? h)
def zGW : List Cond := lw_tbl.filter goodWord
theorem zz_g {w : Cond} (h : w ∈ lw_tbl) (hg : goodWord w = true) : w ∈ zGW := List.mem_filter.mpr ⟨h, hg⟩
set_option maxRecDepth 20000 in
theorem zin0 : ∀ w ∈ u_ws RX0 TX0 6, w ∈ zGW := ((List.forall_mem_cons.mpr ⟨(zz_g (zz_t1 (i := 128) rfl) rfl), (List.forall_mem_cons.mpr ⟨(zz_g (zz_t1 (i := 130) rfl) rfl), (List.forall_mem_cons.mpr ⟨(zz_g (zz_t1 (i := 132) rfl) rfl), (List.forall_mem_cons.mpr ⟨(zz_g (zz_t1 (i := 134) rfl) rfl), (List.forall_mem_cons.mpr ⟨(zz_g (zz_t1 (i := 136) rfl) rfl), (List.forall_mem_cons.mpr ⟨(zz_g (zz_t1 (i := 138) rfl) rfl), (fun _ h => absurd h List.not_mem_nil)⟩)⟩)⟩)⟩)⟩)⟩) : ∀ w ∈ [u_lay RX0 TX0 0, u_lay RX0 TX0 1, u_lay RX0 TX0 2, u_lay RX0 TX0 3, u_lay RX0 TX0 4, u_lay RX0 TX0 5], w ∈ zGW)
set_option maxRecDepth 20000 in
theorem zin1 : ∀ w ∈ u_ws RX1 TX1 2, w ∈ zGW := ((List.forall_mem_cons.mpr ⟨(zz_g (zz_t1 (i := 31) rfl) rfl), (List.forall_mem_cons.mpr ⟨(zz_g (zz_t1 (i := 33) rfl) rfl), (fun _ h => absurd h List.not_mem_nil)⟩)⟩) : ∀ w ∈ [u_lay RX1 TX1 0, u_lay RX1 TX1 1], w ∈ zGW)
set_option maxRecDepth 20000 in
theorem zin2 : ∀ w ∈ u_ws RX2 TX2 2, w ∈ zGW := ((List.forall_mem_cons.mpr ⟨(zz_g (zz_t1 (i := 93) rfl) rfl), (List.forall_mem_cons.mpr ⟨(zz_g (zz_t1 (i := 95) rfl) rfl), (fun _ h => absurd h List.not_mem_nil)⟩)⟩) : ∀ w ∈ [u_lay RX2 TX2 0, u_lay RX2 TX2 1], w ∈ zGW)
set_option maxRecDepth 20000 in
theorem zin3 : ∀ w ∈ u_ws RX3 TX3 11, w ∈ zGW := ((List.forall_mem_cons.mpr ⟨(zz_g (zz_t1 (i := 58) rfl) rfl), (List.forall_mem_cons.mpr ⟨(zz_g (zz_t1 (i := 60) rfl) rfl), (List.forall_mem_cons.mpr ⟨(zz_g (zz_t1 (i := 62) rfl) rfl), (List.forall_mem_cons.mpr ⟨(zz_g (zz_t1 (i := 64) rfl) rfl), (List.forall_mem_cons.mpr ⟨(zz_g (zz_t1 (i := 66) rfl) rfl), (List.forall_mem_cons.mpr ⟨(zz_g (zz_t1 (i := 68) rfl) rfl), (List.forall_mem_cons.mpr ⟨(zz_g (zz_t1 (i := 70) rfl) rfl), (List.forall_mem_cons.mpr ⟨(zz_g (zz_t1 (i := 72) rfl) rfl), (List.forall_mem_cons.mpr ⟨(zz_g (zz_t1 (i := 74) rfl) rfl), (List.forall_mem_cons.mpr ⟨(zz_g (zz_t1 (i := 76) rfl) rfl), (List.forall_mem_cons.mpr ⟨(zz_g (zz_t1 (i := 78) rfl) rfl), (fun _ h => absurd h List.not_mem_nil)⟩)⟩)⟩)⟩)⟩)⟩)⟩)⟩)⟩)⟩)⟩) : ∀ w ∈ [u_lay RX3 TX3 0, u_lay RX3 TX3 1, u_lay RX3 TX3 2, u_lay RX3 TX3 3, u_lay RX3 TX3 4, u_lay RX3 TX3 5, u_lay RX3 TX3 6, u_lay RX3 TX3 7, u_lay RX3 TX3 8, u_lay RX3 TX3 9, u_lay RX3 TX3 10], w ∈ zGW)
set_option maxRecDepth 20000 in
theorem zin4 : ∀ w ∈ u_ws RX4 TX4 2, w ∈ zGW := ((List.forall_mem_cons.mpr ⟨(zz_g (zz_t1 (i := 106) rfl) rfl), (List.forall_mem_cons.mpr ⟨(zz_g (zz_t1 (i := 108) rfl) rfl), (fun _ h => absurd h List.not_mem_nil)⟩)⟩) : ∀ w ∈ [u_lay RX4 TX4 0, u_lay RX4 TX4 1], w ∈ zGW)
set_option maxRecDepth 20000 in
theorem zin5 : ∀ w ∈ u_ws RX5 TX5 7, w ∈ zGW := ((List.forall_mem_cons.mpr ⟨(zz_g (zz_t1 (i := 148) rfl) rfl), (List.forall_mem_cons.mpr ⟨(zz_g (zz_t1 (i := 150) rfl) rfl), (List.forall_mem_cons.mpr ⟨(zz_g (zz_t1 (i := 152) rfl) rfl), (List.forall_mem_cons.mpr ⟨(zz_g (zz_t1 (i := 154) rfl) rfl), (List.forall_mem_cons.mpr ⟨(zz_g (zz_t1 (i := 156) rfl) rfl), (List.forall_mem_cons.mpr ⟨(zz_g (zz_t1 (i := 158) rfl) rfl), (List.forall_mem_cons.mpr ⟨(zz_g (zz_t1 (i := 160) rfl) rfl), (fun _ h => absurd h List.not_mem_nil)⟩)⟩)⟩)⟩)⟩)⟩)⟩) : ∀ w ∈ [u_lay RX5 TX5 0, u_lay RX5 TX5 1, u_lay RX5 TX5 2, u_lay RX5 TX5 3, u_lay RX5 TX5 4, u_lay RX5 TX5 5, u_lay RX5 TX5 6], w ∈ zGW)
theorem zcl_ok {ci : Nat} {q : vw_C} (h : zcl[ci]? = some q) : q = (zcn ci, zT ci, q.2.2) ∧ (∀ w ∈ u_ws q.1 q.2.1 q.2.2, w ∈ zGW) ∧ (∀ k, k < q.2.2 → parseFieldDescriptor (q.2.1 k).2.2.1 = some (zTy ci k)) ∧ (∀ a, a < q.2.2 → ∀ b, b < q.2.2 → a ≠ b → (q.2.1 a).2.1 ≠ (q.2.1 b).2.1) ∧ ∀ k, (q.2.1 k).1 = q.1 := by
  have hc : ci < 6 := (List.getElem?_eq_some_iff.mp h).1
  rcases ci with _ | _ | _ | _ | _ | _ | n
  · cases h; exact ⟨rfl, zin0, tyX0_ok, nmX0, fun k => by simp only [TX0]; (repeat' split) <;> rfl⟩
  · cases h; exact ⟨rfl, zin1, tyX1_ok, nmX1, fun k => by simp only [TX1]; (repeat' split) <;> rfl⟩
  · cases h; exact ⟨rfl, zin2, tyX2_ok, nmX2, fun k => by simp only [TX2]; (repeat' split) <;> rfl⟩
  · cases h; exact ⟨rfl, zin3, tyX3_ok, nmX3, fun k => by simp only [TX3]; (repeat' split) <;> rfl⟩
  · cases h; exact ⟨rfl, zin4, tyX4_ok, nmX4, fun k => by simp only [TX4]; (repeat' split) <;> rfl⟩
  · cases h; exact ⟨rfl, zin5, tyX5_ok, nmX5, fun k => by simp only [TX5]; (repeat' split) <;> rfl⟩
  · omega
def zmOk (r : zRec) : Prop := plainName r.1.cls = true ∧ Cond.code r.1 r.2.1 r.2.2.1 r.2.2.2.1 ∈ zGW ∧ Cond.initialized r.1.cls ∈ zGW ∧ (parseMethodDescriptor r.1.desc).map (fun q => q.parameters.length) = some r.2.2.2.2.2.2.2 ∧ r.1.cls ≠ "java/lang/invoke/MethodHandle" ∧ r.1.cls ≠ "java/lang/invoke/VarHandle" ∧ zcn r.2.2.2.2.2.1 = r.1.cls ∧ r.2.2.1 ≤ 18 ∧ zdecs r.2.1 r.2.2.2.2.1
set_option maxRecDepth 20000 in
theorem zm0 : zmOk (yX0_init, cX0_init, 1, none, zc0, 0, 1, 0) := ⟨by decide +kernel, (zz_g (zz_t1 (i := 115) rfl) rfl), (zz_g (zz_t1 (i := 6) rfl) rfl), by decide +kernel, by decide +kernel, by decide +kernel, rfl, Nat.le_of_ble_eq_true rfl, zcd0⟩
set_option maxRecDepth 20000 in
theorem zm1 : zmOk (yX0_tell, cX0_tell, 2, (some .int), zc1, 0, 0, 1) := ⟨by decide +kernel, (zz_g (zz_t3 (i := 5) rfl) rfl), (zz_g (zz_t1 (i := 6) rfl) rfl), by decide +kernel, by decide +kernel, by decide +kernel, rfl, Nat.le_of_ble_eq_true rfl, zcd1⟩
set_option maxRecDepth 20000 in
theorem zm2 : zmOk (yX0_searchIn, cX0_searchIn, 5, none, zc2, 0, 4, 1) := ⟨by decide +kernel, (zz_g (zz_t2 (i := 217) rfl) rfl), (zz_g (zz_t1 (i := 6) rfl) rfl), by decide +kernel, by decide +kernel, by decide +kernel, rfl, Nat.le_of_ble_eq_true rfl, zcd2⟩
set_option maxRecDepth 20000 in
theorem zm3 : zmOk (yX0_searchPartners, cX0_searchPartners, 13, none, zc3, 0, 3, 3) := ⟨by decide +kernel, (zz_g (zz_t2 (i := 222) rfl) rfl), (zz_g (zz_t1 (i := 6) rfl) rfl), by decide +kernel, by decide +kernel, by decide +kernel, rfl, Nat.le_of_ble_eq_true rfl, zcd3⟩
set_option maxRecDepth 20000 in
theorem zm4 : zmOk (yX0_one, cX0_one, 2, (some .int), zc4, 0, 0, 2) := ⟨by decide +kernel, (zz_g (zz_t2 (i := 226) rfl) rfl), (zz_g (zz_t1 (i := 6) rfl) rfl), by decide +kernel, by decide +kernel, by decide +kernel, rfl, Nat.le_of_ble_eq_true rfl, zcd4⟩
set_option maxRecDepth 20000 in
theorem zm5 : zmOk (yX0_weigh, cX0_weigh, 9, none, zc5, 0, 2, 6) := ⟨by decide +kernel, (zz_g (zz_t2 (i := 231) rfl) rfl), (zz_g (zz_t1 (i := 6) rfl) rfl), by decide +kernel, by decide +kernel, by decide +kernel, rfl, Nat.le_of_ble_eq_true rfl, zcd5⟩
set_option maxRecDepth 20000 in
theorem zm6 : zmOk (yX1_init, cX1_init, 1, none, zc6, 1, 1, 0) := ⟨by decide +kernel, (zz_g (zz_t1 (i := 27) rfl) rfl), (zz_g (zz_t1 (i := 3) rfl) rfl), by decide +kernel, by decide +kernel, by decide +kernel, rfl, Nat.le_of_ble_eq_true rfl, zcd6⟩
set_option maxRecDepth 20000 in
theorem zm7 : zmOk (yX1_copyFrom, cX1_copyFrom, 2, none, zc7, 1, 1, 1) := ⟨by decide +kernel, (zz_g (zz_t1 (i := 220) rfl) rfl), (zz_g (zz_t1 (i := 3) rfl) rfl), by decide +kernel, by decide +kernel, by decide +kernel, rfl, Nat.le_of_ble_eq_true rfl, zcd7⟩
set_option maxRecDepth 20000 in
theorem zm8 : zmOk (yX1_count, cX1_count, 2, (some .int), zc8, 1, 0, 1) := ⟨by decide +kernel, (zz_g (zz_t1 (i := 174) rfl) rfl), (zz_g (zz_t1 (i := 3) rfl) rfl), by decide +kernel, by decide +kernel, by decide +kernel, rfl, Nat.le_of_ble_eq_true rfl, zcd8⟩
set_option maxRecDepth 20000 in
theorem zm9 : zmOk (yX1_has, cX1_has, 3, (some .boolean), zc9, 1, 1, 2) := ⟨by decide +kernel, (zz_g (zz_t2 (i := 94) rfl) rfl), (zz_g (zz_t1 (i := 3) rfl) rfl), by decide +kernel, by decide +kernel, by decide +kernel, rfl, Nat.le_of_ble_eq_true rfl, zcd9⟩
set_option maxRecDepth 20000 in
theorem zm10 : zmOk (yX1_colour, cX1_colour, 3, (some .int), zc10, 1, 0, 2) := ⟨by decide +kernel, (zz_g (zz_t2 (i := 102) rfl) rfl), (zz_g (zz_t1 (i := 3) rfl) rfl), by decide +kernel, by decide +kernel, by decide +kernel, rfl, Nat.le_of_ble_eq_true rfl, zcd10⟩
set_option maxRecDepth 20000 in
theorem zm11 : zmOk (yX1_value, cX1_value, 3, (some .int), zc11, 1, 0, 2) := ⟨by decide +kernel, (zz_g (zz_t2 (i := 106) rfl) rfl), (zz_g (zz_t1 (i := 3) rfl) rfl), by decide +kernel, by decide +kernel, by decide +kernel, rfl, Nat.le_of_ble_eq_true rfl, zcd11⟩
set_option maxRecDepth 20000 in
theorem zm12 : zmOk (yX1_describe, cX1_describe, 4, (some .int), zc12, 1, 1, 3) := ⟨by decide +kernel, (zz_g (zz_t2 (i := 98) rfl) rfl), (zz_g (zz_t1 (i := 3) rfl) rfl), by decide +kernel, by decide +kernel, by decide +kernel, rfl, Nat.le_of_ble_eq_true rfl, zcd12⟩
set_option maxRecDepth 20000 in
theorem zm13 : zmOk (yX1_sum, cX1_sum, 4, (some .int), zc13, 1, 0, 1) := ⟨by decide +kernel, (zz_g (zz_t1 (i := 186) rfl) rfl), (zz_g (zz_t1 (i := 3) rfl) rfl), by decide +kernel, by decide +kernel, by decide +kernel, rfl, Nat.le_of_ble_eq_true rfl, zcd13⟩
set_option maxRecDepth 20000 in
theorem zm14 : zmOk (yX1_countOf, cX1_countOf, 5, (some .int), zc14, 1, 0, 2) := ⟨by decide +kernel, (zz_g (zz_t1 (i := 190) rfl) rfl), (zz_g (zz_t1 (i := 3) rfl) rfl), by decide +kernel, by decide +kernel, by decide +kernel, rfl, Nat.le_of_ble_eq_true rfl, zcd14⟩
set_option maxRecDepth 20000 in
theorem zm15 : zmOk (yX1_hasRoom, cX1_hasRoom, 1, (some .boolean), zc15, 1, 1, 0) := ⟨by decide +kernel, (zz_g (zz_t2 (i := 81) rfl) rfl), (zz_g (zz_t1 (i := 3) rfl) rfl), by decide +kernel, by decide +kernel, by decide +kernel, rfl, Nat.le_of_ble_eq_true rfl, zcd15⟩
set_option maxRecDepth 20000 in
theorem zm16 : zmOk (yX1_add, cX1_add, 3, (some .boolean), zc16, 1, 2, 2) := ⟨by decide +kernel, (zz_g (zz_t2 (i := 85) rfl) rfl), (zz_g (zz_t1 (i := 3) rfl) rfl), by decide +kernel, by decide +kernel, by decide +kernel, rfl, Nat.le_of_ble_eq_true rfl, zcd16⟩
set_option maxRecDepth 20000 in
theorem zm17 : zmOk (yX1_giveFirstTo, cX1_giveFirstTo, 6, none, zc17, 1, 1, 1) := ⟨by decide +kernel, (zz_g (zz_t2 (i := 129) rfl) rfl), (zz_g (zz_t1 (i := 3) rfl) rfl), by decide +kernel, by decide +kernel, by decide +kernel, rfl, Nat.le_of_ble_eq_true rfl, zcd17⟩
set_option maxRecDepth 20000 in
theorem zm18 : zmOk (yX1_trade, cX1_trade, 8, none, zc18, 1, 0, 4) := ⟨by decide +kernel, (zz_g (zz_t2 (i := 209) rfl) rfl), (zz_g (zz_t1 (i := 3) rfl) rfl), by decide +kernel, by decide +kernel, by decide +kernel, rfl, Nat.le_of_ble_eq_true rfl, zcd18⟩
set_option maxRecDepth 20000 in
theorem zm19 : zmOk (yX1_removeBag, cX1_removeBag, 4, none, zc19, 1, 1, 1) := ⟨by decide +kernel, (zz_g (zz_t2 (i := 44) rfl) rfl), (zz_g (zz_t1 (i := 3) rfl) rfl), by decide +kernel, by decide +kernel, by decide +kernel, rfl, Nat.le_of_ble_eq_true rfl, zcd19⟩
set_option maxRecDepth 20000 in
theorem zm20 : zmOk (yX2_init, cX2_init, 2, none, zc20, 2, 3, 0) := ⟨by decide +kernel, (zz_g (zz_t1 (i := 85) rfl) rfl), (zz_g (zz_t1 (i := 4) rfl) rfl), by decide +kernel, by decide +kernel, by decide +kernel, rfl, Nat.le_of_ble_eq_true rfl, zcd20⟩
set_option maxRecDepth 20000 in
theorem zm21 : zmOk (yX2_keep, cX2_keep, 2, none, zc21, 2, 3, 1) := ⟨by decide +kernel, (zz_g (zz_t1 (i := 232) rfl) rfl), (zz_g (zz_t1 (i := 4) rfl) rfl), by decide +kernel, by decide +kernel, by decide +kernel, rfl, Nat.le_of_ble_eq_true rfl, zcd21⟩
set_option maxRecDepth 20000 in
theorem zm22 : zmOk (yX2_discardOldest, cX2_discardOldest, 3, none, zc22, 2, 0, 0) := ⟨by decide +kernel, (zz_g (zz_t1 (i := 236) rfl) rfl), (zz_g (zz_t1 (i := 4) rfl) rfl), by decide +kernel, by decide +kernel, by decide +kernel, rfl, Nat.le_of_ble_eq_true rfl, zcd22⟩
set_option maxRecDepth 20000 in
theorem zm23 : zmOk (yX2_takeBack, cX2_takeBack, 2, none, zc23, 2, 3, 1) := ⟨by decide +kernel, (zz_g (zz_t1 (i := 212) rfl) rfl), (zz_g (zz_t1 (i := 4) rfl) rfl), by decide +kernel, by decide +kernel, by decide +kernel, rfl, Nat.le_of_ble_eq_true rfl, zcd23⟩
set_option maxRecDepth 20000 in
theorem zm24 : zmOk (yX3_init, cX3_init, 2, none, zc24, 3, 2, 0) := ⟨by decide +kernel, (zz_g (zz_t1 (i := 21) rfl) rfl), (zz_g (zz_t1 (i := 2) rfl) rfl), by decide +kernel, by decide +kernel, by decide +kernel, rfl, Nat.le_of_ble_eq_true rfl, zcd24⟩
set_option maxRecDepth 20000 in
theorem zm25 : zmOk (yX3_copyFrom, cX3_copyFrom, 2, none, zc25, 3, 2, 1) := ⟨by decide +kernel, (zz_g (zz_t1 (i := 216) rfl) rfl), (zz_g (zz_t1 (i := 2) rfl) rfl), by decide +kernel, by decide +kernel, by decide +kernel, rfl, Nat.le_of_ble_eq_true rfl, zcd25⟩
set_option maxRecDepth 20000 in
theorem zm26 : zmOk (yX3_hasHeir, cX3_hasHeir, 2, (some .boolean), zc26, 3, 0, 1) := ⟨by decide +kernel, (zz_g (zz_t2 (i := 30) rfl) rfl), (zz_g (zz_t1 (i := 2) rfl) rfl), by decide +kernel, by decide +kernel, by decide +kernel, rfl, Nat.le_of_ble_eq_true rfl, zcd26⟩
set_option maxRecDepth 20000 in
theorem zm27 : zmOk (yX3_hasMarble, cX3_hasMarble, 3, (some .boolean), zc27, 3, 2, 2) := ⟨by decide +kernel, (zz_g (zz_t2 (i := 145) rfl) rfl), (zz_g (zz_t1 (i := 2) rfl) rfl), by decide +kernel, by decide +kernel, by decide +kernel, rfl, Nat.le_of_ble_eq_true rfl, zcd27⟩
set_option maxRecDepth 20000 in
theorem zm28 : zmOk (yX3_addHeir, cX3_addHeir, 4, (some .int), zc28, 3, 0, 2) := ⟨by decide +kernel, (zz_g (zz_t2 (i := 22) rfl) rfl), (zz_g (zz_t1 (i := 2) rfl) rfl), by decide +kernel, by decide +kernel, by decide +kernel, rfl, Nat.le_of_ble_eq_true rfl, zcd28⟩
set_option maxRecDepth 20000 in
theorem zm29 : zmOk (yX3_removeHeir, cX3_removeHeir, 3, none, zc29, 3, 2, 1) := ⟨by decide +kernel, (zz_g (zz_t2 (i := 40) rfl) rfl), (zz_g (zz_t1 (i := 2) rfl) rfl), by decide +kernel, by decide +kernel, by decide +kernel, rfl, Nat.le_of_ble_eq_true rfl, zcd29⟩
set_option maxRecDepth 20000 in
theorem zm30 : zmOk (yX3_placeOf, cX3_placeOf, 3, (some .int), zc30, 3, 0, 1) := ⟨by decide +kernel, (zz_g (zz_t1 (i := 194) rfl) rfl), (zz_g (zz_t1 (i := 2) rfl) rfl), by decide +kernel, by decide +kernel, by decide +kernel, rfl, Nat.le_of_ble_eq_true rfl, zcd30⟩
set_option maxRecDepth 20000 in
theorem zm31 : zmOk (yX3_playAllRounds, cX3_playAllRounds, 3, (some .int), zc31, 3, 4, 0) := ⟨by decide +kernel, (zz_g (zz_t2 (i := 158) rfl) rfl), (zz_g (zz_t1 (i := 2) rfl) rfl), by decide +kernel, by decide +kernel, by decide +kernel, rfl, Nat.le_of_ble_eq_true rfl, zcd31⟩
set_option maxRecDepth 20000 in
theorem zm32 : zmOk (yX3_playRound, cX3_playRound, 3, (some .int), zc32, 3, 3, 0) := ⟨by decide +kernel, (zz_g (zz_t2 (i := 117) rfl) rfl), (zz_g (zz_t1 (i := 2) rfl) rfl), by decide +kernel, by decide +kernel, by decide +kernel, rfl, Nat.le_of_ble_eq_true rfl, zcd32⟩
set_option maxRecDepth 20000 in
theorem zm33 : zmOk (yX3_giveInOrder, cX3_giveInOrder, 3, none, zc33, 3, 2, 1) := ⟨by decide +kernel, (zz_g (zz_t2 (i := 133) rfl) rfl), (zz_g (zz_t1 (i := 2) rfl) rfl), by decide +kernel, by decide +kernel, by decide +kernel, rfl, Nat.le_of_ble_eq_true rfl, zcd33⟩
set_option maxRecDepth 20000 in
theorem zm34 : zmOk (yX3_giveToPoorest, cX3_giveToPoorest, 5, none, zc34, 3, 2, 1) := ⟨by decide +kernel, (zz_g (zz_t2 (i := 121) rfl) rfl), (zz_g (zz_t1 (i := 2) rfl) rfl), by decide +kernel, by decide +kernel, by decide +kernel, rfl, Nat.le_of_ble_eq_true rfl, zcd34⟩
set_option maxRecDepth 20000 in
theorem zm35 : zmOk (yX3_poorestBut, cX3_poorestBut, 7, (some .int), zc35, 3, 1, 1) := ⟨by decide +kernel, (zz_g (zz_t2 (i := 125) rfl) rfl), (zz_g (zz_t1 (i := 2) rfl) rfl), by decide +kernel, by decide +kernel, by decide +kernel, rfl, Nat.le_of_ble_eq_true rfl, zcd35⟩
set_option maxRecDepth 20000 in
theorem zm36 : zmOk (yX3_exchangeUnlessVetoed, cX3_exchangeUnlessVetoed, 6, (some .int), zc36, 3, 2, 4) := ⟨by decide +kernel, (zz_g (zz_t2 (i := 200) rfl) rfl), (zz_g (zz_t1 (i := 2) rfl) rfl), by decide +kernel, by decide +kernel, by decide +kernel, rfl, Nat.le_of_ble_eq_true rfl, zcd36⟩
set_option maxRecDepth 20000 in
theorem zm37 : zmOk (yX3_exchange, cX3_exchange, 5, none, zc37, 3, 1, 4) := ⟨by decide +kernel, (zz_g (zz_t2 (i := 205) rfl) rfl), (zz_g (zz_t1 (i := 2) rfl) rfl), by decide +kernel, by decide +kernel, by decide +kernel, rfl, Nat.le_of_ble_eq_true rfl, zcd37⟩
set_option maxRecDepth 20000 in
theorem zm38 : zmOk (yX3_vetoer, cX3_vetoer, 6, (some .int), zc38, 3, 1, 4) := ⟨by decide +kernel, (zz_g (zz_t2 (i := 187) rfl) rfl), (zz_g (zz_t1 (i := 2) rfl) rfl), by decide +kernel, by decide +kernel, by decide +kernel, rfl, Nat.le_of_ble_eq_true rfl, zcd38⟩
set_option maxRecDepth 20000 in
theorem zm39 : zmOk (yX3_objects, cX3_objects, 3, (some .boolean), zc39, 3, 0, 2) := ⟨by decide +kernel, (zz_g (zz_t2 (i := 192) rfl) rfl), (zz_g (zz_t1 (i := 2) rfl) rfl), by decide +kernel, by decide +kernel, by decide +kernel, rfl, Nat.le_of_ble_eq_true rfl, zcd39⟩
set_option maxRecDepth 20000 in
theorem zm40 : zmOk (yX3_about, cX3_about, 3, (some .int), zc40, 3, 1, 2) := ⟨by decide +kernel, (zz_g (zz_t1 (i := 182) rfl) rfl), (zz_g (zz_t1 (i := 2) rfl) rfl), by decide +kernel, by decide +kernel, by decide +kernel, rfl, Nat.le_of_ble_eq_true rfl, zcd40⟩
set_option maxRecDepth 20000 in
theorem zm41 : zmOk (yX3_figure, cX3_figure, 2, (some .int), zc41, 3, 3, 1) := ⟨by decide +kernel, (zz_g (zz_t1 (i := 170) rfl) rfl), (zz_g (zz_t1 (i := 2) rfl) rfl), by decide +kernel, by decide +kernel, by decide +kernel, rfl, Nat.le_of_ble_eq_true rfl, zcd41⟩
set_option maxRecDepth 20000 in
theorem zm42 : zmOk (yX3_overAll, cX3_overAll, 4, (some .int), zc42, 3, 2, 1) := ⟨by decide +kernel, (zz_g (zz_t1 (i := 178) rfl) rfl), (zz_g (zz_t1 (i := 2) rfl) rfl), by decide +kernel, by decide +kernel, by decide +kernel, rfl, Nat.le_of_ble_eq_true rfl, zcd42⟩
set_option maxRecDepth 20000 in
theorem zm43 : zmOk (yX3_spread, cX3_spread, 6, (some .int), zc43, 3, 2, 1) := ⟨by decide +kernel, (zz_g (zz_t1 (i := 198) rfl) rfl), (zz_g (zz_t1 (i := 2) rfl) rfl), by decide +kernel, by decide +kernel, by decide +kernel, rfl, Nat.le_of_ble_eq_true rfl, zcd43⟩
set_option maxRecDepth 20000 in
theorem zm44 : zmOk (yX4_init, cX4_init, 1, none, zc44, 4, 1, 0) := ⟨by decide +kernel, (zz_g (zz_t1 (i := 102) rfl) rfl), (zz_g (zz_t1 (i := 5) rfl) rfl), by decide +kernel, by decide +kernel, by decide +kernel, rfl, Nat.le_of_ble_eq_true rfl, zcd44⟩
set_option maxRecDepth 20000 in
theorem zm52 : zmOk (yX5_init, cX5_init, 1, none, zc52, 5, 4, 0) := ⟨by decide +kernel, (zz_g (zz_t1 (i := 13) rfl) rfl), (zz_g (zz_t1 (i := 1) rfl) rfl), by decide +kernel, by decide +kernel, by decide +kernel, rfl, Nat.le_of_ble_eq_true rfl, zcd52⟩
set_option maxRecDepth 20000 in
theorem zm53 : zmOk (yX5_come, cX5_come, 3, (some .int), zc53, 5, 4, 2) := ⟨by decide +kernel, (zz_g (zz_t2 (i := 12) rfl) rfl), (zz_g (zz_t1 (i := 1) rfl) rfl), by decide +kernel, by decide +kernel, by decide +kernel, rfl, Nat.le_of_ble_eq_true rfl, zcd53⟩
set_option maxRecDepth 20000 in
theorem zm54 : zmOk (yX5_leave, cX5_leave, 3, (some .int), zc54, 5, 4, 1) := ⟨by decide +kernel, (zz_g (zz_t2 (i := 35) rfl) rfl), (zz_g (zz_t1 (i := 1) rfl) rfl), by decide +kernel, by decide +kernel, by decide +kernel, rfl, Nat.le_of_ble_eq_true rfl, zcd54⟩
set_option maxRecDepth 20000 in
theorem zm55 : zmOk (yX5_wish, cX5_wish, 3, (some .int), zc55, 5, 4, 2) := ⟨by decide +kernel, (zz_g (zz_t2 (i := 53) rfl) rfl), (zz_g (zz_t1 (i := 1) rfl) rfl), by decide +kernel, by decide +kernel, by decide +kernel, rfl, Nat.le_of_ble_eq_true rfl, zcd55⟩
set_option maxRecDepth 20000 in
theorem zm56 : zmOk (yX5_setRule, cX5_setRule, 3, (some .int), zc56, 5, 4, 1) := ⟨by decide +kernel, (zz_g (zz_t2 (i := 58) rfl) rfl), (zz_g (zz_t1 (i := 1) rfl) rfl), by decide +kernel, by decide +kernel, by decide +kernel, rfl, Nat.le_of_ble_eq_true rfl, zcd56⟩
set_option maxRecDepth 20000 in
theorem zm57 : zmOk (yX5_setPatience, cX5_setPatience, 3, (some .int), zc57, 5, 4, 1) := ⟨by decide +kernel, (zz_g (zz_t2 (i := 62) rfl) rfl), (zz_g (zz_t1 (i := 1) rfl) rfl), by decide +kernel, by decide +kernel, by decide +kernel, rfl, Nat.le_of_ble_eq_true rfl, zcd57⟩
set_option maxRecDepth 20000 in
theorem zm58 : zmOk (yX5_grant, cX5_grant, 4, (some .int), zc58, 5, 4, 2) := ⟨by decide +kernel, (zz_g (zz_t2 (i := 70) rfl) rfl), (zz_g (zz_t1 (i := 1) rfl) rfl), by decide +kernel, by decide +kernel, by decide +kernel, rfl, Nat.le_of_ble_eq_true rfl, zcd58⟩
set_option maxRecDepth 20000 in
theorem zm59 : zmOk (yX5_drop, cX5_drop, 3, (some .int), zc59, 5, 4, 2) := ⟨by decide +kernel, (zz_g (zz_t2 (i := 77) rfl) rfl), (zz_g (zz_t1 (i := 1) rfl) rfl), by decide +kernel, by decide +kernel, by decide +kernel, rfl, Nat.le_of_ble_eq_true rfl, zcd59⟩
set_option maxRecDepth 20000 in
theorem zm60 : zmOk (yX5_round, cX5_round, 1, (some .int), zc60, 5, 4, 0) := ⟨by decide +kernel, (zz_g (zz_t2 (i := 113) rfl) rfl), (zz_g (zz_t1 (i := 1) rfl) rfl), by decide +kernel, by decide +kernel, by decide +kernel, rfl, Nat.le_of_ble_eq_true rfl, zcd60⟩
set_option maxRecDepth 20000 in
theorem zm61 : zmOk (yX5_divide, cX5_divide, 1, (some .int), zc61, 5, 5, 0) := ⟨by decide +kernel, (zz_g (zz_t2 (i := 154) rfl) rfl), (zz_g (zz_t1 (i := 1) rfl) rfl), by decide +kernel, by decide +kernel, by decide +kernel, rfl, Nat.le_of_ble_eq_true rfl, zcd61⟩
set_option maxRecDepth 20000 in
theorem zm62 : zmOk (yX5_swap, cX5_swap, 6, (some .int), zc62, 5, 4, 4) := ⟨by decide +kernel, (zz_g (zz_t2 (i := 196) rfl) rfl), (zz_g (zz_t1 (i := 1) rfl) rfl), by decide +kernel, by decide +kernel, by decide +kernel, rfl, Nat.le_of_ble_eq_true rfl, zcd62⟩
set_option maxRecDepth 20000 in
theorem zm63 : zmOk (yX5_settle, cX5_settle, 2, (some .int), zc63, 5, 5, 0) := ⟨by decide +kernel, (zz_g (zz_t2 (i := 213) rfl) rfl), (zz_g (zz_t1 (i := 1) rfl) rfl), by decide +kernel, by decide +kernel, by decide +kernel, rfl, Nat.le_of_ble_eq_true rfl, zcd63⟩
set_option maxRecDepth 20000 in
theorem zm64 : zmOk (yX5_heir, cX5_heir, 3, (some .int), zc64, 5, 2, 2) := ⟨by decide +kernel, (zz_g (zz_t2 (i := 26) rfl) rfl), (zz_g (zz_t1 (i := 1) rfl) rfl), by decide +kernel, by decide +kernel, by decide +kernel, rfl, Nat.le_of_ble_eq_true rfl, zcd64⟩
set_option maxRecDepth 20000 in
theorem zm65 : zmOk (yX5_bag, cX5_bag, 4, (some .int), zc65, 5, 3, 3) := ⟨by decide +kernel, (zz_g (zz_t2 (i := 141) rfl) rfl), (zz_g (zz_t1 (i := 1) rfl) rfl), by decide +kernel, by decide +kernel, by decide +kernel, rfl, Nat.le_of_ble_eq_true rfl, zcd65⟩
set_option maxRecDepth 20000 in
theorem zm66 : zmOk (yX5_hopper, cX5_hopper, 3, (some .int), zc66, 5, 2, 2) := ⟨by decide +kernel, (zz_g (zz_t2 (i := 90) rfl) rfl), (zz_g (zz_t1 (i := 1) rfl) rfl), by decide +kernel, by decide +kernel, by decide +kernel, rfl, Nat.le_of_ble_eq_true rfl, zcd66⟩
set_option maxRecDepth 20000 in
theorem zm67 : zmOk (yX5_vetoes, cX5_vetoes, 2, (some .int), zc67, 5, 1, 1) := ⟨by decide +kernel, (zz_g (zz_t2 (i := 66) rfl) rfl), (zz_g (zz_t1 (i := 1) rfl) rfl), by decide +kernel, by decide +kernel, by decide +kernel, rfl, Nat.le_of_ble_eq_true rfl, zcd67⟩
set_option maxRecDepth 20000 in
theorem zm68 : zmOk (yX5_at, cX5_at, 2, (some .int), zc68, 5, 0, 1) := ⟨by decide +kernel, (zz_g (zz_t2 (i := 137) rfl) rfl), (zz_g (zz_t1 (i := 1) rfl) rfl), by decide +kernel, by decide +kernel, by decide +kernel, rfl, Nat.le_of_ble_eq_true rfl, zcd68⟩
set_option maxRecDepth 20000 in
theorem zm69 : zmOk (yX5_total, cX5_total, 2, (some .int), zc69, 5, 4, 1) := ⟨by decide +kernel, (zz_g (zz_t1 (i := 166) rfl) rfl), (zz_g (zz_t1 (i := 1) rfl) rfl), by decide +kernel, by decide +kernel, by decide +kernel, rfl, Nat.le_of_ble_eq_true rfl, zcd69⟩
set_option maxRecDepth 20000 in
theorem zm70 : zmOk (yX5_ifDivided, cX5_ifDivided, 3, (some .int), zc70, 5, 5, 2) := ⟨by decide +kernel, (zz_g (zz_t2 (i := 172) rfl) rfl), (zz_g (zz_t1 (i := 1) rfl) rfl), by decide +kernel, by decide +kernel, by decide +kernel, rfl, Nat.le_of_ble_eq_true rfl, zcd70⟩
set_option maxRecDepth 20000 in
theorem zm71 : zmOk (yX5_fairestRule, cX5_fairestRule, 5, (some .int), zc71, 5, 6, 0) := ⟨by decide +kernel, (zz_g (zz_t2 (i := 163) rfl) rfl), (zz_g (zz_t1 (i := 1) rfl) rfl), by decide +kernel, by decide +kernel, by decide +kernel, rfl, Nat.le_of_ble_eq_true rfl, zcd71⟩
set_option maxRecDepth 20000 in
theorem zm72 : zmOk (yX5_whoVetoes, cX5_whoVetoes, 6, (some .int), zc72, 5, 4, 4) := ⟨by decide +kernel, (zz_g (zz_t2 (i := 179) rfl) rfl), (zz_g (zz_t1 (i := 1) rfl) rfl), by decide +kernel, by decide +kernel, by decide +kernel, rfl, Nat.le_of_ble_eq_true rfl, zcd72⟩
set_option maxRecDepth 20000 in
theorem zm73 : zmOk (yX5_bestSwap, cX5_bestSwap, 2, (some .int), zc73, 5, 5, 1) := ⟨by decide +kernel, (zz_g (zz_t3 (i := 1) rfl) rfl), (zz_g (zz_t1 (i := 1) rfl) rfl), by decide +kernel, by decide +kernel, by decide +kernel, rfl, Nat.le_of_ble_eq_true rfl, zcd73⟩
set_option maxRecDepth 20000 in
theorem zm78 : zmOk (yX5_undo, cX5_undo, 1, (some .int), zc78, 5, 4, 0) := ⟨by decide +kernel, (zz_g (zz_t1 (i := 208) rfl) rfl), (zz_g (zz_t1 (i := 1) rfl) rfl), by decide +kernel, by decide +kernel, by decide +kernel, rfl, Nat.le_of_ble_eq_true rfl, zcd78⟩
set_option maxRecDepth 20000 in
theorem zm80 : zmOk (yX5_restore, cX5_restore, 1, (some .int), zc80, 5, 4, 0) := ⟨by decide +kernel, (zz_g (zz_t1 (i := 228) rfl) rfl), (zz_g (zz_t1 (i := 1) rfl) rfl), by decide +kernel, by decide +kernel, by decide +kernel, rfl, Nat.le_of_ble_eq_true rfl, zcd80⟩
set_option maxRecDepth 20000 in
theorem zm81 : zmOk (yX5_isMother, cX5_isMother, 1, (some .boolean), zc81, 5, 0, 1) := ⟨by decide +kernel, (zz_g (zz_t2 (i := 15) rfl) rfl), (zz_g (zz_t1 (i := 1) rfl) rfl), by decide +kernel, by decide +kernel, by decide +kernel, rfl, Nat.le_of_ble_eq_true rfl, zcd81⟩
set_option maxRecDepth 20000 in
theorem zm82 : zmOk (yX5_isColour, cX5_isColour, 1, (some .boolean), zc82, 5, 0, 1) := ⟨by decide +kernel, (zz_g (zz_t2 (i := 18) rfl) rfl), (zz_g (zz_t1 (i := 1) rfl) rfl), by decide +kernel, by decide +kernel, by decide +kernel, rfl, Nat.le_of_ble_eq_true rfl, zcd82⟩
set_option maxRecDepth 20000 in
theorem zm83 : zmOk (yX5_moveBack, cX5_moveBack, 5, none, zc83, 5, 0, 3) := ⟨by decide +kernel, (zz_g (zz_t2 (i := 48) rfl) rfl), (zz_g (zz_t1 (i := 1) rfl) rfl), by decide +kernel, by decide +kernel, by decide +kernel, rfl, Nat.le_of_ble_eq_true rfl, zcd83⟩
set_option maxRecDepth 20000 in
theorem zm84 : zmOk (yX5_swapError, cX5_swapError, 5, (some .int), zc84, 5, 3, 4) := ⟨by decide +kernel, (zz_g (zz_t2 (i := 183) rfl) rfl), (zz_g (zz_t1 (i := 1) rfl) rfl), by decide +kernel, by decide +kernel, by decide +kernel, rfl, Nat.le_of_ble_eq_true rfl, zcd84⟩
set_option maxRecDepth 20000 in
theorem zm85 : zmOk (yX5_spreadUnder, cX5_spreadUnder, 2, (some .int), zc85, 5, 5, 1) := ⟨by decide +kernel, (zz_g (zz_t2 (i := 167) rfl) rfl), (zz_g (zz_t1 (i := 1) rfl) rfl), by decide +kernel, by decide +kernel, by decide +kernel, rfl, Nat.le_of_ble_eq_true rfl, zcd85⟩
set_option maxRecDepth 20000 in
theorem zm86 : zmOk (yL_low, cL_low, 2, (some .int), zc86, 7, 0, 2) := ⟨by decide +kernel, (zz_g (zz_t2 (i := 4) rfl) rfl), (zz_g (zz_t1 (i := 0) rfl) rfl), by decide +kernel, by decide +kernel, by decide +kernel, rfl, Nat.le_of_ble_eq_true rfl, zcd86⟩
set_option maxRecDepth 20000 in
theorem zm87 : zmOk (yL_drops, cL_drops, 7, (some .boolean), zc87, 7, 5, 3) := ⟨by decide +kernel, (zz_g (zz_t2 (i := 73) rfl) rfl), (zz_g (zz_t1 (i := 0) rfl) rfl), by decide +kernel, by decide +kernel, by decide +kernel, rfl, Nat.le_of_ble_eq_true rfl, zcd87⟩
set_option maxRecDepth 20000 in
theorem zm88 : zmOk (yL_rounds, cL_rounds, 11, (some .boolean), zc88, 7, 5, 2) := ⟨by decide +kernel, (zz_g (zz_t2 (i := 109) rfl) rfl), (zz_g (zz_t1 (i := 0) rfl) rfl), by decide +kernel, by decide +kernel, by decide +kernel, rfl, Nat.le_of_ble_eq_true rfl, zcd88⟩
set_option maxRecDepth 20000 in
theorem zm89 : zmOk (yL_divides, cL_divides, 9, (some .boolean), zc89, 7, 7, 2) := ⟨by decide +kernel, (zz_g (zz_t2 (i := 150) rfl) rfl), (zz_g (zz_t1 (i := 0) rfl) rfl), by decide +kernel, by decide +kernel, by decide +kernel, rfl, Nat.le_of_ble_eq_true rfl, zcd89⟩
set_option maxRecDepth 20000 in
theorem zm90 : zmOk (yL_swaps, cL_swaps, 18, (some .boolean), zc90, 7, 5, 5) := ⟨by decide +kernel, (zz_g (zz_t2 (i := 175) rfl) rfl), (zz_g (zz_t1 (i := 0) rfl) rfl), by decide +kernel, by decide +kernel, by decide +kernel, rfl, Nat.le_of_ble_eq_true rfl, zcd90⟩
set_option maxRecDepth 20000 in
theorem zm91 : zmOk (yL_isBest, cL_isBest, 15, (some .boolean), zc91, 7, 6, 1) := ⟨by decide +kernel, (zz_g (zz_t3 (i := 11) rfl) rfl), (zz_g (zz_t1 (i := 0) rfl) rfl), by decide +kernel, by decide +kernel, by decide +kernel, rfl, Nat.le_of_ble_eq_true rfl, zcd91⟩
set_option maxRecDepth 20000 in
theorem zm92 : zmOk (yL_isFair, cL_isFair, 6, (some .boolean), zc92, 7, 7, 1) := ⟨by decide +kernel, (zz_g (zz_t3 (i := 14) rfl) rfl), (zz_g (zz_t1 (i := 0) rfl) rfl), by decide +kernel, by decide +kernel, by decide +kernel, rfl, Nat.le_of_ble_eq_true rfl, zcd92⟩
set_option maxRecDepth 20000 in
theorem zm93 : zmOk (yL_holds, cL_holds, 16, (some .boolean), zc93, 7, 7, 1) := ⟨by decide +kernel, (zz_g (zz_t3 (i := 8) rfl) rfl), (zz_g (zz_t1 (i := 0) rfl) rfl), by decide +kernel, by decide +kernel, by decide +kernel, rfl, Nat.le_of_ble_eq_true rfl, zcd93⟩
set_option maxRecDepth 20000 in
theorem zm94 : zmOk (yL_change, cL_change, 15, (some .boolean), zc94, 7, 8, 4) := ⟨by decide +kernel, (zz_g (zz_t2 (i := 8) rfl) rfl), (zz_g (zz_t1 (i := 0) rfl) rfl), by decide +kernel, by decide +kernel, by decide +kernel, rfl, Nat.le_of_ble_eq_true rfl, zcd94⟩
set_option maxRecDepth 20000 in
theorem zm95 : zmOk (yL_cell, cL_cell, 2, (some .int), zc95, 7, 0, 2) := ⟨by decide +kernel, (zz_g (zz_t2 (i := 0) rfl) rfl), (zz_g (zz_t1 (i := 0) rfl) rfl), by decide +kernel, by decide +kernel, by decide +kernel, rfl, Nat.le_of_ble_eq_true rfl, zcd95⟩
