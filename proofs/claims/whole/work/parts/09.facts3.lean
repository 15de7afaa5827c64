def zNW : List Cond := [(Jvm.Cond.methodLinkNest "MarbleHeirs$State" (11 : Nat) ({ cls := "MarbleHeirs$Marbles", name := "<init>", desc := "()V" } : Jvm.MethodName) "MarbleHeirs"), (Jvm.Cond.methodLinkNest "MarbleHeirs" (35 : Nat) ({ cls := "MarbleHeirs$Text", name := "<init>", desc := "()V" } : Jvm.MethodName) "MarbleHeirs"), (Jvm.Cond.methodLinkNest "MarbleHeirs" (42 : Nat) ({ cls := "MarbleHeirs$BestSwap", name := "<init>", desc := "()V" } : Jvm.MethodName) "MarbleHeirs"), (Jvm.Cond.methodLinkNest "MarbleHeirs$Marbles" (39 : Nat) ({ cls := "MarbleHeirs", name := "moveBack", desc := "([III)V" } : Jvm.MethodName) "MarbleHeirs"), (Jvm.Cond.methodLinkNest "MarbleHeirs$State" (76 : Nat) ({ cls := "MarbleHeirs", name := "moveBack", desc := "([III)V" } : Jvm.MethodName) "MarbleHeirs")]
set_option maxRecDepth 20000 in
theorem zNW_in : ∀ w ∈ zNW, w ∈ lw_tbl := (List.forall_mem_cons.mpr ⟨(zz_t1 (i := 26) rfl), (List.forall_mem_cons.mpr ⟨(zz_t1 (i := 101) rfl), (List.forall_mem_cons.mpr ⟨(zz_t1 (i := 115) rfl), (List.forall_mem_cons.mpr ⟨(zz_t1 (i := 220) rfl), (List.forall_mem_cons.mpr ⟨(zz_t1 (i := 227) rfl), (fun _ h => absurd h List.not_mem_nil)⟩)⟩)⟩)⟩)⟩)
def zcOk (e : Nat × Nat × Nat × Nat) : Prop := match e.2.2.1 with
  | 0 => ∃ r, zMs[e.2.2.2]? = some r ∧ Cond.methodLink (zcn e.1) e.2.1 r.1 ∈ zGW ∧ Cond.instanceMethod r.1 ∈ zGW ∧ Cond.selects r.1.cls r.1 r.1 ∈ zGW
  | 1 => ∃ r, zMs[e.2.2.2]? = some r ∧ Cond.methodLink (zcn e.1) e.2.1 r.1 ∈ zGW ∧ Cond.static r.1 ∈ zGW
  | 2 => ∃ r, zMs[e.2.2.2]? = some r ∧ Cond.methodLink (zcn e.1) e.2.1 r.1 ∈ zGW ∧ Cond.instanceMethod r.1 ∈ zGW ∧ r.1.name = "<init>" ∧ r.2.2.2.1 = none
  | 3 => ∃ r, zMs[e.2.2.2]? = some r ∧ Cond.methodLinkNest (zcn e.1) e.2.1 r.1 RX5 ∈ zNW ∧ Cond.instanceMethod r.1 ∈ zGW ∧ r.1.name = "<init>" ∧ r.2.2.2.1 = none
  | 4 => ∃ r, zMs[e.2.2.2]? = some r ∧ Cond.methodLinkNest (zcn e.1) e.2.1 r.1 RX5 ∈ zNW ∧ Cond.static r.1 ∈ zGW
  | 5 => Cond.methodLink (zcn e.1) e.2.1 objectInit ∈ zGW
  | 6 => Cond.methodLink (zcn e.1) e.2.1 arraycopyName ∈ zGW
  | 7 => Cond.methodLink (zcn e.1) e.2.1 Lib.Math.max.name ∈ zGW
  | 8 => Cond.methodLink (zcn e.1) e.2.1 Lib.Math.min.name ∈ zGW
  | 9 => Cond.methodLink (zcn e.1) e.2.1 Lib.Math.abs.name ∈ zGW
  | _ => False
set_option maxRecDepth 20000 in
theorem zk0 : zcOk (7, 9, 2, 52) := ⟨_, rfl, (zz_g (zz_t1 (i := 12) rfl) rfl), (zz_g (zz_t1 (i := 13) rfl) rfl), rfl, rfl⟩
set_option maxRecDepth 20000 in
theorem zk1 : zcOk (5, 3, 5, 0) := (zz_g (zz_t1 (i := 15) rfl) rfl)
set_option maxRecDepth 20000 in
theorem zk2 : zcOk (5, 11, 2, 24) := ⟨_, rfl, (zz_g (zz_t1 (i := 20) rfl) rfl), (zz_g (zz_t1 (i := 21) rfl) rfl), rfl, rfl⟩
set_option maxRecDepth 20000 in
theorem zk3 : zcOk (3, 3, 5, 0) := (zz_g (zz_t1 (i := 23) rfl) rfl)
set_option maxRecDepth 20000 in
theorem zk4 : zcOk (3, 11, 3, 6) := ⟨_, rfl, (List.mem_of_getElem? (i := 0) rfl), (zz_g (zz_t1 (i := 27) rfl) rfl), rfl, rfl⟩
set_option maxRecDepth 20000 in
theorem zk5 : zcOk (1, 3, 5, 0) := (zz_g (zz_t1 (i := 29) rfl) rfl)
set_option maxRecDepth 20000 in
theorem zk6 : zcOk (5, 28, 2, 20) := ⟨_, rfl, (zz_g (zz_t1 (i := 84) rfl) rfl), (zz_g (zz_t1 (i := 85) rfl) rfl), rfl, rfl⟩
set_option maxRecDepth 20000 in
theorem zk7 : zcOk (2, 3, 5, 0) := (zz_g (zz_t1 (i := 87) rfl) rfl)
set_option maxRecDepth 20000 in
theorem zk8 : zcOk (2, 21, 2, 24) := ⟨_, rfl, (zz_g (zz_t1 (i := 90) rfl) rfl), (zz_g (zz_t1 (i := 21) rfl) rfl), rfl, rfl⟩
set_option maxRecDepth 20000 in
theorem zk9 : zcOk (5, 35, 3, 44) := ⟨_, rfl, (List.mem_of_getElem? (i := 1) rfl), (zz_g (zz_t1 (i := 102) rfl) rfl), rfl, rfl⟩
set_option maxRecDepth 20000 in
theorem zk10 : zcOk (4, 3, 5, 0) := (zz_g (zz_t1 (i := 104) rfl) rfl)
set_option maxRecDepth 20000 in
theorem zk11 : zcOk (5, 42, 3, 0) := ⟨_, rfl, (List.mem_of_getElem? (i := 2) rfl), (zz_g (zz_t1 (i := 116) rfl) rfl), rfl, rfl⟩
set_option maxRecDepth 20000 in
theorem zk12 : zcOk (0, 3, 5, 0) := (zz_g (zz_t1 (i := 118) rfl) rfl)
set_option maxRecDepth 20000 in
theorem zk13 : zcOk (7, 13, 0, 53) := ⟨_, rfl, (zz_g (zz_t1 (i := 165) rfl) rfl), (zz_g (zz_t1 (i := 166) rfl) rfl), (zz_g (zz_t1 (i := 167) rfl) rfl)⟩
set_option maxRecDepth 20000 in
theorem zk14 : zcOk (5, 47, 1, 81) := ⟨_, rfl, (zz_g (zz_t1 (i := 169) rfl) rfl), (zz_g (zz_t1 (i := 170) rfl) rfl)⟩
set_option maxRecDepth 20000 in
theorem zk15 : zcOk (5, 51, 1, 82) := ⟨_, rfl, (zz_g (zz_t1 (i := 172) rfl) rfl), (zz_g (zz_t1 (i := 173) rfl) rfl)⟩
set_option maxRecDepth 20000 in
theorem zk16 : zcOk (5, 58, 0, 21) := ⟨_, rfl, (zz_g (zz_t1 (i := 175) rfl) rfl), (zz_g (zz_t1 (i := 176) rfl) rfl), (zz_g (zz_t1 (i := 177) rfl) rfl)⟩
set_option maxRecDepth 20000 in
theorem zk17 : zcOk (2, 22, 0, 22) := ⟨_, rfl, (zz_g (zz_t1 (i := 179) rfl) rfl), (zz_g (zz_t1 (i := 181) rfl) rfl), (zz_g (zz_p (i := 0) rfl) rfl)⟩
set_option maxRecDepth 20000 in
theorem zk18 : zcOk (2, 25, 0, 25) := ⟨_, rfl, (zz_g (zz_t1 (i := 183) rfl) rfl), (zz_g (zz_t1 (i := 184) rfl) rfl), (zz_g (zz_t1 (i := 185) rfl) rfl)⟩
set_option maxRecDepth 20000 in
theorem zk19 : zcOk (3, 50, 0, 7) := ⟨_, rfl, (zz_g (zz_t1 (i := 187) rfl) rfl), (zz_g (zz_t1 (i := 188) rfl) rfl), (zz_g (zz_t1 (i := 189) rfl) rfl)⟩
set_option maxRecDepth 20000 in
theorem zk20 : zcOk (1, 18, 6, 0) := (zz_g (zz_t1 (i := 191) rfl) rfl)
set_option maxRecDepth 20000 in
theorem zk21 : zcOk (3, 54, 6, 0) := (zz_g (zz_t1 (i := 194) rfl) rfl)
set_option maxRecDepth 20000 in
theorem zk22 : zcOk (5, 62, 0, 28) := ⟨_, rfl, (zz_g (zz_t1 (i := 195) rfl) rfl), (zz_g (zz_t1 (i := 196) rfl) rfl), (zz_g (zz_t1 (i := 197) rfl) rfl)⟩
set_option maxRecDepth 20000 in
theorem zk23 : zcOk (7, 18, 0, 54) := ⟨_, rfl, (zz_g (zz_t1 (i := 199) rfl) rfl), (zz_g (zz_t1 (i := 200) rfl) rfl), (zz_g (zz_t1 (i := 201) rfl) rfl)⟩
set_option maxRecDepth 20000 in
theorem zk24 : zcOk (5, 66, 0, 26) := ⟨_, rfl, (zz_g (zz_t1 (i := 203) rfl) rfl), (zz_g (zz_t1 (i := 204) rfl) rfl), (zz_g (zz_t1 (i := 205) rfl) rfl)⟩
set_option maxRecDepth 20000 in
theorem zk25 : zcOk (5, 73, 0, 8) := ⟨_, rfl, (zz_g (zz_t1 (i := 207) rfl) rfl), (zz_g (zz_t1 (i := 208) rfl) rfl), (zz_g (zz_t1 (i := 209) rfl) rfl)⟩
set_option maxRecDepth 20000 in
theorem zk26 : zcOk (5, 79, 0, 29) := ⟨_, rfl, (zz_g (zz_t1 (i := 211) rfl) rfl), (zz_g (zz_t1 (i := 212) rfl) rfl), (zz_g (zz_t1 (i := 213) rfl) rfl)⟩
set_option maxRecDepth 20000 in
theorem zk27 : zcOk (3, 68, 0, 19) := ⟨_, rfl, (zz_g (zz_t1 (i := 215) rfl) rfl), (zz_g (zz_t1 (i := 216) rfl) rfl), (zz_g (zz_t1 (i := 217) rfl) rfl)⟩
set_option maxRecDepth 20000 in
theorem zk28 : zcOk (1, 24, 0, 8) := ⟨_, rfl, (zz_g (zz_t1 (i := 219) rfl) rfl), (zz_g (zz_t1 (i := 208) rfl) rfl), (zz_g (zz_t1 (i := 209) rfl) rfl)⟩
set_option maxRecDepth 20000 in
theorem zk29 : zcOk (1, 39, 4, 83) := ⟨_, rfl, (List.mem_of_getElem? (i := 3) rfl), (zz_g (zz_t1 (i := 221) rfl) rfl)⟩
set_option maxRecDepth 20000 in
theorem zk30 : zcOk (3, 72, 0, 30) := ⟨_, rfl, (zz_g (zz_t1 (i := 223) rfl) rfl), (zz_g (zz_t1 (i := 225) rfl) rfl), (zz_g (zz_p (i := 1) rfl) rfl)⟩
set_option maxRecDepth 20000 in
theorem zk31 : zcOk (3, 76, 4, 83) := ⟨_, rfl, (List.mem_of_getElem? (i := 4) rfl), (zz_g (zz_t1 (i := 221) rfl) rfl)⟩
set_option maxRecDepth 20000 in
theorem zk32 : zcOk (7, 23, 0, 55) := ⟨_, rfl, (zz_g (zz_t1 (i := 228) rfl) rfl), (zz_g (zz_t1 (i := 229) rfl) rfl), (zz_g (zz_t1 (i := 230) rfl) rfl)⟩
set_option maxRecDepth 20000 in
theorem zk33 : zcOk (5, 87, 0, 14) := ⟨_, rfl, (zz_g (zz_t1 (i := 232) rfl) rfl), (zz_g (zz_t1 (i := 233) rfl) rfl), (zz_g (zz_t1 (i := 234) rfl) rfl)⟩
set_option maxRecDepth 20000 in
theorem zk34 : zcOk (7, 27, 0, 56) := ⟨_, rfl, (zz_g (zz_t1 (i := 236) rfl) rfl), (zz_g (zz_t1 (i := 237) rfl) rfl), (zz_g (zz_t1 (i := 238) rfl) rfl)⟩
set_option maxRecDepth 20000 in
theorem zk35 : zcOk (7, 31, 0, 57) := ⟨_, rfl, (zz_g (zz_t2 (i := 0) rfl) rfl), (zz_g (zz_t2 (i := 1) rfl) rfl), (zz_g (zz_t2 (i := 2) rfl) rfl)⟩
set_option maxRecDepth 20000 in
theorem zk36 : zcOk (7, 35, 0, 58) := ⟨_, rfl, (zz_g (zz_t2 (i := 4) rfl) rfl), (zz_g (zz_t2 (i := 5) rfl) rfl), (zz_g (zz_t2 (i := 6) rfl) rfl)⟩
set_option maxRecDepth 20000 in
theorem zk37 : zcOk (7, 39, 0, 59) := ⟨_, rfl, (zz_g (zz_t2 (i := 8) rfl) rfl), (zz_g (zz_t2 (i := 9) rfl) rfl), (zz_g (zz_t2 (i := 10) rfl) rfl)⟩
set_option maxRecDepth 20000 in
theorem zk38 : zcOk (5, 99, 0, 15) := ⟨_, rfl, (zz_g (zz_t2 (i := 12) rfl) rfl), (zz_g (zz_t2 (i := 13) rfl) rfl), (zz_g (zz_t2 (i := 14) rfl) rfl)⟩
set_option maxRecDepth 20000 in
theorem zk39 : zcOk (5, 103, 0, 16) := ⟨_, rfl, (zz_g (zz_t2 (i := 16) rfl) rfl), (zz_g (zz_t2 (i := 17) rfl) rfl), (zz_g (zz_t2 (i := 18) rfl) rfl)⟩
set_option maxRecDepth 20000 in
theorem zk40 : zcOk (1, 35, 0, 15) := ⟨_, rfl, (zz_g (zz_t2 (i := 20) rfl) rfl), (zz_g (zz_t2 (i := 13) rfl) rfl), (zz_g (zz_t2 (i := 14) rfl) rfl)⟩
set_option maxRecDepth 20000 in
theorem zk41 : zcOk (7, 43, 0, 60) := ⟨_, rfl, (zz_g (zz_t2 (i := 21) rfl) rfl), (zz_g (zz_t2 (i := 22) rfl) rfl), (zz_g (zz_t2 (i := 23) rfl) rfl)⟩
set_option maxRecDepth 20000 in
theorem zk42 : zcOk (5, 107, 0, 32) := ⟨_, rfl, (zz_g (zz_t2 (i := 25) rfl) rfl), (zz_g (zz_t2 (i := 26) rfl) rfl), (zz_g (zz_t2 (i := 27) rfl) rfl)⟩
set_option maxRecDepth 20000 in
theorem zk43 : zcOk (3, 80, 0, 8) := ⟨_, rfl, (zz_g (zz_t2 (i := 29) rfl) rfl), (zz_g (zz_t1 (i := 208) rfl) rfl), (zz_g (zz_t1 (i := 209) rfl) rfl)⟩
set_option maxRecDepth 20000 in
theorem zk44 : zcOk (3, 87, 8, 0) := (zz_g (zz_t2 (i := 30) rfl) rfl)
set_option maxRecDepth 20000 in
theorem zk45 : zcOk (3, 93, 0, 34) := ⟨_, rfl, (zz_g (zz_t2 (i := 33) rfl) rfl), (zz_g (zz_t2 (i := 35) rfl) rfl), (zz_g (zz_p (i := 2) rfl) rfl)⟩
set_option maxRecDepth 20000 in
theorem zk46 : zcOk (3, 102, 0, 35) := ⟨_, rfl, (zz_g (zz_t2 (i := 37) rfl) rfl), (zz_g (zz_t2 (i := 39) rfl) rfl), (zz_g (zz_p (i := 3) rfl) rfl)⟩
set_option maxRecDepth 20000 in
theorem zk47 : zcOk (3, 105, 0, 13) := ⟨_, rfl, (zz_g (zz_t2 (i := 41) rfl) rfl), (zz_g (zz_t2 (i := 42) rfl) rfl), (zz_g (zz_t2 (i := 43) rfl) rfl)⟩
set_option maxRecDepth 20000 in
theorem zk48 : zcOk (3, 99, 0, 17) := ⟨_, rfl, (zz_g (zz_t2 (i := 45) rfl) rfl), (zz_g (zz_t2 (i := 46) rfl) rfl), (zz_g (zz_t2 (i := 47) rfl) rfl)⟩
set_option maxRecDepth 20000 in
theorem zk49 : zcOk (3, 96, 0, 33) := ⟨_, rfl, (zz_g (zz_t2 (i := 49) rfl) rfl), (zz_g (zz_t2 (i := 51) rfl) rfl), (zz_g (zz_p (i := 4) rfl) rfl)⟩
set_option maxRecDepth 20000 in
theorem zk50 : zcOk (7, 48, 0, 61) := ⟨_, rfl, (zz_g (zz_t2 (i := 53) rfl) rfl), (zz_g (zz_t2 (i := 54) rfl) rfl), (zz_g (zz_t2 (i := 55) rfl) rfl)⟩
set_option maxRecDepth 20000 in
theorem zk51 : zcOk (5, 111, 0, 31) := ⟨_, rfl, (zz_g (zz_t2 (i := 57) rfl) rfl), (zz_g (zz_t2 (i := 58) rfl) rfl), (zz_g (zz_t2 (i := 59) rfl) rfl)⟩
set_option maxRecDepth 20000 in
theorem zk52 : zcOk (3, 83, 0, 32) := ⟨_, rfl, (zz_g (zz_t2 (i := 61) rfl) rfl), (zz_g (zz_t2 (i := 26) rfl) rfl), (zz_g (zz_t2 (i := 27) rfl) rfl)⟩
set_option maxRecDepth 20000 in
theorem zk53 : zcOk (7, 52, 0, 62) := ⟨_, rfl, (zz_g (zz_t2 (i := 62) rfl) rfl), (zz_g (zz_t2 (i := 63) rfl) rfl), (zz_g (zz_t2 (i := 64) rfl) rfl)⟩
set_option maxRecDepth 20000 in
theorem zk54 : zcOk (5, 114, 0, 84) := ⟨_, rfl, (zz_g (zz_t2 (i := 66) rfl) rfl), (zz_g (zz_t2 (i := 68) rfl) rfl), (zz_g (zz_p (i := 5) rfl) rfl)⟩
set_option maxRecDepth 20000 in
theorem zk55 : zcOk (5, 146, 0, 27) := ⟨_, rfl, (zz_g (zz_t2 (i := 70) rfl) rfl), (zz_g (zz_t2 (i := 71) rfl) rfl), (zz_g (zz_t2 (i := 72) rfl) rfl)⟩
set_option maxRecDepth 20000 in
theorem zk56 : zcOk (3, 60, 0, 26) := ⟨_, rfl, (zz_g (zz_t2 (i := 74) rfl) rfl), (zz_g (zz_t1 (i := 204) rfl) rfl), (zz_g (zz_t1 (i := 205) rfl) rfl)⟩
set_option maxRecDepth 20000 in
theorem zk57 : zcOk (3, 64, 0, 9) := ⟨_, rfl, (zz_g (zz_t2 (i := 75) rfl) rfl), (zz_g (zz_t2 (i := 76) rfl) rfl), (zz_g (zz_t2 (i := 77) rfl) rfl)⟩
set_option maxRecDepth 20000 in
theorem zk58 : zcOk (5, 118, 0, 36) := ⟨_, rfl, (zz_g (zz_t2 (i := 79) rfl) rfl), (zz_g (zz_t2 (i := 80) rfl) rfl), (zz_g (zz_t2 (i := 81) rfl) rfl)⟩
set_option maxRecDepth 20000 in
theorem zk59 : zcOk (3, 108, 0, 38) := ⟨_, rfl, (zz_g (zz_t2 (i := 83) rfl) rfl), (zz_g (zz_t2 (i := 84) rfl) rfl), (zz_g (zz_t2 (i := 85) rfl) rfl)⟩
set_option maxRecDepth 20000 in
theorem zk60 : zcOk (3, 119, 0, 11) := ⟨_, rfl, (zz_g (zz_t2 (i := 87) rfl) rfl), (zz_g (zz_t2 (i := 88) rfl) rfl), (zz_g (zz_t2 (i := 89) rfl) rfl)⟩
set_option maxRecDepth 20000 in
theorem zk61 : zcOk (3, 122, 0, 39) := ⟨_, rfl, (zz_g (zz_t2 (i := 91) rfl) rfl), (zz_g (zz_t2 (i := 93) rfl) rfl), (zz_g (zz_p (i := 6) rfl) rfl)⟩
set_option maxRecDepth 20000 in
theorem zk62 : zcOk (3, 112, 0, 37) := ⟨_, rfl, (zz_g (zz_t2 (i := 95) rfl) rfl), (zz_g (zz_t2 (i := 96) rfl) rfl), (zz_g (zz_t2 (i := 97) rfl) rfl)⟩
set_option maxRecDepth 20000 in
theorem zk63 : zcOk (3, 116, 0, 18) := ⟨_, rfl, (zz_g (zz_t2 (i := 99) rfl) rfl), (zz_g (zz_t2 (i := 100) rfl) rfl), (zz_g (zz_t2 (i := 101) rfl) rfl)⟩
set_option maxRecDepth 20000 in
theorem zk64 : zcOk (7, 57, 0, 63) := ⟨_, rfl, (zz_g (zz_t2 (i := 103) rfl) rfl), (zz_g (zz_t2 (i := 104) rfl) rfl), (zz_g (zz_t2 (i := 105) rfl) rfl)⟩
set_option maxRecDepth 20000 in
theorem zk65 : zcOk (5, 121, 0, 2) := ⟨_, rfl, (zz_g (zz_t2 (i := 107) rfl) rfl), (zz_g (zz_t2 (i := 108) rfl) rfl), (zz_g (zz_t2 (i := 109) rfl) rfl)⟩
set_option maxRecDepth 20000 in
theorem zk66 : zcOk (0, 39, 0, 8) := ⟨_, rfl, (zz_g (zz_t2 (i := 111) rfl) rfl), (zz_g (zz_t1 (i := 208) rfl) rfl), (zz_g (zz_t1 (i := 209) rfl) rfl)⟩
set_option maxRecDepth 20000 in
theorem zk67 : zcOk (0, 45, 0, 3) := ⟨_, rfl, (zz_g (zz_t2 (i := 112) rfl) rfl), (zz_g (zz_t2 (i := 114) rfl) rfl), (zz_g (zz_p (i := 7) rfl) rfl)⟩
set_option maxRecDepth 20000 in
theorem zk68 : zcOk (0, 49, 0, 10) := ⟨_, rfl, (zz_g (zz_t2 (i := 116) rfl) rfl), (zz_g (zz_t2 (i := 117) rfl) rfl), (zz_g (zz_t2 (i := 118) rfl) rfl)⟩
set_option maxRecDepth 20000 in
theorem zk69 : zcOk (0, 57, 1, 4) := ⟨_, rfl, (zz_g (zz_t2 (i := 120) rfl) rfl), (zz_g (zz_t2 (i := 121) rfl) rfl)⟩
set_option maxRecDepth 20000 in
theorem zk70 : zcOk (0, 60, 7, 0) := (zz_g (zz_t2 (i := 123) rfl) rfl)
set_option maxRecDepth 20000 in
theorem zk71 : zcOk (0, 65, 0, 5) := ⟨_, rfl, (zz_g (zz_t2 (i := 126) rfl) rfl), (zz_g (zz_t2 (i := 128) rfl) rfl), (zz_g (zz_p (i := 8) rfl) rfl)⟩
set_option maxRecDepth 20000 in
theorem zk72 : zcOk (0, 69, 0, 11) := ⟨_, rfl, (zz_g (zz_t2 (i := 130) rfl) rfl), (zz_g (zz_t2 (i := 88) rfl) rfl), (zz_g (zz_t2 (i := 89) rfl) rfl)⟩
set_option maxRecDepth 20000 in
theorem zk73 : zcOk (0, 72, 9, 0) := (zz_g (zz_t2 (i := 131) rfl) rfl)
set_option maxRecDepth 20000 in
theorem zk74 : zcOk (0, 75, 0, 38) := ⟨_, rfl, (zz_g (zz_t2 (i := 134) rfl) rfl), (zz_g (zz_t2 (i := 84) rfl) rfl), (zz_g (zz_t2 (i := 85) rfl) rfl)⟩
set_option maxRecDepth 20000 in
theorem zk75 : zcOk (5, 139, 0, 37) := ⟨_, rfl, (zz_g (zz_t2 (i := 135) rfl) rfl), (zz_g (zz_t2 (i := 96) rfl) rfl), (zz_g (zz_t2 (i := 97) rfl) rfl)⟩
set_option maxRecDepth 20000 in
theorem zk76 : zcOk (7, 61, 0, 64) := ⟨_, rfl, (zz_g (zz_t2 (i := 136) rfl) rfl), (zz_g (zz_t2 (i := 137) rfl) rfl), (zz_g (zz_t2 (i := 138) rfl) rfl)⟩
set_option maxRecDepth 20000 in
theorem zk77 : zcOk (5, 143, 0, 40) := ⟨_, rfl, (zz_g (zz_t2 (i := 140) rfl) rfl), (zz_g (zz_t2 (i := 141) rfl) rfl), (zz_g (zz_t2 (i := 142) rfl) rfl)⟩
set_option maxRecDepth 20000 in
theorem zk78 : zcOk (3, 125, 0, 14) := ⟨_, rfl, (zz_g (zz_t2 (i := 144) rfl) rfl), (zz_g (zz_t1 (i := 233) rfl) rfl), (zz_g (zz_t1 (i := 234) rfl) rfl)⟩
set_option maxRecDepth 20000 in
theorem zk79 : zcOk (7, 65, 0, 65) := ⟨_, rfl, (zz_g (zz_t2 (i := 145) rfl) rfl), (zz_g (zz_t2 (i := 146) rfl) rfl), (zz_g (zz_t2 (i := 147) rfl) rfl)⟩
set_option maxRecDepth 20000 in
theorem zk80 : zcOk (5, 149, 0, 12) := ⟨_, rfl, (zz_g (zz_t2 (i := 149) rfl) rfl), (zz_g (zz_t2 (i := 150) rfl) rfl), (zz_g (zz_t2 (i := 151) rfl) rfl)⟩
set_option maxRecDepth 20000 in
theorem zk81 : zcOk (1, 28, 0, 10) := ⟨_, rfl, (zz_g (zz_t2 (i := 153) rfl) rfl), (zz_g (zz_t2 (i := 117) rfl) rfl), (zz_g (zz_t2 (i := 118) rfl) rfl)⟩
set_option maxRecDepth 20000 in
theorem zk82 : zcOk (1, 32, 0, 11) := ⟨_, rfl, (zz_g (zz_t2 (i := 154) rfl) rfl), (zz_g (zz_t2 (i := 88) rfl) rfl), (zz_g (zz_t2 (i := 89) rfl) rfl)⟩
set_option maxRecDepth 20000 in
theorem zk83 : zcOk (7, 70, 0, 66) := ⟨_, rfl, (zz_g (zz_t2 (i := 155) rfl) rfl), (zz_g (zz_t2 (i := 156) rfl) rfl), (zz_g (zz_t2 (i := 157) rfl) rfl)⟩
set_option maxRecDepth 20000 in
theorem zk84 : zcOk (5, 153, 0, 9) := ⟨_, rfl, (zz_g (zz_t2 (i := 159) rfl) rfl), (zz_g (zz_t2 (i := 76) rfl) rfl), (zz_g (zz_t2 (i := 77) rfl) rfl)⟩
set_option maxRecDepth 20000 in
theorem zk85 : zcOk (7, 74, 0, 67) := ⟨_, rfl, (zz_g (zz_t2 (i := 160) rfl) rfl), (zz_g (zz_t2 (i := 161) rfl) rfl), (zz_g (zz_t2 (i := 162) rfl) rfl)⟩
set_option maxRecDepth 20000 in
theorem zk86 : zcOk (7, 78, 0, 68) := ⟨_, rfl, (zz_g (zz_t2 (i := 164) rfl) rfl), (zz_g (zz_t2 (i := 165) rfl) rfl), (zz_g (zz_t2 (i := 166) rfl) rfl)⟩
set_option maxRecDepth 20000 in
theorem zk87 : zcOk (7, 82, 0, 69) := ⟨_, rfl, (zz_g (zz_t2 (i := 168) rfl) rfl), (zz_g (zz_t2 (i := 169) rfl) rfl), (zz_g (zz_t2 (i := 170) rfl) rfl)⟩
set_option maxRecDepth 20000 in
theorem zk88 : zcOk (5, 159, 0, 41) := ⟨_, rfl, (zz_g (zz_t2 (i := 172) rfl) rfl), (zz_g (zz_t2 (i := 173) rfl) rfl), (zz_g (zz_t2 (i := 174) rfl) rfl)⟩
set_option maxRecDepth 20000 in
theorem zk89 : zcOk (3, 128, 0, 42) := ⟨_, rfl, (zz_g (zz_t2 (i := 176) rfl) rfl), (zz_g (zz_t2 (i := 178) rfl) rfl), (zz_g (zz_p (i := 9) rfl) rfl)⟩
set_option maxRecDepth 20000 in
theorem zk90 : zcOk (3, 134, 0, 40) := ⟨_, rfl, (zz_g (zz_t2 (i := 180) rfl) rfl), (zz_g (zz_t2 (i := 141) rfl) rfl), (zz_g (zz_t2 (i := 142) rfl) rfl)⟩
set_option maxRecDepth 20000 in
theorem zk91 : zcOk (3, 131, 0, 43) := ⟨_, rfl, (zz_g (zz_t2 (i := 181) rfl) rfl), (zz_g (zz_t2 (i := 182) rfl) rfl), (zz_g (zz_t2 (i := 183) rfl) rfl)⟩
set_option maxRecDepth 20000 in
theorem zk92 : zcOk (3, 137, 7, 0) := (zz_g (zz_t2 (i := 185) rfl) rfl)
set_option maxRecDepth 20000 in
theorem zk93 : zcOk (7, 86, 0, 70) := ⟨_, rfl, (zz_g (zz_t2 (i := 186) rfl) rfl), (zz_g (zz_t2 (i := 187) rfl) rfl), (zz_g (zz_t2 (i := 188) rfl) rfl)⟩
set_option maxRecDepth 20000 in
theorem zk94 : zcOk (5, 162, 0, 25) := ⟨_, rfl, (zz_g (zz_t2 (i := 190) rfl) rfl), (zz_g (zz_t1 (i := 184) rfl) rfl), (zz_g (zz_t1 (i := 185) rfl) rfl)⟩
set_option maxRecDepth 20000 in
theorem zk95 : zcOk (7, 90, 0, 71) := ⟨_, rfl, (zz_g (zz_t2 (i := 191) rfl) rfl), (zz_g (zz_t2 (i := 192) rfl) rfl), (zz_g (zz_t2 (i := 193) rfl) rfl)⟩
set_option maxRecDepth 20000 in
theorem zk96 : zcOk (5, 165, 0, 85) := ⟨_, rfl, (zz_g (zz_t2 (i := 195) rfl) rfl), (zz_g (zz_t2 (i := 197) rfl) rfl), (zz_g (zz_p (i := 10) rfl) rfl)⟩
set_option maxRecDepth 20000 in
theorem zk97 : zcOk (5, 191, 0, 43) := ⟨_, rfl, (zz_g (zz_t2 (i := 199) rfl) rfl), (zz_g (zz_t2 (i := 182) rfl) rfl), (zz_g (zz_t2 (i := 183) rfl) rfl)⟩
set_option maxRecDepth 20000 in
theorem zk98 : zcOk (7, 94, 0, 72) := ⟨_, rfl, (zz_g (zz_t2 (i := 200) rfl) rfl), (zz_g (zz_t2 (i := 201) rfl) rfl), (zz_g (zz_t2 (i := 202) rfl) rfl)⟩
set_option maxRecDepth 20000 in
theorem zk99 : zcOk (5, 168, 0, 38) := ⟨_, rfl, (zz_g (zz_t2 (i := 204) rfl) rfl), (zz_g (zz_t2 (i := 84) rfl) rfl), (zz_g (zz_t2 (i := 85) rfl) rfl)⟩
set_option maxRecDepth 20000 in
theorem zk100 : zcOk (7, 98, 0, 73) := ⟨_, rfl, (zz_g (zz_t2 (i := 205) rfl) rfl), (zz_g (zz_t2 (i := 206) rfl) rfl), (zz_g (zz_t2 (i := 207) rfl) rfl)⟩
set_option maxRecDepth 20000 in
theorem zk101 : zcOk (5, 171, 0, 1) := ⟨_, rfl, (zz_g (zz_t2 (i := 209) rfl) rfl), (zz_g (zz_t2 (i := 210) rfl) rfl), (zz_g (zz_t2 (i := 211) rfl) rfl)⟩
set_option maxRecDepth 20000 in
theorem zk102 : zcOk (7, 102, 0, 74) := ⟨_, rfl, (zz_g (zz_t2 (i := 213) rfl) rfl), (zz_g (zz_t2 (i := 214) rfl) rfl), (zz_g (zz_t2 (i := 215) rfl) rfl)⟩
set_option maxRecDepth 20000 in
theorem zk103 : zcOk (5, 177, 0, 45) := ⟨_, rfl, (zz_g (zz_t2 (i := 217) rfl) rfl), (zz_g (zz_t2 (i := 218) rfl) rfl), (zz_g (zz_t2 (i := 219) rfl) rfl)⟩
set_option maxRecDepth 20000 in
theorem zk104 : zcOk (7, 106, 0, 75) := ⟨_, rfl, (zz_g (zz_t2 (i := 221) rfl) rfl), (zz_g (zz_t2 (i := 222) rfl) rfl), (zz_g (zz_t2 (i := 223) rfl) rfl)⟩
set_option maxRecDepth 20000 in
theorem zk105 : zcOk (7, 110, 0, 76) := ⟨_, rfl, (zz_g (zz_t2 (i := 225) rfl) rfl), (zz_g (zz_t2 (i := 226) rfl) rfl), (zz_g (zz_t2 (i := 227) rfl) rfl)⟩
set_option maxRecDepth 20000 in
theorem zk106 : zcOk (5, 179, 0, 46) := ⟨_, rfl, (zz_g (zz_t2 (i := 229) rfl) rfl), (zz_g (zz_t2 (i := 230) rfl) rfl), (zz_g (zz_t2 (i := 231) rfl) rfl)⟩
set_option maxRecDepth 20000 in
theorem zk107 : zcOk (4, 19, 1, 49) := ⟨_, rfl, (zz_g (zz_t2 (i := 233) rfl) rfl), (zz_g (zz_t2 (i := 234) rfl) rfl)⟩
set_option maxRecDepth 20000 in
theorem zk108 : zcOk (4, 23, 1, 50) := ⟨_, rfl, (zz_g (zz_t2 (i := 236) rfl) rfl), (zz_g (zz_t2 (i := 237) rfl) rfl)⟩
set_option maxRecDepth 20000 in
theorem zk109 : zcOk (4, 27, 1, 51) := ⟨_, rfl, (zz_g (zz_t2 (i := 239) rfl) rfl), (zz_g (zz_t3 (i := 0) rfl) rfl)⟩
set_option maxRecDepth 20000 in
theorem zk110 : zcOk (7, 114, 0, 77) := ⟨_, rfl, (zz_g (zz_t3 (i := 2) rfl) rfl), (zz_g (zz_t3 (i := 3) rfl) rfl), (zz_g (zz_t3 (i := 4) rfl) rfl)⟩
set_option maxRecDepth 20000 in
theorem zk111 : zcOk (5, 182, 0, 47) := ⟨_, rfl, (zz_g (zz_t3 (i := 6) rfl) rfl), (zz_g (zz_t3 (i := 7) rfl) rfl), (zz_g (zz_t3 (i := 8) rfl) rfl)⟩
set_option maxRecDepth 20000 in
theorem zk112 : zcOk (4, 31, 1, 48) := ⟨_, rfl, (zz_g (zz_t3 (i := 10) rfl) rfl), (zz_g (zz_t3 (i := 11) rfl) rfl)⟩
set_option maxRecDepth 20000 in
theorem zk113 : zcOk (4, 35, 0, 16) := ⟨_, rfl, (zz_g (zz_t3 (i := 13) rfl) rfl), (zz_g (zz_t2 (i := 17) rfl) rfl), (zz_g (zz_t2 (i := 18) rfl) rfl)⟩
set_option maxRecDepth 20000 in
theorem zk114 : zcOk (7, 118, 0, 78) := ⟨_, rfl, (zz_g (zz_t3 (i := 14) rfl) rfl), (zz_g (zz_t3 (i := 15) rfl) rfl), (zz_g (zz_t3 (i := 16) rfl) rfl)⟩
set_option maxRecDepth 20000 in
theorem zk115 : zcOk (5, 188, 0, 23) := ⟨_, rfl, (zz_g (zz_t3 (i := 18) rfl) rfl), (zz_g (zz_t3 (i := 19) rfl) rfl), (zz_g (zz_t3 (i := 20) rfl) rfl)⟩
set_option maxRecDepth 20000 in
theorem zk116 : zcOk (7, 122, 0, 79) := ⟨_, rfl, (zz_g (zz_t3 (i := 22) rfl) rfl), (zz_g (zz_t3 (i := 23) rfl) rfl), (zz_g (zz_t3 (i := 24) rfl) rfl)⟩
set_option maxRecDepth 20000 in
theorem zk117 : zcOk (7, 126, 0, 80) := ⟨_, rfl, (zz_g (zz_t3 (i := 26) rfl) rfl), (zz_g (zz_t3 (i := 27) rfl) rfl), (zz_g (zz_t3 (i := 28) rfl) rfl)⟩
set_option maxRecDepth 20000 in
theorem zk118 : zcOk (7, 12, 2, 86) := ⟨_, rfl, (zz_g (zz_t3 (i := 32) rfl) rfl), (zz_g (zz_t3 (i := 33) rfl) rfl), rfl, rfl⟩
set_option maxRecDepth 20000 in
theorem zk119 : zcOk (6, 1, 5, 0) := (zz_g (zz_t3 (i := 35) rfl) rfl)
set_option maxRecDepth 20000 in
theorem zk120 : zcOk (7, 17, 0, 116) := ⟨_, rfl, (zz_g (zz_t3 (i := 67) rfl) rfl), (zz_g (zz_t3 (i := 68) rfl) rfl), (zz_g (zz_t3 (i := 69) rfl) rfl)⟩
set_option maxRecDepth 20000 in
theorem zk121 : zcOk (6, 90, 1, 89) := ⟨_, rfl, (zz_g (zz_t3 (i := 71) rfl) rfl), (zz_g (zz_t3 (i := 72) rfl) rfl)⟩
set_option maxRecDepth 20000 in
theorem zk122 : zcOk (6, 28, 1, 87) := ⟨_, rfl, (zz_g (zz_t3 (i := 74) rfl) rfl), (zz_g (zz_t3 (i := 75) rfl) rfl)⟩
set_option maxRecDepth 20000 in
theorem zk123 : zcOk (6, 93, 1, 90) := ⟨_, rfl, (zz_g (zz_t3 (i := 77) rfl) rfl), (zz_g (zz_t3 (i := 78) rfl) rfl)⟩
set_option maxRecDepth 20000 in
theorem zk124 : zcOk (6, 96, 0, 92) := ⟨_, rfl, (zz_g (zz_t3 (i := 80) rfl) rfl), (zz_g (zz_t3 (i := 82) rfl) rfl), (zz_g (zz_p (i := 11) rfl) rfl)⟩
set_option maxRecDepth 20000 in
theorem zk125 : zcOk (7, 22, 0, 118) := ⟨_, rfl, (zz_g (zz_t3 (i := 84) rfl) rfl), (zz_g (zz_t3 (i := 85) rfl) rfl), (zz_g (zz_t3 (i := 86) rfl) rfl)⟩
set_option maxRecDepth 20000 in
theorem zk126 : zcOk (6, 46, 0, 88) := ⟨_, rfl, (zz_g (zz_t3 (i := 88) rfl) rfl), (zz_g (zz_t3 (i := 90) rfl) rfl), (zz_g (zz_p (i := 12) rfl) rfl)⟩
set_option maxRecDepth 20000 in
theorem zk127 : zcOk (6, 57, 0, 98) := ⟨_, rfl, (zz_g (zz_t3 (i := 92) rfl) rfl), (zz_g (zz_t3 (i := 94) rfl) rfl), (zz_g (zz_p (i := 13) rfl) rfl)⟩
set_option maxRecDepth 20000 in
theorem zk128 : zcOk (6, 36, 0, 95) := ⟨_, rfl, (zz_g (zz_t3 (i := 96) rfl) rfl), (zz_g (zz_t3 (i := 98) rfl) rfl), (zz_g (zz_p (i := 14) rfl) rfl)⟩
set_option maxRecDepth 20000 in
theorem zk129 : zcOk (6, 99, 0, 117) := ⟨_, rfl, (zz_g (zz_t3 (i := 100) rfl) rfl), (zz_g (zz_t3 (i := 102) rfl) rfl), (zz_g (zz_p (i := 15) rfl) rfl)⟩
set_option maxRecDepth 20000 in
theorem zk130 : zcOk (7, 26, 0, 119) := ⟨_, rfl, (zz_g (zz_t3 (i := 104) rfl) rfl), (zz_g (zz_t3 (i := 105) rfl) rfl), (zz_g (zz_t3 (i := 106) rfl) rfl)⟩
set_option maxRecDepth 20000 in
theorem zk131 : zcOk (6, 102, 0, 100) := ⟨_, rfl, (zz_g (zz_t3 (i := 108) rfl) rfl), (zz_g (zz_t3 (i := 110) rfl) rfl), (zz_g (zz_p (i := 16) rfl) rfl)⟩
set_option maxRecDepth 20000 in
theorem zk132 : zcOk (6, 43, 0, 96) := ⟨_, rfl, (zz_g (zz_t3 (i := 112) rfl) rfl), (zz_g (zz_t3 (i := 114) rfl) rfl), (zz_g (zz_p (i := 17) rfl) rfl)⟩
set_option maxRecDepth 20000 in
theorem zk133 : zcOk (7, 30, 0, 121) := ⟨_, rfl, (zz_g (zz_t3 (i := 116) rfl) rfl), (zz_g (zz_t3 (i := 117) rfl) rfl), (zz_g (zz_t3 (i := 118) rfl) rfl)⟩
set_option maxRecDepth 20000 in
theorem zk134 : zcOk (6, 105, 0, 120) := ⟨_, rfl, (zz_g (zz_t3 (i := 120) rfl) rfl), (zz_g (zz_t3 (i := 122) rfl) rfl), (zz_g (zz_p (i := 18) rfl) rfl)⟩
set_option maxRecDepth 20000 in
theorem zk135 : zcOk (7, 34, 0, 122) := ⟨_, rfl, (zz_g (zz_t3 (i := 124) rfl) rfl), (zz_g (zz_t3 (i := 125) rfl) rfl), (zz_g (zz_t3 (i := 126) rfl) rfl)⟩
set_option maxRecDepth 20000 in
theorem zk136 : zcOk (7, 38, 0, 123) := ⟨_, rfl, (zz_g (zz_t3 (i := 128) rfl) rfl), (zz_g (zz_t3 (i := 129) rfl) rfl), (zz_g (zz_t3 (i := 130) rfl) rfl)⟩
set_option maxRecDepth 20000 in
theorem zk137 : zcOk (7, 42, 0, 126) := ⟨_, rfl, (zz_g (zz_t3 (i := 132) rfl) rfl), (zz_g (zz_t3 (i := 133) rfl) rfl), (zz_g (zz_t3 (i := 134) rfl) rfl)⟩
set_option maxRecDepth 20000 in
theorem zk138 : zcOk (6, 108, 0, 124) := ⟨_, rfl, (zz_g (zz_t3 (i := 136) rfl) rfl), (zz_g (zz_t3 (i := 138) rfl) rfl), (zz_g (zz_p (i := 19) rfl) rfl)⟩
set_option maxRecDepth 20000 in
theorem zk139 : zcOk (6, 111, 0, 125) := ⟨_, rfl, (zz_g (zz_t3 (i := 140) rfl) rfl), (zz_g (zz_t3 (i := 142) rfl) rfl), (zz_g (zz_p (i := 20) rfl) rfl)⟩
set_option maxRecDepth 20000 in
theorem zk140 : zcOk (7, 47, 0, 127) := ⟨_, rfl, (zz_g (zz_t3 (i := 144) rfl) rfl), (zz_g (zz_t3 (i := 145) rfl) rfl), (zz_g (zz_t3 (i := 146) rfl) rfl)⟩
set_option maxRecDepth 20000 in
theorem zk141 : zcOk (6, 67, 0, 106) := ⟨_, rfl, (zz_g (zz_t3 (i := 148) rfl) rfl), (zz_g (zz_t3 (i := 150) rfl) rfl), (zz_g (zz_p (i := 21) rfl) rfl)⟩
set_option maxRecDepth 20000 in
theorem zk142 : zcOk (6, 60, 0, 105) := ⟨_, rfl, (zz_g (zz_t3 (i := 152) rfl) rfl), (zz_g (zz_t3 (i := 154) rfl) rfl), (zz_g (zz_p (i := 22) rfl) rfl)⟩
set_option maxRecDepth 20000 in
theorem zk143 : zcOk (6, 54, 0, 99) := ⟨_, rfl, (zz_g (zz_t3 (i := 156) rfl) rfl), (zz_g (zz_t3 (i := 158) rfl) rfl), (zz_g (zz_p (i := 23) rfl) rfl)⟩
set_option maxRecDepth 20000 in
theorem zk144 : zcOk (6, 40, 0, 97) := ⟨_, rfl, (zz_g (zz_t3 (i := 160) rfl) rfl), (zz_g (zz_t3 (i := 162) rfl) rfl), (zz_g (zz_p (i := 24) rfl) rfl)⟩
set_option maxRecDepth 20000 in
theorem zk145 : zcOk (6, 63, 0, 104) := ⟨_, rfl, (zz_g (zz_t3 (i := 164) rfl) rfl), (zz_g (zz_t3 (i := 166) rfl) rfl), (zz_g (zz_p (i := 25) rfl) rfl)⟩
set_option maxRecDepth 20000 in
theorem zk146 : zcOk (7, 51, 0, 128) := ⟨_, rfl, (zz_g (zz_t3 (i := 168) rfl) rfl), (zz_g (zz_t3 (i := 169) rfl) rfl), (zz_g (zz_t3 (i := 170) rfl) rfl)⟩
set_option maxRecDepth 20000 in
theorem zk147 : zcOk (6, 115, 0, 107) := ⟨_, rfl, (zz_g (zz_t3 (i := 172) rfl) rfl), (zz_g (zz_t3 (i := 174) rfl) rfl), (zz_g (zz_p (i := 26) rfl) rfl)⟩
set_option maxRecDepth 20000 in
theorem zk148 : zcOk (7, 56, 0, 130) := ⟨_, rfl, (zz_g (zz_t3 (i := 176) rfl) rfl), (zz_g (zz_t3 (i := 177) rfl) rfl), (zz_g (zz_t3 (i := 178) rfl) rfl)⟩
set_option maxRecDepth 20000 in
theorem zk149 : zcOk (6, 121, 0, 129) := ⟨_, rfl, (zz_g (zz_t3 (i := 180) rfl) rfl), (zz_g (zz_t3 (i := 182) rfl) rfl), (zz_g (zz_p (i := 27) rfl) rfl)⟩
set_option maxRecDepth 20000 in
theorem zk150 : zcOk (6, 118, 0, 101) := ⟨_, rfl, (zz_g (zz_t3 (i := 184) rfl) rfl), (zz_g (zz_t3 (i := 186) rfl) rfl), (zz_g (zz_p (i := 28) rfl) rfl)⟩
set_option maxRecDepth 20000 in
theorem zk151 : zcOk (6, 74, 0, 108) := ⟨_, rfl, (zz_g (zz_t3 (i := 188) rfl) rfl), (zz_g (zz_t3 (i := 190) rfl) rfl), (zz_g (zz_p (i := 29) rfl) rfl)⟩
set_option maxRecDepth 20000 in
theorem zk152 : zcOk (6, 50, 0, 91) := ⟨_, rfl, (zz_g (zz_t3 (i := 192) rfl) rfl), (zz_g (zz_t3 (i := 194) rfl) rfl), (zz_g (zz_p (i := 30) rfl) rfl)⟩
set_option maxRecDepth 20000 in
theorem zk153 : zcOk (6, 125, 0, 109) := ⟨_, rfl, (zz_g (zz_t3 (i := 196) rfl) rfl), (zz_g (zz_t3 (i := 198) rfl) rfl), (zz_g (zz_p (i := 31) rfl) rfl)⟩
set_option maxRecDepth 20000 in
theorem zk154 : zcOk (7, 60, 0, 131) := ⟨_, rfl, (zz_g (zz_t3 (i := 200) rfl) rfl), (zz_g (zz_t3 (i := 201) rfl) rfl), (zz_g (zz_t3 (i := 202) rfl) rfl)⟩
set_option maxRecDepth 20000 in
theorem zk155 : zcOk (6, 128, 0, 114) := ⟨_, rfl, (zz_g (zz_t3 (i := 204) rfl) rfl), (zz_g (zz_t3 (i := 206) rfl) rfl), (zz_g (zz_p (i := 32) rfl) rfl)⟩
set_option maxRecDepth 20000 in
theorem zk156 : zcOk (6, 80, 0, 115) := ⟨_, rfl, (zz_g (zz_t3 (i := 208) rfl) rfl), (zz_g (zz_t3 (i := 210) rfl) rfl), (zz_g (zz_p (i := 33) rfl) rfl)⟩
set_option maxRecDepth 20000 in
theorem zk157 : zcOk (6, 84, 0, 112) := ⟨_, rfl, (zz_g (zz_t3 (i := 212) rfl) rfl), (zz_g (zz_t3 (i := 214) rfl) rfl), (zz_g (zz_p (i := 34) rfl) rfl)⟩
set_option maxRecDepth 20000 in
theorem zk158 : zcOk (6, 71, 0, 110) := ⟨_, rfl, (zz_g (zz_t3 (i := 216) rfl) rfl), (zz_g (zz_t3 (i := 218) rfl) rfl), (zz_g (zz_p (i := 35) rfl) rfl)⟩
set_option maxRecDepth 20000 in
theorem zk159 : zcOk (6, 77, 1, 111) := ⟨_, rfl, (zz_g (zz_t3 (i := 220) rfl) rfl), (zz_g (zz_t3 (i := 221) rfl) rfl)⟩
set_option maxRecDepth 20000 in
theorem zk160 : zcOk (6, 87, 0, 113) := ⟨_, rfl, (zz_g (zz_t3 (i := 223) rfl) rfl), (zz_g (zz_t3 (i := 225) rfl) rfl), (zz_g (zz_p (i := 36) rfl) rfl)⟩
set_option maxRecDepth 20000 in
theorem zk161 : zcOk (7, 64, 0, 133) := ⟨_, rfl, (zz_g (zz_t3 (i := 227) rfl) rfl), (zz_g (zz_t3 (i := 228) rfl) rfl), (zz_g (zz_t3 (i := 229) rfl) rfl)⟩
set_option maxRecDepth 20000 in
theorem zk162 : zcOk (6, 131, 0, 132) := ⟨_, rfl, (zz_g (zz_t3 (i := 231) rfl) rfl), (zz_g (zz_t3 (i := 233) rfl) rfl), (zz_g (zz_p (i := 37) rfl) rfl)⟩
set_option maxRecDepth 20000 in
theorem zk163 : zcOk (7, 69, 0, 134) := ⟨_, rfl, (zz_g (zz_t3 (i := 235) rfl) rfl), (zz_g (zz_t3 (i := 236) rfl) rfl), (zz_g (zz_t3 (i := 237) rfl) rfl)⟩
set_option maxRecDepth 20000 in
theorem zk164 : zcOk (7, 73, 0, 135) := ⟨_, rfl, (zz_g (zz_t3 (i := 239) rfl) rfl), (zz_g (zz_t4 (i := 0) rfl) rfl), (zz_g (zz_t4 (i := 1) rfl) rfl)⟩
set_option maxRecDepth 20000 in
theorem zk165 : zcOk (7, 77, 0, 136) := ⟨_, rfl, (zz_g (zz_t4 (i := 3) rfl) rfl), (zz_g (zz_t4 (i := 4) rfl) rfl), (zz_g (zz_t4 (i := 5) rfl) rfl)⟩
set_option maxRecDepth 20000 in
theorem zk166 : zcOk (7, 81, 0, 137) := ⟨_, rfl, (zz_g (zz_t4 (i := 7) rfl) rfl), (zz_g (zz_t4 (i := 8) rfl) rfl), (zz_g (zz_t4 (i := 9) rfl) rfl)⟩
set_option maxRecDepth 20000 in
theorem zk167 : zcOk (7, 85, 0, 139) := ⟨_, rfl, (zz_g (zz_t4 (i := 11) rfl) rfl), (zz_g (zz_t4 (i := 12) rfl) rfl), (zz_g (zz_t4 (i := 13) rfl) rfl)⟩
set_option maxRecDepth 20000 in
theorem zk168 : zcOk (6, 134, 0, 138) := ⟨_, rfl, (zz_g (zz_t4 (i := 15) rfl) rfl), (zz_g (zz_t4 (i := 17) rfl) rfl), (zz_g (zz_p (i := 38) rfl) rfl)⟩
set_option maxRecDepth 20000 in
theorem zk169 : zcOk (6, 137, 0, 102) := ⟨_, rfl, (zz_g (zz_t4 (i := 19) rfl) rfl), (zz_g (zz_t4 (i := 21) rfl) rfl), (zz_g (zz_p (i := 39) rfl) rfl)⟩
set_option maxRecDepth 20000 in
theorem zk170 : zcOk (6, 140, 0, 103) := ⟨_, rfl, (zz_g (zz_t4 (i := 23) rfl) rfl), (zz_g (zz_t4 (i := 25) rfl) rfl), (zz_g (zz_p (i := 40) rfl) rfl)⟩
set_option maxRecDepth 20000 in
theorem zk171 : zcOk (7, 89, 0, 140) := ⟨_, rfl, (zz_g (zz_t4 (i := 27) rfl) rfl), (zz_g (zz_t4 (i := 28) rfl) rfl), (zz_g (zz_t4 (i := 29) rfl) rfl)⟩
set_option maxRecDepth 20000 in
theorem zk172 : zcOk (6, 144, 0, 93) := ⟨_, rfl, (zz_g (zz_t4 (i := 31) rfl) rfl), (zz_g (zz_t4 (i := 33) rfl) rfl), (zz_g (zz_p (i := 41) rfl) rfl)⟩
set_option maxRecDepth 20000 in
theorem zk173 : zcOk (6, 147, 0, 94) := ⟨_, rfl, (zz_g (zz_t4 (i := 35) rfl) rfl), (zz_g (zz_t4 (i := 37) rfl) rfl), (zz_g (zz_p (i := 42) rfl) rfl)⟩
set_option maxRecDepth 20000 in
theorem zk174 : zcOk (7, 93, 0, 141) := ⟨_, rfl, (zz_g (zz_t4 (i := 39) rfl) rfl), (zz_g (zz_t4 (i := 40) rfl) rfl), (zz_g (zz_t4 (i := 41) rfl) rfl)⟩
set_option maxRecDepth 20000 in
theorem zk175 : zcOk (7, 97, 0, 142) := ⟨_, rfl, (zz_g (zz_t4 (i := 43) rfl) rfl), (zz_g (zz_t4 (i := 44) rfl) rfl), (zz_g (zz_t4 (i := 45) rfl) rfl)⟩
set_option maxRecDepth 20000 in
theorem zk176 : zcOk (7, 101, 0, 143) := ⟨_, rfl, (zz_g (zz_t4 (i := 47) rfl) rfl), (zz_g (zz_t4 (i := 48) rfl) rfl), (zz_g (zz_t4 (i := 49) rfl) rfl)⟩
set_option maxRecDepth 20000 in
theorem zk177 : zcOk (7, 105, 0, 144) := ⟨_, rfl, (zz_g (zz_t4 (i := 51) rfl) rfl), (zz_g (zz_t4 (i := 52) rfl) rfl), (zz_g (zz_t4 (i := 53) rfl) rfl)⟩
set_option maxRecDepth 20000 in
theorem zk178 : zcOk (7, 109, 0, 145) := ⟨_, rfl, (zz_g (zz_t4 (i := 55) rfl) rfl), (zz_g (zz_t4 (i := 56) rfl) rfl), (zz_g (zz_t4 (i := 57) rfl) rfl)⟩
set_option maxRecDepth 20000 in
theorem zk179 : zcOk (7, 113, 0, 149) := ⟨_, rfl, (zz_g (zz_t4 (i := 59) rfl) rfl), (zz_g (zz_t4 (i := 60) rfl) rfl), (zz_g (zz_t4 (i := 61) rfl) rfl)⟩
set_option maxRecDepth 20000 in
theorem zk180 : zcOk (6, 162, 0, 148) := ⟨_, rfl, (zz_g (zz_t4 (i := 63) rfl) rfl), (zz_g (zz_t4 (i := 65) rfl) rfl), (zz_g (zz_p (i := 43) rfl) rfl)⟩
set_option maxRecDepth 20000 in
theorem zk181 : zcOk (6, 156, 0, 147) := ⟨_, rfl, (zz_g (zz_t4 (i := 67) rfl) rfl), (zz_g (zz_t4 (i := 69) rfl) rfl), (zz_g (zz_p (i := 44) rfl) rfl)⟩
set_option maxRecDepth 20000 in
theorem zk182 : zcOk (6, 159, 1, 146) := ⟨_, rfl, (zz_g (zz_t4 (i := 71) rfl) rfl), (zz_g (zz_t4 (i := 72) rfl) rfl)⟩
set_option maxRecDepth 20000 in
theorem zk183 : zcOk (7, 117, 0, 150) := ⟨_, rfl, (zz_g (zz_t4 (i := 74) rfl) rfl), (zz_g (zz_t4 (i := 75) rfl) rfl), (zz_g (zz_t4 (i := 76) rfl) rfl)⟩
set_option maxRecDepth 20000 in
theorem zk184 : zcOk (7, 121, 0, 151) := ⟨_, rfl, (zz_g (zz_t4 (i := 78) rfl) rfl), (zz_g (zz_t4 (i := 79) rfl) rfl), (zz_g (zz_t4 (i := 80) rfl) rfl)⟩
set_option maxRecDepth 20000 in
theorem zk185 : zcOk (7, 125, 0, 152) := ⟨_, rfl, (zz_g (zz_t4 (i := 82) rfl) rfl), (zz_g (zz_t4 (i := 83) rfl) rfl), (zz_g (zz_t4 (i := 84) rfl) rfl)⟩
set_option maxRecDepth 20000 in
theorem zk186 : zcOk (7, 129, 0, 153) := ⟨_, rfl, (zz_g (zz_t4 (i := 86) rfl) rfl), (zz_g (zz_t4 (i := 87) rfl) rfl), (zz_g (zz_t4 (i := 88) rfl) rfl)⟩
theorem zz_allc {a b : List (Nat × Nat × Nat × Nat)} {P : (Nat × Nat × Nat × Nat) → Prop} (ha : ∀ r ∈ a, P r) (hb : ∀ r ∈ b, P r) : ∀ r ∈ a ++ b, P r := fun r h => (List.mem_append.mp h).elim (ha r) (hb r)
def zCt0 : List (Nat × Nat × Nat × Nat) := [(7, 9, 2, 52), (5, 3, 5, 0), (5, 11, 2, 24), (3, 3, 5, 0), (3, 11, 3, 6), (1, 3, 5, 0), (5, 28, 2, 20), (2, 3, 5, 0), (2, 21, 2, 24), (5, 35, 3, 44), (4, 3, 5, 0), (5, 42, 3, 0), (0, 3, 5, 0), (7, 13, 0, 53), (5, 47, 1, 81), (5, 51, 1, 82), (5, 58, 0, 21), (2, 22, 0, 22), (2, 25, 0, 25), (3, 50, 0, 7), (1, 18, 6, 0), (3, 54, 6, 0), (5, 62, 0, 28), (7, 18, 0, 54), (5, 66, 0, 26), (5, 73, 0, 8), (5, 79, 0, 29), (3, 68, 0, 19), (1, 24, 0, 8), (1, 39, 4, 83)]
theorem zCt0_ok : ∀ e ∈ zCt0, zcOk e := (List.forall_mem_cons.mpr ⟨zk0, (List.forall_mem_cons.mpr ⟨zk1, (List.forall_mem_cons.mpr ⟨zk2, (List.forall_mem_cons.mpr ⟨zk3, (List.forall_mem_cons.mpr ⟨zk4, (List.forall_mem_cons.mpr ⟨zk5, (List.forall_mem_cons.mpr ⟨zk6, (List.forall_mem_cons.mpr ⟨zk7, (List.forall_mem_cons.mpr ⟨zk8, (List.forall_mem_cons.mpr ⟨zk9, (List.forall_mem_cons.mpr ⟨zk10, (List.forall_mem_cons.mpr ⟨zk11, (List.forall_mem_cons.mpr ⟨zk12, (List.forall_mem_cons.mpr ⟨zk13, (List.forall_mem_cons.mpr ⟨zk14, (List.forall_mem_cons.mpr ⟨zk15, (List.forall_mem_cons.mpr ⟨zk16, (List.forall_mem_cons.mpr ⟨zk17, (List.forall_mem_cons.mpr ⟨zk18, (List.forall_mem_cons.mpr ⟨zk19, (List.forall_mem_cons.mpr ⟨zk20, (List.forall_mem_cons.mpr ⟨zk21, (List.forall_mem_cons.mpr ⟨zk22, (List.forall_mem_cons.mpr ⟨zk23, (List.forall_mem_cons.mpr ⟨zk24, (List.forall_mem_cons.mpr ⟨zk25, (List.forall_mem_cons.mpr ⟨zk26, (List.forall_mem_cons.mpr ⟨zk27, (List.forall_mem_cons.mpr ⟨zk28, (List.forall_mem_cons.mpr ⟨zk29, (fun _ h => absurd h List.not_mem_nil)⟩)⟩)⟩)⟩)⟩)⟩)⟩)⟩)⟩)⟩)⟩)⟩)⟩)⟩)⟩)⟩)⟩)⟩)⟩)⟩)⟩)⟩)⟩)⟩)⟩)⟩)⟩)⟩)⟩)⟩)
def zCt1 : List (Nat × Nat × Nat × Nat) := [(3, 72, 0, 30), (3, 76, 4, 83), (7, 23, 0, 55), (5, 87, 0, 14), (7, 27, 0, 56), (7, 31, 0, 57), (7, 35, 0, 58), (7, 39, 0, 59), (5, 99, 0, 15), (5, 103, 0, 16), (1, 35, 0, 15), (7, 43, 0, 60), (5, 107, 0, 32), (3, 80, 0, 8), (3, 87, 8, 0), (3, 93, 0, 34), (3, 102, 0, 35), (3, 105, 0, 13), (3, 99, 0, 17), (3, 96, 0, 33), (7, 48, 0, 61), (5, 111, 0, 31), (3, 83, 0, 32), (7, 52, 0, 62), (5, 114, 0, 84), (5, 146, 0, 27), (3, 60, 0, 26), (3, 64, 0, 9), (5, 118, 0, 36), (3, 108, 0, 38)]
theorem zCt1_ok : ∀ e ∈ zCt1, zcOk e := (List.forall_mem_cons.mpr ⟨zk30, (List.forall_mem_cons.mpr ⟨zk31, (List.forall_mem_cons.mpr ⟨zk32, (List.forall_mem_cons.mpr ⟨zk33, (List.forall_mem_cons.mpr ⟨zk34, (List.forall_mem_cons.mpr ⟨zk35, (List.forall_mem_cons.mpr ⟨zk36, (List.forall_mem_cons.mpr ⟨zk37, (List.forall_mem_cons.mpr ⟨zk38, (List.forall_mem_cons.mpr ⟨zk39, (List.forall_mem_cons.mpr ⟨zk40, (List.forall_mem_cons.mpr ⟨zk41, (List.forall_mem_cons.mpr ⟨zk42, (List.forall_mem_cons.mpr ⟨zk43, (List.forall_mem_cons.mpr ⟨zk44, (List.forall_mem_cons.mpr ⟨zk45, (List.forall_mem_cons.mpr ⟨zk46, (List.forall_mem_cons.mpr ⟨zk47, (List.forall_mem_cons.mpr ⟨zk48, (List.forall_mem_cons.mpr ⟨zk49, (List.forall_mem_cons.mpr ⟨zk50, (List.forall_mem_cons.mpr ⟨zk51, (List.forall_mem_cons.mpr ⟨zk52, (List.forall_mem_cons.mpr ⟨zk53, (List.forall_mem_cons.mpr ⟨zk54, (List.forall_mem_cons.mpr ⟨zk55, (List.forall_mem_cons.mpr ⟨zk56, (List.forall_mem_cons.mpr ⟨zk57, (List.forall_mem_cons.mpr ⟨zk58, (List.forall_mem_cons.mpr ⟨zk59, (fun _ h => absurd h List.not_mem_nil)⟩)⟩)⟩)⟩)⟩)⟩)⟩)⟩)⟩)⟩)⟩)⟩)⟩)⟩)⟩)⟩)⟩)⟩)⟩)⟩)⟩)⟩)⟩)⟩)⟩)⟩)⟩)⟩)⟩)⟩)
def zCt2 : List (Nat × Nat × Nat × Nat) := [(3, 119, 0, 11), (3, 122, 0, 39), (3, 112, 0, 37), (3, 116, 0, 18), (7, 57, 0, 63), (5, 121, 0, 2), (0, 39, 0, 8), (0, 45, 0, 3), (0, 49, 0, 10), (0, 57, 1, 4), (0, 60, 7, 0), (0, 65, 0, 5), (0, 69, 0, 11), (0, 72, 9, 0), (0, 75, 0, 38), (5, 139, 0, 37), (7, 61, 0, 64), (5, 143, 0, 40), (3, 125, 0, 14), (7, 65, 0, 65), (5, 149, 0, 12), (1, 28, 0, 10), (1, 32, 0, 11), (7, 70, 0, 66), (5, 153, 0, 9), (7, 74, 0, 67), (7, 78, 0, 68), (7, 82, 0, 69), (5, 159, 0, 41), (3, 128, 0, 42)]
theorem zCt2_ok : ∀ e ∈ zCt2, zcOk e := (List.forall_mem_cons.mpr ⟨zk60, (List.forall_mem_cons.mpr ⟨zk61, (List.forall_mem_cons.mpr ⟨zk62, (List.forall_mem_cons.mpr ⟨zk63, (List.forall_mem_cons.mpr ⟨zk64, (List.forall_mem_cons.mpr ⟨zk65, (List.forall_mem_cons.mpr ⟨zk66, (List.forall_mem_cons.mpr ⟨zk67, (List.forall_mem_cons.mpr ⟨zk68, (List.forall_mem_cons.mpr ⟨zk69, (List.forall_mem_cons.mpr ⟨zk70, (List.forall_mem_cons.mpr ⟨zk71, (List.forall_mem_cons.mpr ⟨zk72, (List.forall_mem_cons.mpr ⟨zk73, (List.forall_mem_cons.mpr ⟨zk74, (List.forall_mem_cons.mpr ⟨zk75, (List.forall_mem_cons.mpr ⟨zk76, (List.forall_mem_cons.mpr ⟨zk77, (List.forall_mem_cons.mpr ⟨zk78, (List.forall_mem_cons.mpr ⟨zk79, (List.forall_mem_cons.mpr ⟨zk80, (List.forall_mem_cons.mpr ⟨zk81, (List.forall_mem_cons.mpr ⟨zk82, (List.forall_mem_cons.mpr ⟨zk83, (List.forall_mem_cons.mpr ⟨zk84, (List.forall_mem_cons.mpr ⟨zk85, (List.forall_mem_cons.mpr ⟨zk86, (List.forall_mem_cons.mpr ⟨zk87, (List.forall_mem_cons.mpr ⟨zk88, (List.forall_mem_cons.mpr ⟨zk89, (fun _ h => absurd h List.not_mem_nil)⟩)⟩)⟩)⟩)⟩)⟩)⟩)⟩)⟩)⟩)⟩)⟩)⟩)⟩)⟩)⟩)⟩)⟩)⟩)⟩)⟩)⟩)⟩)⟩)⟩)⟩)⟩)⟩)⟩)⟩)
def zCt3 : List (Nat × Nat × Nat × Nat) := [(3, 134, 0, 40), (3, 131, 0, 43), (3, 137, 7, 0), (7, 86, 0, 70), (5, 162, 0, 25), (7, 90, 0, 71), (5, 165, 0, 85), (5, 191, 0, 43), (7, 94, 0, 72), (5, 168, 0, 38), (7, 98, 0, 73), (5, 171, 0, 1), (7, 102, 0, 74), (5, 177, 0, 45), (7, 106, 0, 75), (7, 110, 0, 76), (5, 179, 0, 46), (4, 19, 1, 49), (4, 23, 1, 50), (4, 27, 1, 51), (7, 114, 0, 77), (5, 182, 0, 47), (4, 31, 1, 48), (4, 35, 0, 16), (7, 118, 0, 78), (5, 188, 0, 23), (7, 122, 0, 79), (7, 126, 0, 80), (7, 12, 2, 86), (6, 1, 5, 0)]
theorem zCt3_ok : ∀ e ∈ zCt3, zcOk e := (List.forall_mem_cons.mpr ⟨zk90, (List.forall_mem_cons.mpr ⟨zk91, (List.forall_mem_cons.mpr ⟨zk92, (List.forall_mem_cons.mpr ⟨zk93, (List.forall_mem_cons.mpr ⟨zk94, (List.forall_mem_cons.mpr ⟨zk95, (List.forall_mem_cons.mpr ⟨zk96, (List.forall_mem_cons.mpr ⟨zk97, (List.forall_mem_cons.mpr ⟨zk98, (List.forall_mem_cons.mpr ⟨zk99, (List.forall_mem_cons.mpr ⟨zk100, (List.forall_mem_cons.mpr ⟨zk101, (List.forall_mem_cons.mpr ⟨zk102, (List.forall_mem_cons.mpr ⟨zk103, (List.forall_mem_cons.mpr ⟨zk104, (List.forall_mem_cons.mpr ⟨zk105, (List.forall_mem_cons.mpr ⟨zk106, (List.forall_mem_cons.mpr ⟨zk107, (List.forall_mem_cons.mpr ⟨zk108, (List.forall_mem_cons.mpr ⟨zk109, (List.forall_mem_cons.mpr ⟨zk110, (List.forall_mem_cons.mpr ⟨zk111, (List.forall_mem_cons.mpr ⟨zk112, (List.forall_mem_cons.mpr ⟨zk113, (List.forall_mem_cons.mpr ⟨zk114, (List.forall_mem_cons.mpr ⟨zk115, (List.forall_mem_cons.mpr ⟨zk116, (List.forall_mem_cons.mpr ⟨zk117, (List.forall_mem_cons.mpr ⟨zk118, (List.forall_mem_cons.mpr ⟨zk119, (fun _ h => absurd h List.not_mem_nil)⟩)⟩)⟩)⟩)⟩)⟩)⟩)⟩)⟩)⟩)⟩)⟩)⟩)⟩)⟩)⟩)⟩)⟩)⟩)⟩)⟩)⟩)⟩)⟩)⟩)⟩)⟩)⟩)⟩)⟩)
def zCt4 : List (Nat × Nat × Nat × Nat) := [(7, 17, 0, 116), (6, 90, 1, 89), (6, 28, 1, 87), (6, 93, 1, 90), (6, 96, 0, 92), (7, 22, 0, 118), (6, 46, 0, 88), (6, 57, 0, 98), (6, 36, 0, 95), (6, 99, 0, 117), (7, 26, 0, 119), (6, 102, 0, 100), (6, 43, 0, 96), (7, 30, 0, 121), (6, 105, 0, 120), (7, 34, 0, 122), (7, 38, 0, 123), (7, 42, 0, 126), (6, 108, 0, 124), (6, 111, 0, 125), (7, 47, 0, 127), (6, 67, 0, 106), (6, 60, 0, 105), (6, 54, 0, 99), (6, 40, 0, 97), (6, 63, 0, 104), (7, 51, 0, 128), (6, 115, 0, 107), (7, 56, 0, 130), (6, 121, 0, 129)]
theorem zCt4_ok : ∀ e ∈ zCt4, zcOk e := (List.forall_mem_cons.mpr ⟨zk120, (List.forall_mem_cons.mpr ⟨zk121, (List.forall_mem_cons.mpr ⟨zk122, (List.forall_mem_cons.mpr ⟨zk123, (List.forall_mem_cons.mpr ⟨zk124, (List.forall_mem_cons.mpr ⟨zk125, (List.forall_mem_cons.mpr ⟨zk126, (List.forall_mem_cons.mpr ⟨zk127, (List.forall_mem_cons.mpr ⟨zk128, (List.forall_mem_cons.mpr ⟨zk129, (List.forall_mem_cons.mpr ⟨zk130, (List.forall_mem_cons.mpr ⟨zk131, (List.forall_mem_cons.mpr ⟨zk132, (List.forall_mem_cons.mpr ⟨zk133, (List.forall_mem_cons.mpr ⟨zk134, (List.forall_mem_cons.mpr ⟨zk135, (List.forall_mem_cons.mpr ⟨zk136, (List.forall_mem_cons.mpr ⟨zk137, (List.forall_mem_cons.mpr ⟨zk138, (List.forall_mem_cons.mpr ⟨zk139, (List.forall_mem_cons.mpr ⟨zk140, (List.forall_mem_cons.mpr ⟨zk141, (List.forall_mem_cons.mpr ⟨zk142, (List.forall_mem_cons.mpr ⟨zk143, (List.forall_mem_cons.mpr ⟨zk144, (List.forall_mem_cons.mpr ⟨zk145, (List.forall_mem_cons.mpr ⟨zk146, (List.forall_mem_cons.mpr ⟨zk147, (List.forall_mem_cons.mpr ⟨zk148, (List.forall_mem_cons.mpr ⟨zk149, (fun _ h => absurd h List.not_mem_nil)⟩)⟩)⟩)⟩)⟩)⟩)⟩)⟩)⟩)⟩)⟩)⟩)⟩)⟩)⟩)⟩)⟩)⟩)⟩)⟩)⟩)⟩)⟩)⟩)⟩)⟩)⟩)⟩)⟩)⟩)
def zCt5 : List (Nat × Nat × Nat × Nat) := [(6, 118, 0, 101), (6, 74, 0, 108), (6, 50, 0, 91), (6, 125, 0, 109), (7, 60, 0, 131), (6, 128, 0, 114), (6, 80, 0, 115), (6, 84, 0, 112), (6, 71, 0, 110), (6, 77, 1, 111), (6, 87, 0, 113), (7, 64, 0, 133), (6, 131, 0, 132), (7, 69, 0, 134), (7, 73, 0, 135), (7, 77, 0, 136), (7, 81, 0, 137), (7, 85, 0, 139), (6, 134, 0, 138), (6, 137, 0, 102), (6, 140, 0, 103), (7, 89, 0, 140), (6, 144, 0, 93), (6, 147, 0, 94), (7, 93, 0, 141), (7, 97, 0, 142), (7, 101, 0, 143), (7, 105, 0, 144), (7, 109, 0, 145), (7, 113, 0, 149)]
theorem zCt5_ok : ∀ e ∈ zCt5, zcOk e := (List.forall_mem_cons.mpr ⟨zk150, (List.forall_mem_cons.mpr ⟨zk151, (List.forall_mem_cons.mpr ⟨zk152, (List.forall_mem_cons.mpr ⟨zk153, (List.forall_mem_cons.mpr ⟨zk154, (List.forall_mem_cons.mpr ⟨zk155, (List.forall_mem_cons.mpr ⟨zk156, (List.forall_mem_cons.mpr ⟨zk157, (List.forall_mem_cons.mpr ⟨zk158, (List.forall_mem_cons.mpr ⟨zk159, (List.forall_mem_cons.mpr ⟨zk160, (List.forall_mem_cons.mpr ⟨zk161, (List.forall_mem_cons.mpr ⟨zk162, (List.forall_mem_cons.mpr ⟨zk163, (List.forall_mem_cons.mpr ⟨zk164, (List.forall_mem_cons.mpr ⟨zk165, (List.forall_mem_cons.mpr ⟨zk166, (List.forall_mem_cons.mpr ⟨zk167, (List.forall_mem_cons.mpr ⟨zk168, (List.forall_mem_cons.mpr ⟨zk169, (List.forall_mem_cons.mpr ⟨zk170, (List.forall_mem_cons.mpr ⟨zk171, (List.forall_mem_cons.mpr ⟨zk172, (List.forall_mem_cons.mpr ⟨zk173, (List.forall_mem_cons.mpr ⟨zk174, (List.forall_mem_cons.mpr ⟨zk175, (List.forall_mem_cons.mpr ⟨zk176, (List.forall_mem_cons.mpr ⟨zk177, (List.forall_mem_cons.mpr ⟨zk178, (List.forall_mem_cons.mpr ⟨zk179, (fun _ h => absurd h List.not_mem_nil)⟩)⟩)⟩)⟩)⟩)⟩)⟩)⟩)⟩)⟩)⟩)⟩)⟩)⟩)⟩)⟩)⟩)⟩)⟩)⟩)⟩)⟩)⟩)⟩)⟩)⟩)⟩)⟩)⟩)⟩)
def zCt6 : List (Nat × Nat × Nat × Nat) := [(6, 162, 0, 148), (6, 156, 0, 147), (6, 159, 1, 146), (7, 117, 0, 150), (7, 121, 0, 151), (7, 125, 0, 152), (7, 129, 0, 153)]
theorem zCt6_ok : ∀ e ∈ zCt6, zcOk e := (List.forall_mem_cons.mpr ⟨zk180, (List.forall_mem_cons.mpr ⟨zk181, (List.forall_mem_cons.mpr ⟨zk182, (List.forall_mem_cons.mpr ⟨zk183, (List.forall_mem_cons.mpr ⟨zk184, (List.forall_mem_cons.mpr ⟨zk185, (List.forall_mem_cons.mpr ⟨zk186, (fun _ h => absurd h List.not_mem_nil)⟩)⟩)⟩)⟩)⟩)⟩)⟩)
theorem zCt_eq : zCt = zCt0 ++ zCt1 ++ zCt2 ++ zCt3 ++ zCt4 ++ zCt5 ++ zCt6 := by rfl
theorem zCt_ok : ∀ e ∈ zCt, zcOk e := by rw [zCt_eq]; exact (zz_allc (zz_allc (zz_allc (zz_allc (zz_allc (zz_allc zCt0_ok zCt1_ok) zCt2_ok) zCt3_ok) zCt4_ok) zCt5_ok) zCt6_ok)
def zfOk (e : Nat × Nat × Nat × Nat) : Prop := ∃ q, zcl[e.2.2.1]? = some q ∧ e.2.2.2 < q.2.2 ∧ Cond.fieldLink (zcn e.1) e.2.1 (zcn e.2.2.1) (zT e.2.2.1 e.2.2.2).2.1 (zT e.2.2.1 e.2.2.2).2.2.1 ∈ zGW
set_option maxRecDepth 20000 in
theorem zfk0 : zfOk (1, 9, 1, 0) := ⟨_, rfl, Nat.le_of_ble_eq_true rfl, (zz_g (zz_t1 (i := 30) rfl) rfl)⟩
set_option maxRecDepth 20000 in
theorem zfk1 : zfOk (1, 15, 1, 1) := ⟨_, rfl, Nat.le_of_ble_eq_true rfl, (zz_g (zz_t1 (i := 31) rfl) rfl)⟩
set_option maxRecDepth 20000 in
theorem zfk2 : zfOk (3, 12, 3, 0) := ⟨_, rfl, Nat.le_of_ble_eq_true rfl, (zz_g (zz_t1 (i := 38) rfl) rfl)⟩
set_option maxRecDepth 20000 in
theorem zfk3 : zfOk (5, 69, 3, 0) := ⟨_, rfl, Nat.le_of_ble_eq_true rfl, (zz_g (zz_t1 (i := 39) rfl) rfl)⟩
set_option maxRecDepth 20000 in
theorem zfk4 : zfOk (0, 35, 3, 0) := ⟨_, rfl, Nat.le_of_ble_eq_true rfl, (zz_g (zz_t1 (i := 40) rfl) rfl)⟩
set_option maxRecDepth 20000 in
theorem zfk5 : zfOk (3, 18, 3, 1) := ⟨_, rfl, Nat.le_of_ble_eq_true rfl, (zz_g (zz_t1 (i := 41) rfl) rfl)⟩
set_option maxRecDepth 20000 in
theorem zfk6 : zfOk (5, 54, 3, 1) := ⟨_, rfl, Nat.le_of_ble_eq_true rfl, (zz_g (zz_t1 (i := 42) rfl) rfl)⟩
set_option maxRecDepth 20000 in
theorem zfk7 : zfOk (0, 30, 3, 1) := ⟨_, rfl, Nat.le_of_ble_eq_true rfl, (zz_g (zz_t1 (i := 43) rfl) rfl)⟩
set_option maxRecDepth 20000 in
theorem zfk8 : zfOk (3, 22, 3, 2) := ⟨_, rfl, Nat.le_of_ble_eq_true rfl, (zz_g (zz_t1 (i := 44) rfl) rfl)⟩
set_option maxRecDepth 20000 in
theorem zfk9 : zfOk (3, 26, 3, 3) := ⟨_, rfl, Nat.le_of_ble_eq_true rfl, (zz_g (zz_t1 (i := 45) rfl) rfl)⟩
set_option maxRecDepth 20000 in
theorem zfk10 : zfOk (0, 53, 3, 3) := ⟨_, rfl, Nat.le_of_ble_eq_true rfl, (zz_g (zz_t1 (i := 46) rfl) rfl)⟩
set_option maxRecDepth 20000 in
theorem zfk11 : zfOk (5, 83, 3, 3) := ⟨_, rfl, Nat.le_of_ble_eq_true rfl, (zz_g (zz_t1 (i := 47) rfl) rfl)⟩
set_option maxRecDepth 20000 in
theorem zfk12 : zfOk (3, 29, 3, 4) := ⟨_, rfl, Nat.le_of_ble_eq_true rfl, (zz_g (zz_t1 (i := 48) rfl) rfl)⟩
set_option maxRecDepth 20000 in
theorem zfk13 : zfOk (5, 156, 3, 4) := ⟨_, rfl, Nat.le_of_ble_eq_true rfl, (zz_g (zz_t1 (i := 49) rfl) rfl)⟩
set_option maxRecDepth 20000 in
theorem zfk14 : zfOk (3, 32, 3, 5) := ⟨_, rfl, Nat.le_of_ble_eq_true rfl, (zz_g (zz_t1 (i := 50) rfl) rfl)⟩
set_option maxRecDepth 20000 in
theorem zfk15 : zfOk (5, 96, 3, 5) := ⟨_, rfl, Nat.le_of_ble_eq_true rfl, (zz_g (zz_t1 (i := 51) rfl) rfl)⟩
set_option maxRecDepth 20000 in
theorem zfk16 : zfOk (3, 35, 3, 6) := ⟨_, rfl, Nat.le_of_ble_eq_true rfl, (zz_g (zz_t1 (i := 52) rfl) rfl)⟩
set_option maxRecDepth 20000 in
theorem zfk17 : zfOk (5, 90, 3, 6) := ⟨_, rfl, Nat.le_of_ble_eq_true rfl, (zz_g (zz_t1 (i := 53) rfl) rfl)⟩
set_option maxRecDepth 20000 in
theorem zfk18 : zfOk (3, 38, 3, 7) := ⟨_, rfl, Nat.le_of_ble_eq_true rfl, (zz_g (zz_t1 (i := 54) rfl) rfl)⟩
set_option maxRecDepth 20000 in
theorem zfk19 : zfOk (5, 93, 3, 7) := ⟨_, rfl, Nat.le_of_ble_eq_true rfl, (zz_g (zz_t1 (i := 55) rfl) rfl)⟩
set_option maxRecDepth 20000 in
theorem zfk20 : zfOk (3, 41, 3, 8) := ⟨_, rfl, Nat.le_of_ble_eq_true rfl, (zz_g (zz_t1 (i := 56) rfl) rfl)⟩
set_option maxRecDepth 20000 in
theorem zfk21 : zfOk (3, 44, 3, 9) := ⟨_, rfl, Nat.le_of_ble_eq_true rfl, (zz_g (zz_t1 (i := 57) rfl) rfl)⟩
set_option maxRecDepth 20000 in
theorem zfk22 : zfOk (3, 47, 3, 10) := ⟨_, rfl, Nat.le_of_ble_eq_true rfl, (zz_g (zz_t1 (i := 58) rfl) rfl)⟩
set_option maxRecDepth 20000 in
theorem zfk23 : zfOk (2, 11, 2, 0) := ⟨_, rfl, Nat.le_of_ble_eq_true rfl, (zz_g (zz_t1 (i := 91) rfl) rfl)⟩
set_option maxRecDepth 20000 in
theorem zfk24 : zfOk (2, 17, 2, 1) := ⟨_, rfl, Nat.le_of_ble_eq_true rfl, (zz_g (zz_t1 (i := 92) rfl) rfl)⟩
set_option maxRecDepth 20000 in
theorem zfk25 : zfOk (5, 186, 2, 1) := ⟨_, rfl, Nat.le_of_ble_eq_true rfl, (zz_g (zz_t1 (i := 93) rfl) rfl)⟩
set_option maxRecDepth 20000 in
theorem zfk26 : zfOk (4, 9, 4, 0) := ⟨_, rfl, Nat.le_of_ble_eq_true rfl, (zz_g (zz_t1 (i := 105) rfl) rfl)⟩
set_option maxRecDepth 20000 in
theorem zfk27 : zfOk (4, 15, 4, 1) := ⟨_, rfl, Nat.le_of_ble_eq_true rfl, (zz_g (zz_t1 (i := 106) rfl) rfl)⟩
set_option maxRecDepth 20000 in
theorem zfk28 : zfOk (5, 174, 4, 1) := ⟨_, rfl, Nat.le_of_ble_eq_true rfl, (zz_g (zz_t1 (i := 107) rfl) rfl)⟩
set_option maxRecDepth 20000 in
theorem zfk29 : zfOk (0, 9, 0, 0) := ⟨_, rfl, Nat.le_of_ble_eq_true rfl, (zz_g (zz_t1 (i := 119) rfl) rfl)⟩
set_option maxRecDepth 20000 in
theorem zfk30 : zfOk (5, 127, 0, 0) := ⟨_, rfl, Nat.le_of_ble_eq_true rfl, (zz_g (zz_t1 (i := 120) rfl) rfl)⟩
set_option maxRecDepth 20000 in
theorem zfk31 : zfOk (0, 15, 0, 1) := ⟨_, rfl, Nat.le_of_ble_eq_true rfl, (zz_g (zz_t1 (i := 121) rfl) rfl)⟩
set_option maxRecDepth 20000 in
theorem zfk32 : zfOk (5, 130, 0, 1) := ⟨_, rfl, Nat.le_of_ble_eq_true rfl, (zz_g (zz_t1 (i := 122) rfl) rfl)⟩
set_option maxRecDepth 20000 in
theorem zfk33 : zfOk (0, 18, 0, 2) := ⟨_, rfl, Nat.le_of_ble_eq_true rfl, (zz_g (zz_t1 (i := 123) rfl) rfl)⟩
set_option maxRecDepth 20000 in
theorem zfk34 : zfOk (5, 133, 0, 2) := ⟨_, rfl, Nat.le_of_ble_eq_true rfl, (zz_g (zz_t1 (i := 124) rfl) rfl)⟩
set_option maxRecDepth 20000 in
theorem zfk35 : zfOk (0, 21, 0, 3) := ⟨_, rfl, Nat.le_of_ble_eq_true rfl, (zz_g (zz_t1 (i := 125) rfl) rfl)⟩
set_option maxRecDepth 20000 in
theorem zfk36 : zfOk (5, 136, 0, 3) := ⟨_, rfl, Nat.le_of_ble_eq_true rfl, (zz_g (zz_t1 (i := 126) rfl) rfl)⟩
set_option maxRecDepth 20000 in
theorem zfk37 : zfOk (0, 24, 0, 4) := ⟨_, rfl, Nat.le_of_ble_eq_true rfl, (zz_g (zz_t1 (i := 127) rfl) rfl)⟩
set_option maxRecDepth 20000 in
theorem zfk38 : zfOk (5, 124, 0, 4) := ⟨_, rfl, Nat.le_of_ble_eq_true rfl, (zz_g (zz_t1 (i := 128) rfl) rfl)⟩
set_option maxRecDepth 20000 in
theorem zfk39 : zfOk (0, 27, 0, 5) := ⟨_, rfl, Nat.le_of_ble_eq_true rfl, (zz_g (zz_t1 (i := 129) rfl) rfl)⟩
set_option maxRecDepth 20000 in
theorem zfk40 : zfOk (5, 12, 5, 0) := ⟨_, rfl, Nat.le_of_ble_eq_true rfl, (zz_g (zz_t1 (i := 143) rfl) rfl)⟩
set_option maxRecDepth 20000 in
theorem zfk41 : zfOk (5, 16, 5, 1) := ⟨_, rfl, Nat.le_of_ble_eq_true rfl, (zz_g (zz_t1 (i := 144) rfl) rfl)⟩
set_option maxRecDepth 20000 in
theorem zfk42 : zfOk (5, 19, 5, 2) := ⟨_, rfl, Nat.le_of_ble_eq_true rfl, (zz_g (zz_t1 (i := 145) rfl) rfl)⟩
set_option maxRecDepth 20000 in
theorem zfk43 : zfOk (5, 22, 5, 3) := ⟨_, rfl, Nat.le_of_ble_eq_true rfl, (zz_g (zz_t1 (i := 146) rfl) rfl)⟩
set_option maxRecDepth 20000 in
theorem zfk44 : zfOk (5, 29, 5, 4) := ⟨_, rfl, Nat.le_of_ble_eq_true rfl, (zz_g (zz_t1 (i := 147) rfl) rfl)⟩
set_option maxRecDepth 20000 in
theorem zfk45 : zfOk (5, 36, 5, 5) := ⟨_, rfl, Nat.le_of_ble_eq_true rfl, (zz_g (zz_t1 (i := 148) rfl) rfl)⟩
set_option maxRecDepth 20000 in
theorem zfk46 : zfOk (5, 43, 5, 6) := ⟨_, rfl, Nat.le_of_ble_eq_true rfl, (zz_g (zz_t1 (i := 149) rfl) rfl)⟩
set_option maxRecDepth 20000 in
theorem zfk47 : zfOk (6, 7, 6, 0) := ⟨_, rfl, Nat.le_of_ble_eq_true rfl, (zz_g (zz_t3 (i := 36) rfl) rfl)⟩
set_option maxRecDepth 20000 in
theorem zfk48 : zfOk (6, 13, 6, 1) := ⟨_, rfl, Nat.le_of_ble_eq_true rfl, (zz_g (zz_t3 (i := 37) rfl) rfl)⟩
set_option maxRecDepth 20000 in
theorem zfk49 : zfOk (6, 16, 6, 2) := ⟨_, rfl, Nat.le_of_ble_eq_true rfl, (zz_g (zz_t3 (i := 38) rfl) rfl)⟩
set_option maxRecDepth 20000 in
theorem zfk50 : zfOk (6, 32, 6, 3) := ⟨_, rfl, Nat.le_of_ble_eq_true rfl, (zz_g (zz_t3 (i := 39) rfl) rfl)⟩
set_option maxRecDepth 20000 in
theorem zfk51 : zfOk (6, 19, 6, 4) := ⟨_, rfl, Nat.le_of_ble_eq_true rfl, (zz_g (zz_t3 (i := 40) rfl) rfl)⟩
set_option maxRecDepth 20000 in
theorem zfk52 : zfOk (6, 165, 6, 5) := ⟨_, rfl, Nat.le_of_ble_eq_true rfl, (zz_g (zz_t3 (i := 41) rfl) rfl)⟩
set_option maxRecDepth 20000 in
theorem zfk53 : zfOk (6, 22, 6, 6) := ⟨_, rfl, Nat.le_of_ble_eq_true rfl, (zz_g (zz_t3 (i := 42) rfl) rfl)⟩
set_option maxRecDepth 20000 in
theorem zfk54 : zfOk (6, 150, 6, 7) := ⟨_, rfl, Nat.le_of_ble_eq_true rfl, (zz_g (zz_t3 (i := 43) rfl) rfl)⟩
set_option maxRecDepth 20000 in
theorem zfk55 : zfOk (6, 25, 6, 8) := ⟨_, rfl, Nat.le_of_ble_eq_true rfl, (zz_g (zz_t3 (i := 44) rfl) rfl)⟩
set_option maxRecDepth 20000 in
theorem zfk56 : zfOk (6, 153, 6, 9) := ⟨_, rfl, Nat.le_of_ble_eq_true rfl, (zz_g (zz_t3 (i := 45) rfl) rfl)⟩
set_option maxRecDepth 20000 in
theorem zFt_ok : ∀ e ∈ zFt, zfOk e := (List.forall_mem_cons.mpr ⟨zfk0, (List.forall_mem_cons.mpr ⟨zfk1, (List.forall_mem_cons.mpr ⟨zfk2, (List.forall_mem_cons.mpr ⟨zfk3, (List.forall_mem_cons.mpr ⟨zfk4, (List.forall_mem_cons.mpr ⟨zfk5, (List.forall_mem_cons.mpr ⟨zfk6, (List.forall_mem_cons.mpr ⟨zfk7, (List.forall_mem_cons.mpr ⟨zfk8, (List.forall_mem_cons.mpr ⟨zfk9, (List.forall_mem_cons.mpr ⟨zfk10, (List.forall_mem_cons.mpr ⟨zfk11, (List.forall_mem_cons.mpr ⟨zfk12, (List.forall_mem_cons.mpr ⟨zfk13, (List.forall_mem_cons.mpr ⟨zfk14, (List.forall_mem_cons.mpr ⟨zfk15, (List.forall_mem_cons.mpr ⟨zfk16, (List.forall_mem_cons.mpr ⟨zfk17, (List.forall_mem_cons.mpr ⟨zfk18, (List.forall_mem_cons.mpr ⟨zfk19, (List.forall_mem_cons.mpr ⟨zfk20, (List.forall_mem_cons.mpr ⟨zfk21, (List.forall_mem_cons.mpr ⟨zfk22, (List.forall_mem_cons.mpr ⟨zfk23, (List.forall_mem_cons.mpr ⟨zfk24, (List.forall_mem_cons.mpr ⟨zfk25, (List.forall_mem_cons.mpr ⟨zfk26, (List.forall_mem_cons.mpr ⟨zfk27, (List.forall_mem_cons.mpr ⟨zfk28, (List.forall_mem_cons.mpr ⟨zfk29, (List.forall_mem_cons.mpr ⟨zfk30, (List.forall_mem_cons.mpr ⟨zfk31, (List.forall_mem_cons.mpr ⟨zfk32, (List.forall_mem_cons.mpr ⟨zfk33, (List.forall_mem_cons.mpr ⟨zfk34, (List.forall_mem_cons.mpr ⟨zfk35, (List.forall_mem_cons.mpr ⟨zfk36, (List.forall_mem_cons.mpr ⟨zfk37, (List.forall_mem_cons.mpr ⟨zfk38, (List.forall_mem_cons.mpr ⟨zfk39, (List.forall_mem_cons.mpr ⟨zfk40, (List.forall_mem_cons.mpr ⟨zfk41, (List.forall_mem_cons.mpr ⟨zfk42, (List.forall_mem_cons.mpr ⟨zfk43, (List.forall_mem_cons.mpr ⟨zfk44, (List.forall_mem_cons.mpr ⟨zfk45, (List.forall_mem_cons.mpr ⟨zfk46, (List.forall_mem_cons.mpr ⟨zfk47, (List.forall_mem_cons.mpr ⟨zfk48, (List.forall_mem_cons.mpr ⟨zfk49, (List.forall_mem_cons.mpr ⟨zfk50, (List.forall_mem_cons.mpr ⟨zfk51, (List.forall_mem_cons.mpr ⟨zfk52, (List.forall_mem_cons.mpr ⟨zfk53, (List.forall_mem_cons.mpr ⟨zfk54, (List.forall_mem_cons.mpr ⟨zfk55, (List.forall_mem_cons.mpr ⟨zfk56, (fun _ h => absurd h List.not_mem_nil)⟩)⟩)⟩)⟩)⟩)⟩)⟩)⟩)⟩)⟩)⟩)⟩)⟩)⟩)⟩)⟩)⟩)⟩)⟩)⟩)⟩)⟩)⟩)⟩)⟩)⟩)⟩)⟩)⟩)⟩)⟩)⟩)⟩)⟩)⟩)⟩)⟩)⟩)⟩)⟩)⟩)⟩)⟩)⟩)⟩)⟩)⟩)⟩)⟩)⟩)⟩)⟩)⟩)⟩)⟩)⟩)⟩)
def znOk (e : Nat × Nat × Nat × Nat) : Prop := ∃ q, zcl[e.2.2.1]? = some q ∧ q.2.2 = e.2.2.2 ∧ Cond.classLink (zcn e.1) e.2.1 (zcn e.2.2.1) ∈ zGW ∧ Cond.instantiable (zcn e.2.2.1) e.2.2.2 ∈ zGW ∧ Cond.initialized (zcn e.2.2.1) ∈ zGW ∧ ∃ fs, zDf[e.2.2.1]? = some fs ∧ fs.length = e.2.2.2 ∧ (fs.all fun v => decide (v = .int 0 ∨ v = .null)) = true ∧ ∀ j, j < e.2.2.2 → defaultValue (zTy e.2.2.1 j) = vp_V fs j
set_option maxRecDepth 20000 in
theorem znk0 : znOk (7, 7, 5, 7) := ⟨_, rfl, rfl, (zz_g (zz_t1 (i := 10) rfl) rfl), (zz_g (zz_t1 (i := 11) rfl) rfl), (zz_g (zz_t1 (i := 1) rfl) rfl), _, rfl, rfl, by decide +kernel, by decide +kernel⟩
set_option maxRecDepth 20000 in
theorem znk1 : znOk (5, 9, 3, 11) := ⟨_, rfl, rfl, (zz_g (zz_t1 (i := 18) rfl) rfl), (zz_g (zz_t1 (i := 19) rfl) rfl), (zz_g (zz_t1 (i := 2) rfl) rfl), _, rfl, rfl, by decide +kernel, by decide +kernel⟩
set_option maxRecDepth 20000 in
theorem znk2 : znOk (3, 9, 1, 2) := ⟨_, rfl, rfl, (zz_g (zz_t1 (i := 24) rfl) rfl), (zz_g (zz_t1 (i := 25) rfl) rfl), (zz_g (zz_t1 (i := 3) rfl) rfl), _, rfl, rfl, by decide +kernel, by decide +kernel⟩
set_option maxRecDepth 20000 in
theorem znk3 : znOk (5, 26, 2, 2) := ⟨_, rfl, rfl, (zz_g (zz_t1 (i := 82) rfl) rfl), (zz_g (zz_t1 (i := 83) rfl) rfl), (zz_g (zz_t1 (i := 4) rfl) rfl), _, rfl, rfl, by decide +kernel, by decide +kernel⟩
set_option maxRecDepth 20000 in
theorem znk4 : znOk (2, 9, 3, 11) := ⟨_, rfl, rfl, (zz_g (zz_t1 (i := 88) rfl) rfl), (zz_g (zz_t1 (i := 19) rfl) rfl), (zz_g (zz_t1 (i := 2) rfl) rfl), _, rfl, rfl, by decide +kernel, by decide +kernel⟩
set_option maxRecDepth 20000 in
theorem znk5 : znOk (5, 33, 4, 2) := ⟨_, rfl, rfl, (zz_g (zz_t1 (i := 99) rfl) rfl), (zz_g (zz_t1 (i := 100) rfl) rfl), (zz_g (zz_t1 (i := 5) rfl) rfl), _, rfl, rfl, by decide +kernel, by decide +kernel⟩
set_option maxRecDepth 20000 in
theorem znk6 : znOk (5, 40, 0, 6) := ⟨_, rfl, rfl, (zz_g (zz_t1 (i := 113) rfl) rfl), (zz_g (zz_t1 (i := 114) rfl) rfl), (zz_g (zz_t1 (i := 6) rfl) rfl), _, rfl, rfl, by decide +kernel, by decide +kernel⟩
set_option maxRecDepth 20000 in
theorem znk7 : znOk (7, 10, 6, 10) := ⟨_, rfl, rfl, (zz_g (zz_t3 (i := 30) rfl) rfl), (zz_g (zz_t3 (i := 31) rfl) rfl), (zz_g (zz_t1 (i := 7) rfl) rfl), _, rfl, rfl, by decide +kernel, by decide +kernel⟩
theorem zNt_ok : ∀ e ∈ zNt, znOk e := (List.forall_mem_cons.mpr ⟨znk0, (List.forall_mem_cons.mpr ⟨znk1, (List.forall_mem_cons.mpr ⟨znk2, (List.forall_mem_cons.mpr ⟨znk3, (List.forall_mem_cons.mpr ⟨znk4, (List.forall_mem_cons.mpr ⟨znk5, (List.forall_mem_cons.mpr ⟨znk6, (List.forall_mem_cons.mpr ⟨znk7, (fun _ h => absurd h List.not_mem_nil)⟩)⟩)⟩)⟩)⟩)⟩)⟩)⟩)
set_option maxRecDepth 20000 in
theorem zmath_max : Cond.static Lib.Math.max.name ∈ zGW ∧ Cond.initialized "java/lang/Math" ∈ zGW ∧ Cond.code Lib.Math.max.name Lib.Math.max.code 2 (some .int) ∈ zGW := ⟨(zz_g (zz_t2 (i := 124) rfl) rfl), (zz_g (zz_t1 (i := 9) rfl) rfl), (zz_g (zz_t2 (i := 125) rfl) rfl)⟩
set_option maxRecDepth 20000 in
theorem zmath_min : Cond.static Lib.Math.min.name ∈ zGW ∧ Cond.initialized "java/lang/Math" ∈ zGW ∧ Cond.code Lib.Math.min.name Lib.Math.min.code 2 (some .int) ∈ zGW := ⟨(zz_g (zz_t2 (i := 31) rfl) rfl), (zz_g (zz_t1 (i := 9) rfl) rfl), (zz_g (zz_t2 (i := 32) rfl) rfl)⟩
set_option maxRecDepth 20000 in
theorem zmath_abs : Cond.static Lib.Math.abs.name ∈ zGW ∧ Cond.initialized "java/lang/Math" ∈ zGW ∧ Cond.code Lib.Math.abs.name Lib.Math.abs.code 1 (some .int) ∈ zGW := ⟨(zz_g (zz_t2 (i := 132) rfl) rfl), (zz_g (zz_t1 (i := 9) rfl) rfl), (zz_g (zz_t2 (i := 133) rfl) rfl)⟩
set_option maxRecDepth 20000 in
theorem zcopy : Cond.native arraycopyName ∈ zGW ∧ Cond.static arraycopyName ∈ zGW ∧ Cond.initialized "java/lang/System" ∈ zGW := ⟨(zz_g (zz_t1 (i := 193) rfl) rfl), (zz_g (zz_t1 (i := 192) rfl) rfl), (zz_g (zz_t1 (i := 8) rfl) rfl)⟩
set_option maxRecDepth 20000 in
theorem zobj : Cond.instanceMethod objectInit ∈ zGW ∧ Cond.code objectInit ⟨#[0xb1]⟩ 1 none ∈ zGW := ⟨(zz_g (zz_t1 (i := 16) rfl) rfl), (zz_g (zz_t1 (i := 17) rfl) rfl)⟩
set_option maxRecDepth 20000 in
theorem zarrc : Cond.arrayClass .int ∈ zGW := (zz_g (zz_t1 (i := 37) rfl) rfl)
set_option maxRecDepth 20000 in
theorem zarro : Cond.arrayOver (.object RX3) ∈ lw_tbl := (zz_t1 (i := 89) rfl)
