def zNW : List Cond := [(Jvm.Cond.methodLinkNest "MarbleHeirs$State" (11 : Nat) ({ cls := "MarbleHeirs$Marbles", name := "<init>", desc := "()V" } : Jvm.MethodName) "MarbleHeirs"), (Jvm.Cond.methodLinkNest "MarbleHeirs" (35 : Nat) ({ cls := "MarbleHeirs$Text", name := "<init>", desc := "()V" } : Jvm.MethodName) "MarbleHeirs"), (Jvm.Cond.methodLinkNest "MarbleHeirs" (42 : Nat) ({ cls := "MarbleHeirs$BestSwap", name := "<init>", desc := "()V" } : Jvm.MethodName) "MarbleHeirs"), (Jvm.Cond.methodLinkNest "MarbleHeirs$Marbles" (39 : Nat) ({ cls := "MarbleHeirs", name := "moveBack", desc := "([III)V" } : Jvm.MethodName) "MarbleHeirs"), (Jvm.Cond.methodLinkNest "MarbleHeirs$State" (76 : Nat) ({ cls := "MarbleHeirs", name := "moveBack", desc := "([III)V" } : Jvm.MethodName) "MarbleHeirs")]
set_option maxRecDepth 20000 in
theorem zNW_in : ∀ w ∈ zNW, w ∈ lw_tbl := (List.forall_mem_cons.mpr ⟨(zz_t1 (i := 25) rfl), (List.forall_mem_cons.mpr ⟨(zz_t1 (i := 100) rfl), (List.forall_mem_cons.mpr ⟨(zz_t1 (i := 113) rfl), (List.forall_mem_cons.mpr ⟨(zz_t2 (i := 46) rfl), (List.forall_mem_cons.mpr ⟨(zz_t2 (i := 49) rfl), (fun _ h => absurd h List.not_mem_nil)⟩)⟩)⟩)⟩)⟩)
def zcOk (e : Nat × Nat × Nat × Nat) : Prop := match e.2.2.1 with
  | 0 => ∃ r, zMs[e.2.2.2]? = some r ∧ Cond.methodLink (zcn e.1) e.2.1 r.1 ∈ zGW ∧ Cond.instanceMethod r.1 ∈ zGW ∧ Cond.selects r.1.cls r.1 r.1 ∈ zGW
  | 1 => ∃ r, zMs[e.2.2.2]? = some r ∧ Cond.methodLink (zcn e.1) e.2.1 r.1 ∈ zGW ∧ Cond.static r.1 ∈ zGW
  | 2 => ∃ r, zMs[e.2.2.2]? = some r ∧ Cond.methodLink (zcn e.1) e.2.1 r.1 ∈ zGW ∧ Cond.instanceMethod r.1 ∈ zGW ∧ r.1.name = "<init>" ∧ r.2.2.2.1 = none
  | 3 => ∃ r, zMs[e.2.2.2]? = some r ∧ Cond.methodLinkNest (zcn e.1) e.2.1 r.1 RX5 ∈ zNW ∧ Cond.instanceMethod r.1 ∈ zGW ∧ r.1.name = "<init>" ∧ r.2.2.2.1 = none
  | 4 => ∃ r, zMs[e.2.2.2]? = some r ∧ Cond.methodLinkNest (zcn e.1) e.2.1 r.1 RX5 ∈ zNW ∧ Cond.static r.1 ∈ zGW
  | 5 => Cond.methodLink (zcn e.1) e.2.1 objectInit ∈ zGW
  | 6 => Cond.methodLink (zcn e.1) e.2.1 arraycopyName ∈ zGW
  | 7 => Cond.methodLink (zcn e.1) e.2.1 Lib.Math.max.name ∈ zGW
  | 8 => Cond.methodLink (zcn e.1) e.2.1 Lib.Math.min.name ∈ zGW
  | 9 => Cond.methodLink (zcn e.1) e.2.1 Lib.Math.abs.name ∈ zGW
  | _ => False
set_option maxRecDepth 20000 in
theorem zk0 : zcOk (7, 106, 2, 52) := ⟨_, rfl, (zz_g (zz_t1 (i := 11) rfl) rfl), (zz_g (zz_t1 (i := 12) rfl) rfl), rfl, rfl⟩
set_option maxRecDepth 20000 in
theorem zk1 : zcOk (5, 3, 5, 0) := (zz_g (zz_t1 (i := 14) rfl) rfl)
set_option maxRecDepth 20000 in
theorem zk2 : zcOk (5, 11, 2, 24) := ⟨_, rfl, (zz_g (zz_t1 (i := 19) rfl) rfl), (zz_g (zz_t1 (i := 20) rfl) rfl), rfl, rfl⟩
set_option maxRecDepth 20000 in
theorem zk3 : zcOk (3, 3, 5, 0) := (zz_g (zz_t1 (i := 22) rfl) rfl)
set_option maxRecDepth 20000 in
theorem zk4 : zcOk (3, 11, 3, 6) := ⟨_, rfl, (List.mem_of_getElem? (i := 0) rfl), (zz_g (zz_t1 (i := 26) rfl) rfl), rfl, rfl⟩
set_option maxRecDepth 20000 in
theorem zk5 : zcOk (1, 3, 5, 0) := (zz_g (zz_t1 (i := 28) rfl) rfl)
set_option maxRecDepth 20000 in
theorem zk6 : zcOk (5, 28, 2, 20) := ⟨_, rfl, (zz_g (zz_t1 (i := 83) rfl) rfl), (zz_g (zz_t1 (i := 84) rfl) rfl), rfl, rfl⟩
set_option maxRecDepth 20000 in
theorem zk7 : zcOk (2, 3, 5, 0) := (zz_g (zz_t1 (i := 86) rfl) rfl)
set_option maxRecDepth 20000 in
theorem zk8 : zcOk (2, 21, 2, 24) := ⟨_, rfl, (zz_g (zz_t1 (i := 89) rfl) rfl), (zz_g (zz_t1 (i := 20) rfl) rfl), rfl, rfl⟩
set_option maxRecDepth 20000 in
theorem zk9 : zcOk (5, 35, 3, 44) := ⟨_, rfl, (List.mem_of_getElem? (i := 1) rfl), (zz_g (zz_t1 (i := 101) rfl) rfl), rfl, rfl⟩
set_option maxRecDepth 20000 in
theorem zk10 : zcOk (4, 3, 5, 0) := (zz_g (zz_t1 (i := 103) rfl) rfl)
set_option maxRecDepth 20000 in
theorem zk11 : zcOk (5, 42, 3, 0) := ⟨_, rfl, (List.mem_of_getElem? (i := 2) rfl), (zz_g (zz_t1 (i := 114) rfl) rfl), rfl, rfl⟩
set_option maxRecDepth 20000 in
theorem zk12 : zcOk (0, 3, 5, 0) := (zz_g (zz_t1 (i := 116) rfl) rfl)
set_option maxRecDepth 20000 in
theorem zk13 : zcOk (7, 9, 0, 69) := ⟨_, rfl, (zz_g (zz_t1 (i := 163) rfl) rfl), (zz_g (zz_t1 (i := 164) rfl) rfl), (zz_g (zz_t1 (i := 165) rfl) rfl)⟩
set_option maxRecDepth 20000 in
theorem zk14 : zcOk (5, 159, 0, 41) := ⟨_, rfl, (zz_g (zz_t1 (i := 167) rfl) rfl), (zz_g (zz_t1 (i := 168) rfl) rfl), (zz_g (zz_t1 (i := 169) rfl) rfl)⟩
set_option maxRecDepth 20000 in
theorem zk15 : zcOk (3, 80, 0, 8) := ⟨_, rfl, (zz_g (zz_t1 (i := 171) rfl) rfl), (zz_g (zz_t1 (i := 172) rfl) rfl), (zz_g (zz_t1 (i := 173) rfl) rfl)⟩
set_option maxRecDepth 20000 in
theorem zk16 : zcOk (3, 128, 0, 42) := ⟨_, rfl, (zz_g (zz_t1 (i := 175) rfl) rfl), (zz_g (zz_t1 (i := 177) rfl) rfl), (zz_g (zz_p (i := 0) rfl) rfl)⟩
set_option maxRecDepth 20000 in
theorem zk17 : zcOk (3, 134, 0, 40) := ⟨_, rfl, (zz_g (zz_t1 (i := 179) rfl) rfl), (zz_g (zz_t1 (i := 180) rfl) rfl), (zz_g (zz_t1 (i := 181) rfl) rfl)⟩
set_option maxRecDepth 20000 in
theorem zk18 : zcOk (3, 105, 0, 13) := ⟨_, rfl, (zz_g (zz_t1 (i := 183) rfl) rfl), (zz_g (zz_t1 (i := 184) rfl) rfl), (zz_g (zz_t1 (i := 185) rfl) rfl)⟩
set_option maxRecDepth 20000 in
theorem zk19 : zcOk (3, 125, 0, 14) := ⟨_, rfl, (zz_g (zz_t1 (i := 187) rfl) rfl), (zz_g (zz_t1 (i := 188) rfl) rfl), (zz_g (zz_t1 (i := 189) rfl) rfl)⟩
set_option maxRecDepth 20000 in
theorem zk20 : zcOk (3, 72, 0, 30) := ⟨_, rfl, (zz_g (zz_t1 (i := 191) rfl) rfl), (zz_g (zz_t1 (i := 193) rfl) rfl), (zz_g (zz_p (i := 1) rfl) rfl)⟩
set_option maxRecDepth 20000 in
theorem zk21 : zcOk (3, 131, 0, 43) := ⟨_, rfl, (zz_g (zz_t1 (i := 195) rfl) rfl), (zz_g (zz_t1 (i := 196) rfl) rfl), (zz_g (zz_t1 (i := 197) rfl) rfl)⟩
set_option maxRecDepth 20000 in
theorem zk22 : zcOk (3, 87, 8, 0) := (zz_g (zz_t1 (i := 199) rfl) rfl)
set_option maxRecDepth 20000 in
theorem zk23 : zcOk (3, 137, 7, 0) := (zz_g (zz_t1 (i := 202) rfl) rfl)
set_option maxRecDepth 20000 in
theorem zk24 : zcOk (7, 103, 0, 78) := ⟨_, rfl, (zz_g (zz_t1 (i := 205) rfl) rfl), (zz_g (zz_t1 (i := 206) rfl) rfl), (zz_g (zz_t1 (i := 207) rfl) rfl)⟩
set_option maxRecDepth 20000 in
theorem zk25 : zcOk (5, 188, 0, 23) := ⟨_, rfl, (zz_g (zz_t1 (i := 209) rfl) rfl), (zz_g (zz_t1 (i := 210) rfl) rfl), (zz_g (zz_t1 (i := 211) rfl) rfl)⟩
set_option maxRecDepth 20000 in
theorem zk26 : zcOk (2, 25, 0, 25) := ⟨_, rfl, (zz_g (zz_t1 (i := 213) rfl) rfl), (zz_g (zz_t1 (i := 214) rfl) rfl), (zz_g (zz_t1 (i := 215) rfl) rfl)⟩
set_option maxRecDepth 20000 in
theorem zk27 : zcOk (3, 50, 0, 7) := ⟨_, rfl, (zz_g (zz_t1 (i := 217) rfl) rfl), (zz_g (zz_t1 (i := 218) rfl) rfl), (zz_g (zz_t1 (i := 219) rfl) rfl)⟩
set_option maxRecDepth 20000 in
theorem zk28 : zcOk (1, 18, 6, 0) := (zz_g (zz_t1 (i := 221) rfl) rfl)
set_option maxRecDepth 20000 in
theorem zk29 : zcOk (3, 54, 6, 0) := (zz_g (zz_t1 (i := 224) rfl) rfl)
set_option maxRecDepth 20000 in
theorem zk30 : zcOk (7, 110, 0, 80) := ⟨_, rfl, (zz_g (zz_t1 (i := 225) rfl) rfl), (zz_g (zz_t1 (i := 226) rfl) rfl), (zz_g (zz_t1 (i := 227) rfl) rfl)⟩
set_option maxRecDepth 20000 in
theorem zk31 : zcOk (5, 58, 0, 21) := ⟨_, rfl, (zz_g (zz_t1 (i := 229) rfl) rfl), (zz_g (zz_t1 (i := 230) rfl) rfl), (zz_g (zz_t1 (i := 231) rfl) rfl)⟩
set_option maxRecDepth 20000 in
theorem zk32 : zcOk (2, 22, 0, 22) := ⟨_, rfl, (zz_g (zz_t1 (i := 233) rfl) rfl), (zz_g (zz_t1 (i := 235) rfl) rfl), (zz_g (zz_p (i := 2) rfl) rfl)⟩
set_option maxRecDepth 20000 in
theorem zk33 : zcOk (5, 162, 0, 25) := ⟨_, rfl, (zz_g (zz_t1 (i := 237) rfl) rfl), (zz_g (zz_t1 (i := 214) rfl) rfl), (zz_g (zz_t1 (i := 215) rfl) rfl)⟩
set_option maxRecDepth 20000 in
theorem zk34 : zcOk (7, 113, 1, 95) := ⟨_, rfl, (zz_g (zz_t1 (i := 238) rfl) rfl), (zz_g (zz_t1 (i := 239) rfl) rfl)⟩
set_option maxRecDepth 20000 in
theorem zk35 : zcOk (7, 15, 1, 86) := ⟨_, rfl, (zz_g (zz_t2 (i := 2) rfl) rfl), (zz_g (zz_t2 (i := 3) rfl) rfl)⟩
set_option maxRecDepth 20000 in
theorem zk36 : zcOk (7, 117, 1, 94) := ⟨_, rfl, (zz_g (zz_t2 (i := 6) rfl) rfl), (zz_g (zz_t2 (i := 7) rfl) rfl)⟩
set_option maxRecDepth 20000 in
theorem zk37 : zcOk (7, 21, 0, 53) := ⟨_, rfl, (zz_g (zz_t2 (i := 9) rfl) rfl), (zz_g (zz_t2 (i := 10) rfl) rfl), (zz_g (zz_t2 (i := 11) rfl) rfl)⟩
set_option maxRecDepth 20000 in
theorem zk38 : zcOk (5, 47, 1, 81) := ⟨_, rfl, (zz_g (zz_t2 (i := 13) rfl) rfl), (zz_g (zz_t2 (i := 14) rfl) rfl)⟩
set_option maxRecDepth 20000 in
theorem zk39 : zcOk (5, 51, 1, 82) := ⟨_, rfl, (zz_g (zz_t2 (i := 16) rfl) rfl), (zz_g (zz_t2 (i := 17) rfl) rfl)⟩
set_option maxRecDepth 20000 in
theorem zk40 : zcOk (5, 62, 0, 28) := ⟨_, rfl, (zz_g (zz_t2 (i := 19) rfl) rfl), (zz_g (zz_t2 (i := 20) rfl) rfl), (zz_g (zz_t2 (i := 21) rfl) rfl)⟩
set_option maxRecDepth 20000 in
theorem zk41 : zcOk (7, 24, 0, 64) := ⟨_, rfl, (zz_g (zz_t2 (i := 23) rfl) rfl), (zz_g (zz_t2 (i := 24) rfl) rfl), (zz_g (zz_t2 (i := 25) rfl) rfl)⟩
set_option maxRecDepth 20000 in
theorem zk42 : zcOk (5, 66, 0, 26) := ⟨_, rfl, (zz_g (zz_t2 (i := 27) rfl) rfl), (zz_g (zz_t2 (i := 28) rfl) rfl), (zz_g (zz_t2 (i := 29) rfl) rfl)⟩
set_option maxRecDepth 20000 in
theorem zk43 : zcOk (5, 143, 0, 40) := ⟨_, rfl, (zz_g (zz_t2 (i := 31) rfl) rfl), (zz_g (zz_t1 (i := 180) rfl) rfl), (zz_g (zz_t1 (i := 181) rfl) rfl)⟩
set_option maxRecDepth 20000 in
theorem zk44 : zcOk (7, 27, 0, 54) := ⟨_, rfl, (zz_g (zz_t2 (i := 32) rfl) rfl), (zz_g (zz_t2 (i := 33) rfl) rfl), (zz_g (zz_t2 (i := 34) rfl) rfl)⟩
set_option maxRecDepth 20000 in
theorem zk45 : zcOk (5, 73, 0, 8) := ⟨_, rfl, (zz_g (zz_t2 (i := 36) rfl) rfl), (zz_g (zz_t1 (i := 172) rfl) rfl), (zz_g (zz_t1 (i := 173) rfl) rfl)⟩
set_option maxRecDepth 20000 in
theorem zk46 : zcOk (5, 79, 0, 29) := ⟨_, rfl, (zz_g (zz_t2 (i := 37) rfl) rfl), (zz_g (zz_t2 (i := 38) rfl) rfl), (zz_g (zz_t2 (i := 39) rfl) rfl)⟩
set_option maxRecDepth 20000 in
theorem zk47 : zcOk (3, 68, 0, 19) := ⟨_, rfl, (zz_g (zz_t2 (i := 41) rfl) rfl), (zz_g (zz_t2 (i := 42) rfl) rfl), (zz_g (zz_t2 (i := 43) rfl) rfl)⟩
set_option maxRecDepth 20000 in
theorem zk48 : zcOk (1, 24, 0, 8) := ⟨_, rfl, (zz_g (zz_t2 (i := 45) rfl) rfl), (zz_g (zz_t1 (i := 172) rfl) rfl), (zz_g (zz_t1 (i := 173) rfl) rfl)⟩
set_option maxRecDepth 20000 in
theorem zk49 : zcOk (1, 39, 4, 83) := ⟨_, rfl, (List.mem_of_getElem? (i := 3) rfl), (zz_g (zz_t2 (i := 47) rfl) rfl)⟩
set_option maxRecDepth 20000 in
theorem zk50 : zcOk (3, 76, 4, 83) := ⟨_, rfl, (List.mem_of_getElem? (i := 4) rfl), (zz_g (zz_t2 (i := 47) rfl) rfl)⟩
set_option maxRecDepth 20000 in
theorem zk51 : zcOk (7, 30, 0, 55) := ⟨_, rfl, (zz_g (zz_t2 (i := 50) rfl) rfl), (zz_g (zz_t2 (i := 51) rfl) rfl), (zz_g (zz_t2 (i := 52) rfl) rfl)⟩
set_option maxRecDepth 20000 in
theorem zk52 : zcOk (5, 87, 0, 14) := ⟨_, rfl, (zz_g (zz_t2 (i := 54) rfl) rfl), (zz_g (zz_t1 (i := 188) rfl) rfl), (zz_g (zz_t1 (i := 189) rfl) rfl)⟩
set_option maxRecDepth 20000 in
theorem zk53 : zcOk (7, 33, 0, 56) := ⟨_, rfl, (zz_g (zz_t2 (i := 55) rfl) rfl), (zz_g (zz_t2 (i := 56) rfl) rfl), (zz_g (zz_t2 (i := 57) rfl) rfl)⟩
set_option maxRecDepth 20000 in
theorem zk54 : zcOk (7, 36, 0, 57) := ⟨_, rfl, (zz_g (zz_t2 (i := 59) rfl) rfl), (zz_g (zz_t2 (i := 60) rfl) rfl), (zz_g (zz_t2 (i := 61) rfl) rfl)⟩
set_option maxRecDepth 20000 in
theorem zk55 : zcOk (7, 39, 0, 67) := ⟨_, rfl, (zz_g (zz_t2 (i := 63) rfl) rfl), (zz_g (zz_t2 (i := 64) rfl) rfl), (zz_g (zz_t2 (i := 65) rfl) rfl)⟩
set_option maxRecDepth 20000 in
theorem zk56 : zcOk (7, 42, 0, 58) := ⟨_, rfl, (zz_g (zz_t2 (i := 67) rfl) rfl), (zz_g (zz_t2 (i := 68) rfl) rfl), (zz_g (zz_t2 (i := 69) rfl) rfl)⟩
set_option maxRecDepth 20000 in
theorem zk57 : zcOk (7, 45, 1, 87) := ⟨_, rfl, (zz_g (zz_t2 (i := 71) rfl) rfl), (zz_g (zz_t2 (i := 72) rfl) rfl)⟩
set_option maxRecDepth 20000 in
theorem zk58 : zcOk (7, 67, 0, 59) := ⟨_, rfl, (zz_g (zz_t2 (i := 74) rfl) rfl), (zz_g (zz_t2 (i := 75) rfl) rfl), (zz_g (zz_t2 (i := 76) rfl) rfl)⟩
set_option maxRecDepth 20000 in
theorem zk59 : zcOk (5, 99, 0, 15) := ⟨_, rfl, (zz_g (zz_t2 (i := 78) rfl) rfl), (zz_g (zz_t2 (i := 79) rfl) rfl), (zz_g (zz_t2 (i := 80) rfl) rfl)⟩
set_option maxRecDepth 20000 in
theorem zk60 : zcOk (5, 103, 0, 16) := ⟨_, rfl, (zz_g (zz_t2 (i := 82) rfl) rfl), (zz_g (zz_t2 (i := 83) rfl) rfl), (zz_g (zz_t2 (i := 84) rfl) rfl)⟩
set_option maxRecDepth 20000 in
theorem zk61 : zcOk (1, 35, 0, 15) := ⟨_, rfl, (zz_g (zz_t2 (i := 86) rfl) rfl), (zz_g (zz_t2 (i := 79) rfl) rfl), (zz_g (zz_t2 (i := 80) rfl) rfl)⟩
set_option maxRecDepth 20000 in
theorem zk62 : zcOk (7, 70, 0, 66) := ⟨_, rfl, (zz_g (zz_t2 (i := 87) rfl) rfl), (zz_g (zz_t2 (i := 88) rfl) rfl), (zz_g (zz_t2 (i := 89) rfl) rfl)⟩
set_option maxRecDepth 20000 in
theorem zk63 : zcOk (5, 153, 0, 9) := ⟨_, rfl, (zz_g (zz_t2 (i := 91) rfl) rfl), (zz_g (zz_t2 (i := 92) rfl) rfl), (zz_g (zz_t2 (i := 93) rfl) rfl)⟩
set_option maxRecDepth 20000 in
theorem zk64 : zcOk (5, 149, 0, 12) := ⟨_, rfl, (zz_g (zz_t2 (i := 95) rfl) rfl), (zz_g (zz_t2 (i := 96) rfl) rfl), (zz_g (zz_t2 (i := 97) rfl) rfl)⟩
set_option maxRecDepth 20000 in
theorem zk65 : zcOk (1, 28, 0, 10) := ⟨_, rfl, (zz_g (zz_t2 (i := 99) rfl) rfl), (zz_g (zz_t2 (i := 100) rfl) rfl), (zz_g (zz_t2 (i := 101) rfl) rfl)⟩
set_option maxRecDepth 20000 in
theorem zk66 : zcOk (1, 32, 0, 11) := ⟨_, rfl, (zz_g (zz_t2 (i := 103) rfl) rfl), (zz_g (zz_t2 (i := 104) rfl) rfl), (zz_g (zz_t2 (i := 105) rfl) rfl)⟩
set_option maxRecDepth 20000 in
theorem zk67 : zcOk (7, 49, 1, 88) := ⟨_, rfl, (zz_g (zz_t2 (i := 107) rfl) rfl), (zz_g (zz_t2 (i := 108) rfl) rfl)⟩
set_option maxRecDepth 20000 in
theorem zk68 : zcOk (7, 73, 0, 60) := ⟨_, rfl, (zz_g (zz_t2 (i := 110) rfl) rfl), (zz_g (zz_t2 (i := 111) rfl) rfl), (zz_g (zz_t2 (i := 112) rfl) rfl)⟩
set_option maxRecDepth 20000 in
theorem zk69 : zcOk (5, 107, 0, 32) := ⟨_, rfl, (zz_g (zz_t2 (i := 114) rfl) rfl), (zz_g (zz_t2 (i := 115) rfl) rfl), (zz_g (zz_t2 (i := 116) rfl) rfl)⟩
set_option maxRecDepth 20000 in
theorem zk70 : zcOk (3, 93, 0, 34) := ⟨_, rfl, (zz_g (zz_t2 (i := 118) rfl) rfl), (zz_g (zz_t2 (i := 120) rfl) rfl), (zz_g (zz_p (i := 3) rfl) rfl)⟩
set_option maxRecDepth 20000 in
theorem zk71 : zcOk (3, 102, 0, 35) := ⟨_, rfl, (zz_g (zz_t2 (i := 122) rfl) rfl), (zz_g (zz_t2 (i := 124) rfl) rfl), (zz_g (zz_p (i := 4) rfl) rfl)⟩
set_option maxRecDepth 20000 in
theorem zk72 : zcOk (3, 99, 0, 17) := ⟨_, rfl, (zz_g (zz_t2 (i := 126) rfl) rfl), (zz_g (zz_t2 (i := 127) rfl) rfl), (zz_g (zz_t2 (i := 128) rfl) rfl)⟩
set_option maxRecDepth 20000 in
theorem zk73 : zcOk (3, 96, 0, 33) := ⟨_, rfl, (zz_g (zz_t2 (i := 130) rfl) rfl), (zz_g (zz_t2 (i := 132) rfl) rfl), (zz_g (zz_p (i := 5) rfl) rfl)⟩
set_option maxRecDepth 20000 in
theorem zk74 : zcOk (7, 76, 0, 68) := ⟨_, rfl, (zz_g (zz_t2 (i := 134) rfl) rfl), (zz_g (zz_t2 (i := 135) rfl) rfl), (zz_g (zz_t2 (i := 136) rfl) rfl)⟩
set_option maxRecDepth 20000 in
theorem zk75 : zcOk (7, 79, 0, 65) := ⟨_, rfl, (zz_g (zz_t2 (i := 138) rfl) rfl), (zz_g (zz_t2 (i := 139) rfl) rfl), (zz_g (zz_t2 (i := 140) rfl) rfl)⟩
set_option maxRecDepth 20000 in
theorem zk76 : zcOk (5, 146, 0, 27) := ⟨_, rfl, (zz_g (zz_t2 (i := 142) rfl) rfl), (zz_g (zz_t2 (i := 143) rfl) rfl), (zz_g (zz_t2 (i := 144) rfl) rfl)⟩
set_option maxRecDepth 20000 in
theorem zk77 : zcOk (3, 60, 0, 26) := ⟨_, rfl, (zz_g (zz_t2 (i := 146) rfl) rfl), (zz_g (zz_t2 (i := 28) rfl) rfl), (zz_g (zz_t2 (i := 29) rfl) rfl)⟩
set_option maxRecDepth 20000 in
theorem zk78 : zcOk (3, 64, 0, 9) := ⟨_, rfl, (zz_g (zz_t2 (i := 147) rfl) rfl), (zz_g (zz_t2 (i := 92) rfl) rfl), (zz_g (zz_t2 (i := 93) rfl) rfl)⟩
set_option maxRecDepth 20000 in
theorem zk79 : zcOk (7, 53, 1, 89) := ⟨_, rfl, (zz_g (zz_t2 (i := 148) rfl) rfl), (zz_g (zz_t2 (i := 149) rfl) rfl)⟩
set_option maxRecDepth 20000 in
theorem zk80 : zcOk (7, 83, 0, 61) := ⟨_, rfl, (zz_g (zz_t2 (i := 151) rfl) rfl), (zz_g (zz_t2 (i := 152) rfl) rfl), (zz_g (zz_t2 (i := 153) rfl) rfl)⟩
set_option maxRecDepth 20000 in
theorem zk81 : zcOk (5, 111, 0, 31) := ⟨_, rfl, (zz_g (zz_t2 (i := 155) rfl) rfl), (zz_g (zz_t2 (i := 156) rfl) rfl), (zz_g (zz_t2 (i := 157) rfl) rfl)⟩
set_option maxRecDepth 20000 in
theorem zk82 : zcOk (3, 83, 0, 32) := ⟨_, rfl, (zz_g (zz_t2 (i := 159) rfl) rfl), (zz_g (zz_t2 (i := 115) rfl) rfl), (zz_g (zz_t2 (i := 116) rfl) rfl)⟩
set_option maxRecDepth 20000 in
theorem zk83 : zcOk (7, 86, 0, 71) := ⟨_, rfl, (zz_g (zz_t2 (i := 160) rfl) rfl), (zz_g (zz_t2 (i := 161) rfl) rfl), (zz_g (zz_t2 (i := 162) rfl) rfl)⟩
set_option maxRecDepth 20000 in
theorem zk84 : zcOk (5, 165, 0, 85) := ⟨_, rfl, (zz_g (zz_t2 (i := 164) rfl) rfl), (zz_g (zz_t2 (i := 166) rfl) rfl), (zz_g (zz_p (i := 6) rfl) rfl)⟩
set_option maxRecDepth 20000 in
theorem zk85 : zcOk (5, 191, 0, 43) := ⟨_, rfl, (zz_g (zz_t2 (i := 168) rfl) rfl), (zz_g (zz_t1 (i := 196) rfl) rfl), (zz_g (zz_t1 (i := 197) rfl) rfl)⟩
set_option maxRecDepth 20000 in
theorem zk86 : zcOk (7, 89, 0, 70) := ⟨_, rfl, (zz_g (zz_t2 (i := 169) rfl) rfl), (zz_g (zz_t2 (i := 170) rfl) rfl), (zz_g (zz_t2 (i := 171) rfl) rfl)⟩
set_option maxRecDepth 20000 in
theorem zk87 : zcOk (7, 56, 1, 90) := ⟨_, rfl, (zz_g (zz_t2 (i := 173) rfl) rfl), (zz_g (zz_t2 (i := 174) rfl) rfl)⟩
set_option maxRecDepth 20000 in
theorem zk88 : zcOk (7, 92, 0, 72) := ⟨_, rfl, (zz_g (zz_t2 (i := 176) rfl) rfl), (zz_g (zz_t2 (i := 177) rfl) rfl), (zz_g (zz_t2 (i := 178) rfl) rfl)⟩
set_option maxRecDepth 20000 in
theorem zk89 : zcOk (5, 114, 0, 84) := ⟨_, rfl, (zz_g (zz_t2 (i := 180) rfl) rfl), (zz_g (zz_t2 (i := 182) rfl) rfl), (zz_g (zz_p (i := 7) rfl) rfl)⟩
set_option maxRecDepth 20000 in
theorem zk90 : zcOk (5, 168, 0, 38) := ⟨_, rfl, (zz_g (zz_t2 (i := 184) rfl) rfl), (zz_g (zz_t2 (i := 185) rfl) rfl), (zz_g (zz_t2 (i := 186) rfl) rfl)⟩
set_option maxRecDepth 20000 in
theorem zk91 : zcOk (3, 119, 0, 11) := ⟨_, rfl, (zz_g (zz_t2 (i := 188) rfl) rfl), (zz_g (zz_t2 (i := 104) rfl) rfl), (zz_g (zz_t2 (i := 105) rfl) rfl)⟩
set_option maxRecDepth 20000 in
theorem zk92 : zcOk (3, 122, 0, 39) := ⟨_, rfl, (zz_g (zz_t2 (i := 189) rfl) rfl), (zz_g (zz_t2 (i := 191) rfl) rfl), (zz_g (zz_p (i := 8) rfl) rfl)⟩
set_option maxRecDepth 20000 in
theorem zk93 : zcOk (7, 96, 0, 62) := ⟨_, rfl, (zz_g (zz_t2 (i := 193) rfl) rfl), (zz_g (zz_t2 (i := 194) rfl) rfl), (zz_g (zz_t2 (i := 195) rfl) rfl)⟩
set_option maxRecDepth 20000 in
theorem zk94 : zcOk (5, 118, 0, 36) := ⟨_, rfl, (zz_g (zz_t2 (i := 197) rfl) rfl), (zz_g (zz_t2 (i := 198) rfl) rfl), (zz_g (zz_t2 (i := 199) rfl) rfl)⟩
set_option maxRecDepth 20000 in
theorem zk95 : zcOk (3, 108, 0, 38) := ⟨_, rfl, (zz_g (zz_t2 (i := 201) rfl) rfl), (zz_g (zz_t2 (i := 185) rfl) rfl), (zz_g (zz_t2 (i := 186) rfl) rfl)⟩
set_option maxRecDepth 20000 in
theorem zk96 : zcOk (3, 112, 0, 37) := ⟨_, rfl, (zz_g (zz_t2 (i := 202) rfl) rfl), (zz_g (zz_t2 (i := 203) rfl) rfl), (zz_g (zz_t2 (i := 204) rfl) rfl)⟩
set_option maxRecDepth 20000 in
theorem zk97 : zcOk (3, 116, 0, 18) := ⟨_, rfl, (zz_g (zz_t2 (i := 206) rfl) rfl), (zz_g (zz_t2 (i := 207) rfl) rfl), (zz_g (zz_t2 (i := 208) rfl) rfl)⟩
set_option maxRecDepth 20000 in
theorem zk98 : zcOk (7, 60, 0, 63) := ⟨_, rfl, (zz_g (zz_t2 (i := 210) rfl) rfl), (zz_g (zz_t2 (i := 211) rfl) rfl), (zz_g (zz_t2 (i := 212) rfl) rfl)⟩
set_option maxRecDepth 20000 in
theorem zk99 : zcOk (5, 121, 0, 2) := ⟨_, rfl, (zz_g (zz_t2 (i := 214) rfl) rfl), (zz_g (zz_t2 (i := 215) rfl) rfl), (zz_g (zz_t2 (i := 216) rfl) rfl)⟩
set_option maxRecDepth 20000 in
theorem zk100 : zcOk (0, 39, 0, 8) := ⟨_, rfl, (zz_g (zz_t2 (i := 218) rfl) rfl), (zz_g (zz_t1 (i := 172) rfl) rfl), (zz_g (zz_t1 (i := 173) rfl) rfl)⟩
set_option maxRecDepth 20000 in
theorem zk101 : zcOk (0, 45, 0, 3) := ⟨_, rfl, (zz_g (zz_t2 (i := 219) rfl) rfl), (zz_g (zz_t2 (i := 221) rfl) rfl), (zz_g (zz_p (i := 9) rfl) rfl)⟩
set_option maxRecDepth 20000 in
theorem zk102 : zcOk (0, 49, 0, 10) := ⟨_, rfl, (zz_g (zz_t2 (i := 223) rfl) rfl), (zz_g (zz_t2 (i := 100) rfl) rfl), (zz_g (zz_t2 (i := 101) rfl) rfl)⟩
set_option maxRecDepth 20000 in
theorem zk103 : zcOk (0, 57, 1, 4) := ⟨_, rfl, (zz_g (zz_t2 (i := 224) rfl) rfl), (zz_g (zz_t2 (i := 225) rfl) rfl)⟩
set_option maxRecDepth 20000 in
theorem zk104 : zcOk (0, 60, 7, 0) := (zz_g (zz_t2 (i := 227) rfl) rfl)
set_option maxRecDepth 20000 in
theorem zk105 : zcOk (0, 65, 0, 5) := ⟨_, rfl, (zz_g (zz_t2 (i := 228) rfl) rfl), (zz_g (zz_t2 (i := 230) rfl) rfl), (zz_g (zz_p (i := 10) rfl) rfl)⟩
set_option maxRecDepth 20000 in
theorem zk106 : zcOk (0, 69, 0, 11) := ⟨_, rfl, (zz_g (zz_t2 (i := 232) rfl) rfl), (zz_g (zz_t2 (i := 104) rfl) rfl), (zz_g (zz_t2 (i := 105) rfl) rfl)⟩
set_option maxRecDepth 20000 in
theorem zk107 : zcOk (0, 72, 9, 0) := (zz_g (zz_t2 (i := 233) rfl) rfl)
set_option maxRecDepth 20000 in
theorem zk108 : zcOk (0, 75, 0, 38) := ⟨_, rfl, (zz_g (zz_t2 (i := 236) rfl) rfl), (zz_g (zz_t2 (i := 185) rfl) rfl), (zz_g (zz_t2 (i := 186) rfl) rfl)⟩
set_option maxRecDepth 20000 in
theorem zk109 : zcOk (5, 139, 0, 37) := ⟨_, rfl, (zz_g (zz_t2 (i := 237) rfl) rfl), (zz_g (zz_t2 (i := 203) rfl) rfl), (zz_g (zz_t2 (i := 204) rfl) rfl)⟩
set_option maxRecDepth 20000 in
theorem zk110 : zcOk (7, 64, 0, 73) := ⟨_, rfl, (zz_g (zz_t2 (i := 238) rfl) rfl), (zz_g (zz_t2 (i := 239) rfl) rfl), (zz_g (zz_t3 (i := 0) rfl) rfl)⟩
set_option maxRecDepth 20000 in
theorem zk111 : zcOk (5, 171, 0, 1) := ⟨_, rfl, (zz_g (zz_t3 (i := 2) rfl) rfl), (zz_g (zz_t3 (i := 3) rfl) rfl), (zz_g (zz_t3 (i := 4) rfl) rfl)⟩
set_option maxRecDepth 20000 in
theorem zk112 : zcOk (7, 107, 1, 93) := ⟨_, rfl, (zz_g (zz_t3 (i := 6) rfl) rfl), (zz_g (zz_t3 (i := 7) rfl) rfl)⟩
set_option maxRecDepth 20000 in
theorem zk113 : zcOk (7, 99, 1, 91) := ⟨_, rfl, (zz_g (zz_t3 (i := 9) rfl) rfl), (zz_g (zz_t3 (i := 10) rfl) rfl)⟩
set_option maxRecDepth 20000 in
theorem zk114 : zcOk (7, 121, 1, 92) := ⟨_, rfl, (zz_g (zz_t3 (i := 12) rfl) rfl), (zz_g (zz_t3 (i := 13) rfl) rfl)⟩
theorem zz_allc {a b : List (Nat × Nat × Nat × Nat)} {P : (Nat × Nat × Nat × Nat) → Prop} (ha : ∀ r ∈ a, P r) (hb : ∀ r ∈ b, P r) : ∀ r ∈ a ++ b, P r := fun r h => (List.mem_append.mp h).elim (ha r) (hb r)
def zCt0 : List (Nat × Nat × Nat × Nat) := [(7, 106, 2, 52), (5, 3, 5, 0), (5, 11, 2, 24), (3, 3, 5, 0), (3, 11, 3, 6), (1, 3, 5, 0), (5, 28, 2, 20), (2, 3, 5, 0), (2, 21, 2, 24), (5, 35, 3, 44), (4, 3, 5, 0), (5, 42, 3, 0), (0, 3, 5, 0), (7, 9, 0, 69), (5, 159, 0, 41), (3, 80, 0, 8), (3, 128, 0, 42), (3, 134, 0, 40), (3, 105, 0, 13), (3, 125, 0, 14), (3, 72, 0, 30), (3, 131, 0, 43), (3, 87, 8, 0), (3, 137, 7, 0), (7, 103, 0, 78), (5, 188, 0, 23), (2, 25, 0, 25), (3, 50, 0, 7), (1, 18, 6, 0), (3, 54, 6, 0)]
theorem zCt0_ok : ∀ e ∈ zCt0, zcOk e := (List.forall_mem_cons.mpr ⟨zk0, (List.forall_mem_cons.mpr ⟨zk1, (List.forall_mem_cons.mpr ⟨zk2, (List.forall_mem_cons.mpr ⟨zk3, (List.forall_mem_cons.mpr ⟨zk4, (List.forall_mem_cons.mpr ⟨zk5, (List.forall_mem_cons.mpr ⟨zk6, (List.forall_mem_cons.mpr ⟨zk7, (List.forall_mem_cons.mpr ⟨zk8, (List.forall_mem_cons.mpr ⟨zk9, (List.forall_mem_cons.mpr ⟨zk10, (List.forall_mem_cons.mpr ⟨zk11, (List.forall_mem_cons.mpr ⟨zk12, (List.forall_mem_cons.mpr ⟨zk13, (List.forall_mem_cons.mpr ⟨zk14, (List.forall_mem_cons.mpr ⟨zk15, (List.forall_mem_cons.mpr ⟨zk16, (List.forall_mem_cons.mpr ⟨zk17, (List.forall_mem_cons.mpr ⟨zk18, (List.forall_mem_cons.mpr ⟨zk19, (List.forall_mem_cons.mpr ⟨zk20, (List.forall_mem_cons.mpr ⟨zk21, (List.forall_mem_cons.mpr ⟨zk22, (List.forall_mem_cons.mpr ⟨zk23, (List.forall_mem_cons.mpr ⟨zk24, (List.forall_mem_cons.mpr ⟨zk25, (List.forall_mem_cons.mpr ⟨zk26, (List.forall_mem_cons.mpr ⟨zk27, (List.forall_mem_cons.mpr ⟨zk28, (List.forall_mem_cons.mpr ⟨zk29, (fun _ h => absurd h List.not_mem_nil)⟩)⟩)⟩)⟩)⟩)⟩)⟩)⟩)⟩)⟩)⟩)⟩)⟩)⟩)⟩)⟩)⟩)⟩)⟩)⟩)⟩)⟩)⟩)⟩)⟩)⟩)⟩)⟩)⟩)⟩)
def zCt1 : List (Nat × Nat × Nat × Nat) := [(7, 110, 0, 80), (5, 58, 0, 21), (2, 22, 0, 22), (5, 162, 0, 25), (7, 113, 1, 95), (7, 15, 1, 86), (7, 117, 1, 94), (7, 21, 0, 53), (5, 47, 1, 81), (5, 51, 1, 82), (5, 62, 0, 28), (7, 24, 0, 64), (5, 66, 0, 26), (5, 143, 0, 40), (7, 27, 0, 54), (5, 73, 0, 8), (5, 79, 0, 29), (3, 68, 0, 19), (1, 24, 0, 8), (1, 39, 4, 83), (3, 76, 4, 83), (7, 30, 0, 55), (5, 87, 0, 14), (7, 33, 0, 56), (7, 36, 0, 57), (7, 39, 0, 67), (7, 42, 0, 58), (7, 45, 1, 87), (7, 67, 0, 59), (5, 99, 0, 15)]
theorem zCt1_ok : ∀ e ∈ zCt1, zcOk e := (List.forall_mem_cons.mpr ⟨zk30, (List.forall_mem_cons.mpr ⟨zk31, (List.forall_mem_cons.mpr ⟨zk32, (List.forall_mem_cons.mpr ⟨zk33, (List.forall_mem_cons.mpr ⟨zk34, (List.forall_mem_cons.mpr ⟨zk35, (List.forall_mem_cons.mpr ⟨zk36, (List.forall_mem_cons.mpr ⟨zk37, (List.forall_mem_cons.mpr ⟨zk38, (List.forall_mem_cons.mpr ⟨zk39, (List.forall_mem_cons.mpr ⟨zk40, (List.forall_mem_cons.mpr ⟨zk41, (List.forall_mem_cons.mpr ⟨zk42, (List.forall_mem_cons.mpr ⟨zk43, (List.forall_mem_cons.mpr ⟨zk44, (List.forall_mem_cons.mpr ⟨zk45, (List.forall_mem_cons.mpr ⟨zk46, (List.forall_mem_cons.mpr ⟨zk47, (List.forall_mem_cons.mpr ⟨zk48, (List.forall_mem_cons.mpr ⟨zk49, (List.forall_mem_cons.mpr ⟨zk50, (List.forall_mem_cons.mpr ⟨zk51, (List.forall_mem_cons.mpr ⟨zk52, (List.forall_mem_cons.mpr ⟨zk53, (List.forall_mem_cons.mpr ⟨zk54, (List.forall_mem_cons.mpr ⟨zk55, (List.forall_mem_cons.mpr ⟨zk56, (List.forall_mem_cons.mpr ⟨zk57, (List.forall_mem_cons.mpr ⟨zk58, (List.forall_mem_cons.mpr ⟨zk59, (fun _ h => absurd h List.not_mem_nil)⟩)⟩)⟩)⟩)⟩)⟩)⟩)⟩)⟩)⟩)⟩)⟩)⟩)⟩)⟩)⟩)⟩)⟩)⟩)⟩)⟩)⟩)⟩)⟩)⟩)⟩)⟩)⟩)⟩)⟩)
def zCt2 : List (Nat × Nat × Nat × Nat) := [(5, 103, 0, 16), (1, 35, 0, 15), (7, 70, 0, 66), (5, 153, 0, 9), (5, 149, 0, 12), (1, 28, 0, 10), (1, 32, 0, 11), (7, 49, 1, 88), (7, 73, 0, 60), (5, 107, 0, 32), (3, 93, 0, 34), (3, 102, 0, 35), (3, 99, 0, 17), (3, 96, 0, 33), (7, 76, 0, 68), (7, 79, 0, 65), (5, 146, 0, 27), (3, 60, 0, 26), (3, 64, 0, 9), (7, 53, 1, 89), (7, 83, 0, 61), (5, 111, 0, 31), (3, 83, 0, 32), (7, 86, 0, 71), (5, 165, 0, 85), (5, 191, 0, 43), (7, 89, 0, 70), (7, 56, 1, 90), (7, 92, 0, 72), (5, 114, 0, 84)]
theorem zCt2_ok : ∀ e ∈ zCt2, zcOk e := (List.forall_mem_cons.mpr ⟨zk60, (List.forall_mem_cons.mpr ⟨zk61, (List.forall_mem_cons.mpr ⟨zk62, (List.forall_mem_cons.mpr ⟨zk63, (List.forall_mem_cons.mpr ⟨zk64, (List.forall_mem_cons.mpr ⟨zk65, (List.forall_mem_cons.mpr ⟨zk66, (List.forall_mem_cons.mpr ⟨zk67, (List.forall_mem_cons.mpr ⟨zk68, (List.forall_mem_cons.mpr ⟨zk69, (List.forall_mem_cons.mpr ⟨zk70, (List.forall_mem_cons.mpr ⟨zk71, (List.forall_mem_cons.mpr ⟨zk72, (List.forall_mem_cons.mpr ⟨zk73, (List.forall_mem_cons.mpr ⟨zk74, (List.forall_mem_cons.mpr ⟨zk75, (List.forall_mem_cons.mpr ⟨zk76, (List.forall_mem_cons.mpr ⟨zk77, (List.forall_mem_cons.mpr ⟨zk78, (List.forall_mem_cons.mpr ⟨zk79, (List.forall_mem_cons.mpr ⟨zk80, (List.forall_mem_cons.mpr ⟨zk81, (List.forall_mem_cons.mpr ⟨zk82, (List.forall_mem_cons.mpr ⟨zk83, (List.forall_mem_cons.mpr ⟨zk84, (List.forall_mem_cons.mpr ⟨zk85, (List.forall_mem_cons.mpr ⟨zk86, (List.forall_mem_cons.mpr ⟨zk87, (List.forall_mem_cons.mpr ⟨zk88, (List.forall_mem_cons.mpr ⟨zk89, (fun _ h => absurd h List.not_mem_nil)⟩)⟩)⟩)⟩)⟩)⟩)⟩)⟩)⟩)⟩)⟩)⟩)⟩)⟩)⟩)⟩)⟩)⟩)⟩)⟩)⟩)⟩)⟩)⟩)⟩)⟩)⟩)⟩)⟩)⟩)
def zCt3 : List (Nat × Nat × Nat × Nat) := [(5, 168, 0, 38), (3, 119, 0, 11), (3, 122, 0, 39), (7, 96, 0, 62), (5, 118, 0, 36), (3, 108, 0, 38), (3, 112, 0, 37), (3, 116, 0, 18), (7, 60, 0, 63), (5, 121, 0, 2), (0, 39, 0, 8), (0, 45, 0, 3), (0, 49, 0, 10), (0, 57, 1, 4), (0, 60, 7, 0), (0, 65, 0, 5), (0, 69, 0, 11), (0, 72, 9, 0), (0, 75, 0, 38), (5, 139, 0, 37), (7, 64, 0, 73), (5, 171, 0, 1), (7, 107, 1, 93), (7, 99, 1, 91), (7, 121, 1, 92)]
theorem zCt3_ok : ∀ e ∈ zCt3, zcOk e := (List.forall_mem_cons.mpr ⟨zk90, (List.forall_mem_cons.mpr ⟨zk91, (List.forall_mem_cons.mpr ⟨zk92, (List.forall_mem_cons.mpr ⟨zk93, (List.forall_mem_cons.mpr ⟨zk94, (List.forall_mem_cons.mpr ⟨zk95, (List.forall_mem_cons.mpr ⟨zk96, (List.forall_mem_cons.mpr ⟨zk97, (List.forall_mem_cons.mpr ⟨zk98, (List.forall_mem_cons.mpr ⟨zk99, (List.forall_mem_cons.mpr ⟨zk100, (List.forall_mem_cons.mpr ⟨zk101, (List.forall_mem_cons.mpr ⟨zk102, (List.forall_mem_cons.mpr ⟨zk103, (List.forall_mem_cons.mpr ⟨zk104, (List.forall_mem_cons.mpr ⟨zk105, (List.forall_mem_cons.mpr ⟨zk106, (List.forall_mem_cons.mpr ⟨zk107, (List.forall_mem_cons.mpr ⟨zk108, (List.forall_mem_cons.mpr ⟨zk109, (List.forall_mem_cons.mpr ⟨zk110, (List.forall_mem_cons.mpr ⟨zk111, (List.forall_mem_cons.mpr ⟨zk112, (List.forall_mem_cons.mpr ⟨zk113, (List.forall_mem_cons.mpr ⟨zk114, (fun _ h => absurd h List.not_mem_nil)⟩)⟩)⟩)⟩)⟩)⟩)⟩)⟩)⟩)⟩)⟩)⟩)⟩)⟩)⟩)⟩)⟩)⟩)⟩)⟩)⟩)⟩)⟩)⟩)⟩)
theorem zCt_eq : zCt = zCt0 ++ zCt1 ++ zCt2 ++ zCt3 := by rfl
theorem zCt_ok : ∀ e ∈ zCt, zcOk e := by rw [zCt_eq]; exact (zz_allc (zz_allc (zz_allc zCt0_ok zCt1_ok) zCt2_ok) zCt3_ok)
def zfOk (e : Nat × Nat × Nat × Nat) : Prop := ∃ q, zcl[e.2.2.1]? = some q ∧ e.2.2.2 < q.2.2 ∧ Cond.fieldLink (zcn e.1) e.2.1 (zcn e.2.2.1) (zT e.2.2.1 e.2.2.2).2.1 (zT e.2.2.1 e.2.2.2).2.2.1 ∈ zGW
set_option maxRecDepth 20000 in
theorem zfk0 : zfOk (1, 9, 1, 0) := ⟨_, rfl, Nat.le_of_ble_eq_true rfl, (zz_g (zz_t1 (i := 29) rfl) rfl)⟩
set_option maxRecDepth 20000 in
theorem zfk1 : zfOk (1, 15, 1, 1) := ⟨_, rfl, Nat.le_of_ble_eq_true rfl, (zz_g (zz_t1 (i := 30) rfl) rfl)⟩
set_option maxRecDepth 20000 in
theorem zfk2 : zfOk (3, 12, 3, 0) := ⟨_, rfl, Nat.le_of_ble_eq_true rfl, (zz_g (zz_t1 (i := 37) rfl) rfl)⟩
set_option maxRecDepth 20000 in
theorem zfk3 : zfOk (5, 69, 3, 0) := ⟨_, rfl, Nat.le_of_ble_eq_true rfl, (zz_g (zz_t1 (i := 38) rfl) rfl)⟩
set_option maxRecDepth 20000 in
theorem zfk4 : zfOk (0, 35, 3, 0) := ⟨_, rfl, Nat.le_of_ble_eq_true rfl, (zz_g (zz_t1 (i := 39) rfl) rfl)⟩
set_option maxRecDepth 20000 in
theorem zfk5 : zfOk (3, 18, 3, 1) := ⟨_, rfl, Nat.le_of_ble_eq_true rfl, (zz_g (zz_t1 (i := 40) rfl) rfl)⟩
set_option maxRecDepth 20000 in
theorem zfk6 : zfOk (5, 54, 3, 1) := ⟨_, rfl, Nat.le_of_ble_eq_true rfl, (zz_g (zz_t1 (i := 41) rfl) rfl)⟩
set_option maxRecDepth 20000 in
theorem zfk7 : zfOk (0, 30, 3, 1) := ⟨_, rfl, Nat.le_of_ble_eq_true rfl, (zz_g (zz_t1 (i := 42) rfl) rfl)⟩
set_option maxRecDepth 20000 in
theorem zfk8 : zfOk (3, 22, 3, 2) := ⟨_, rfl, Nat.le_of_ble_eq_true rfl, (zz_g (zz_t1 (i := 43) rfl) rfl)⟩
set_option maxRecDepth 20000 in
theorem zfk9 : zfOk (3, 26, 3, 3) := ⟨_, rfl, Nat.le_of_ble_eq_true rfl, (zz_g (zz_t1 (i := 44) rfl) rfl)⟩
set_option maxRecDepth 20000 in
theorem zfk10 : zfOk (0, 53, 3, 3) := ⟨_, rfl, Nat.le_of_ble_eq_true rfl, (zz_g (zz_t1 (i := 45) rfl) rfl)⟩
set_option maxRecDepth 20000 in
theorem zfk11 : zfOk (5, 83, 3, 3) := ⟨_, rfl, Nat.le_of_ble_eq_true rfl, (zz_g (zz_t1 (i := 46) rfl) rfl)⟩
set_option maxRecDepth 20000 in
theorem zfk12 : zfOk (3, 29, 3, 4) := ⟨_, rfl, Nat.le_of_ble_eq_true rfl, (zz_g (zz_t1 (i := 47) rfl) rfl)⟩
set_option maxRecDepth 20000 in
theorem zfk13 : zfOk (5, 156, 3, 4) := ⟨_, rfl, Nat.le_of_ble_eq_true rfl, (zz_g (zz_t1 (i := 48) rfl) rfl)⟩
set_option maxRecDepth 20000 in
theorem zfk14 : zfOk (3, 32, 3, 5) := ⟨_, rfl, Nat.le_of_ble_eq_true rfl, (zz_g (zz_t1 (i := 49) rfl) rfl)⟩
set_option maxRecDepth 20000 in
theorem zfk15 : zfOk (5, 96, 3, 5) := ⟨_, rfl, Nat.le_of_ble_eq_true rfl, (zz_g (zz_t1 (i := 50) rfl) rfl)⟩
set_option maxRecDepth 20000 in
theorem zfk16 : zfOk (3, 35, 3, 6) := ⟨_, rfl, Nat.le_of_ble_eq_true rfl, (zz_g (zz_t1 (i := 51) rfl) rfl)⟩
set_option maxRecDepth 20000 in
theorem zfk17 : zfOk (5, 90, 3, 6) := ⟨_, rfl, Nat.le_of_ble_eq_true rfl, (zz_g (zz_t1 (i := 52) rfl) rfl)⟩
set_option maxRecDepth 20000 in
theorem zfk18 : zfOk (3, 38, 3, 7) := ⟨_, rfl, Nat.le_of_ble_eq_true rfl, (zz_g (zz_t1 (i := 53) rfl) rfl)⟩
set_option maxRecDepth 20000 in
theorem zfk19 : zfOk (5, 93, 3, 7) := ⟨_, rfl, Nat.le_of_ble_eq_true rfl, (zz_g (zz_t1 (i := 54) rfl) rfl)⟩
set_option maxRecDepth 20000 in
theorem zfk20 : zfOk (3, 41, 3, 8) := ⟨_, rfl, Nat.le_of_ble_eq_true rfl, (zz_g (zz_t1 (i := 55) rfl) rfl)⟩
set_option maxRecDepth 20000 in
theorem zfk21 : zfOk (3, 44, 3, 9) := ⟨_, rfl, Nat.le_of_ble_eq_true rfl, (zz_g (zz_t1 (i := 56) rfl) rfl)⟩
set_option maxRecDepth 20000 in
theorem zfk22 : zfOk (3, 47, 3, 10) := ⟨_, rfl, Nat.le_of_ble_eq_true rfl, (zz_g (zz_t1 (i := 57) rfl) rfl)⟩
set_option maxRecDepth 20000 in
theorem zfk23 : zfOk (2, 11, 2, 0) := ⟨_, rfl, Nat.le_of_ble_eq_true rfl, (zz_g (zz_t1 (i := 90) rfl) rfl)⟩
set_option maxRecDepth 20000 in
theorem zfk24 : zfOk (2, 17, 2, 1) := ⟨_, rfl, Nat.le_of_ble_eq_true rfl, (zz_g (zz_t1 (i := 91) rfl) rfl)⟩
set_option maxRecDepth 20000 in
theorem zfk25 : zfOk (5, 186, 2, 1) := ⟨_, rfl, Nat.le_of_ble_eq_true rfl, (zz_g (zz_t1 (i := 92) rfl) rfl)⟩
set_option maxRecDepth 20000 in
theorem zfk26 : zfOk (4, 9, 4, 0) := ⟨_, rfl, Nat.le_of_ble_eq_true rfl, (zz_g (zz_t1 (i := 104) rfl) rfl)⟩
set_option maxRecDepth 20000 in
theorem zfk27 : zfOk (4, 15, 4, 1) := ⟨_, rfl, Nat.le_of_ble_eq_true rfl, (zz_g (zz_t1 (i := 105) rfl) rfl)⟩
set_option maxRecDepth 20000 in
theorem zfk28 : zfOk (0, 9, 0, 0) := ⟨_, rfl, Nat.le_of_ble_eq_true rfl, (zz_g (zz_t1 (i := 117) rfl) rfl)⟩
set_option maxRecDepth 20000 in
theorem zfk29 : zfOk (5, 127, 0, 0) := ⟨_, rfl, Nat.le_of_ble_eq_true rfl, (zz_g (zz_t1 (i := 118) rfl) rfl)⟩
set_option maxRecDepth 20000 in
theorem zfk30 : zfOk (0, 15, 0, 1) := ⟨_, rfl, Nat.le_of_ble_eq_true rfl, (zz_g (zz_t1 (i := 119) rfl) rfl)⟩
set_option maxRecDepth 20000 in
theorem zfk31 : zfOk (5, 130, 0, 1) := ⟨_, rfl, Nat.le_of_ble_eq_true rfl, (zz_g (zz_t1 (i := 120) rfl) rfl)⟩
set_option maxRecDepth 20000 in
theorem zfk32 : zfOk (0, 18, 0, 2) := ⟨_, rfl, Nat.le_of_ble_eq_true rfl, (zz_g (zz_t1 (i := 121) rfl) rfl)⟩
set_option maxRecDepth 20000 in
theorem zfk33 : zfOk (5, 133, 0, 2) := ⟨_, rfl, Nat.le_of_ble_eq_true rfl, (zz_g (zz_t1 (i := 122) rfl) rfl)⟩
set_option maxRecDepth 20000 in
theorem zfk34 : zfOk (0, 21, 0, 3) := ⟨_, rfl, Nat.le_of_ble_eq_true rfl, (zz_g (zz_t1 (i := 123) rfl) rfl)⟩
set_option maxRecDepth 20000 in
theorem zfk35 : zfOk (5, 136, 0, 3) := ⟨_, rfl, Nat.le_of_ble_eq_true rfl, (zz_g (zz_t1 (i := 124) rfl) rfl)⟩
set_option maxRecDepth 20000 in
theorem zfk36 : zfOk (0, 24, 0, 4) := ⟨_, rfl, Nat.le_of_ble_eq_true rfl, (zz_g (zz_t1 (i := 125) rfl) rfl)⟩
set_option maxRecDepth 20000 in
theorem zfk37 : zfOk (5, 124, 0, 4) := ⟨_, rfl, Nat.le_of_ble_eq_true rfl, (zz_g (zz_t1 (i := 126) rfl) rfl)⟩
set_option maxRecDepth 20000 in
theorem zfk38 : zfOk (0, 27, 0, 5) := ⟨_, rfl, Nat.le_of_ble_eq_true rfl, (zz_g (zz_t1 (i := 127) rfl) rfl)⟩
set_option maxRecDepth 20000 in
theorem zfk39 : zfOk (5, 12, 5, 0) := ⟨_, rfl, Nat.le_of_ble_eq_true rfl, (zz_g (zz_t1 (i := 141) rfl) rfl)⟩
set_option maxRecDepth 20000 in
theorem zfk40 : zfOk (5, 16, 5, 1) := ⟨_, rfl, Nat.le_of_ble_eq_true rfl, (zz_g (zz_t1 (i := 142) rfl) rfl)⟩
set_option maxRecDepth 20000 in
theorem zfk41 : zfOk (5, 19, 5, 2) := ⟨_, rfl, Nat.le_of_ble_eq_true rfl, (zz_g (zz_t1 (i := 143) rfl) rfl)⟩
set_option maxRecDepth 20000 in
theorem zfk42 : zfOk (5, 22, 5, 3) := ⟨_, rfl, Nat.le_of_ble_eq_true rfl, (zz_g (zz_t1 (i := 144) rfl) rfl)⟩
set_option maxRecDepth 20000 in
theorem zfk43 : zfOk (5, 29, 5, 4) := ⟨_, rfl, Nat.le_of_ble_eq_true rfl, (zz_g (zz_t1 (i := 145) rfl) rfl)⟩
set_option maxRecDepth 20000 in
theorem zfk44 : zfOk (5, 36, 5, 5) := ⟨_, rfl, Nat.le_of_ble_eq_true rfl, (zz_g (zz_t1 (i := 146) rfl) rfl)⟩
set_option maxRecDepth 20000 in
theorem zfk45 : zfOk (5, 43, 5, 6) := ⟨_, rfl, Nat.le_of_ble_eq_true rfl, (zz_g (zz_t1 (i := 147) rfl) rfl)⟩
set_option maxRecDepth 20000 in
theorem zFt_ok : ∀ e ∈ zFt, zfOk e := (List.forall_mem_cons.mpr ⟨zfk0, (List.forall_mem_cons.mpr ⟨zfk1, (List.forall_mem_cons.mpr ⟨zfk2, (List.forall_mem_cons.mpr ⟨zfk3, (List.forall_mem_cons.mpr ⟨zfk4, (List.forall_mem_cons.mpr ⟨zfk5, (List.forall_mem_cons.mpr ⟨zfk6, (List.forall_mem_cons.mpr ⟨zfk7, (List.forall_mem_cons.mpr ⟨zfk8, (List.forall_mem_cons.mpr ⟨zfk9, (List.forall_mem_cons.mpr ⟨zfk10, (List.forall_mem_cons.mpr ⟨zfk11, (List.forall_mem_cons.mpr ⟨zfk12, (List.forall_mem_cons.mpr ⟨zfk13, (List.forall_mem_cons.mpr ⟨zfk14, (List.forall_mem_cons.mpr ⟨zfk15, (List.forall_mem_cons.mpr ⟨zfk16, (List.forall_mem_cons.mpr ⟨zfk17, (List.forall_mem_cons.mpr ⟨zfk18, (List.forall_mem_cons.mpr ⟨zfk19, (List.forall_mem_cons.mpr ⟨zfk20, (List.forall_mem_cons.mpr ⟨zfk21, (List.forall_mem_cons.mpr ⟨zfk22, (List.forall_mem_cons.mpr ⟨zfk23, (List.forall_mem_cons.mpr ⟨zfk24, (List.forall_mem_cons.mpr ⟨zfk25, (List.forall_mem_cons.mpr ⟨zfk26, (List.forall_mem_cons.mpr ⟨zfk27, (List.forall_mem_cons.mpr ⟨zfk28, (List.forall_mem_cons.mpr ⟨zfk29, (List.forall_mem_cons.mpr ⟨zfk30, (List.forall_mem_cons.mpr ⟨zfk31, (List.forall_mem_cons.mpr ⟨zfk32, (List.forall_mem_cons.mpr ⟨zfk33, (List.forall_mem_cons.mpr ⟨zfk34, (List.forall_mem_cons.mpr ⟨zfk35, (List.forall_mem_cons.mpr ⟨zfk36, (List.forall_mem_cons.mpr ⟨zfk37, (List.forall_mem_cons.mpr ⟨zfk38, (List.forall_mem_cons.mpr ⟨zfk39, (List.forall_mem_cons.mpr ⟨zfk40, (List.forall_mem_cons.mpr ⟨zfk41, (List.forall_mem_cons.mpr ⟨zfk42, (List.forall_mem_cons.mpr ⟨zfk43, (List.forall_mem_cons.mpr ⟨zfk44, (List.forall_mem_cons.mpr ⟨zfk45, (fun _ h => absurd h List.not_mem_nil)⟩)⟩)⟩)⟩)⟩)⟩)⟩)⟩)⟩)⟩)⟩)⟩)⟩)⟩)⟩)⟩)⟩)⟩)⟩)⟩)⟩)⟩)⟩)⟩)⟩)⟩)⟩)⟩)⟩)⟩)⟩)⟩)⟩)⟩)⟩)⟩)⟩)⟩)⟩)⟩)⟩)⟩)⟩)⟩)⟩)⟩)
def znOk (e : Nat × Nat × Nat × Nat) : Prop := ∃ q, zcl[e.2.2.1]? = some q ∧ q.2.2 = e.2.2.2 ∧ Cond.classLink (zcn e.1) e.2.1 (zcn e.2.2.1) ∈ zGW ∧ Cond.instantiable (zcn e.2.2.1) e.2.2.2 ∈ zGW ∧ Cond.initialized (zcn e.2.2.1) ∈ zGW ∧ ∃ fs, zDf[e.2.2.1]? = some fs ∧ fs.length = e.2.2.2 ∧ (fs.all fun v => decide (v = .int 0 ∨ v = .null)) = true ∧ ∀ j, j < e.2.2.2 → defaultValue (zTy e.2.2.1 j) = vp_V fs j
set_option maxRecDepth 20000 in
theorem znk0 : znOk (7, 10, 5, 7) := ⟨_, rfl, rfl, (zz_g (zz_t1 (i := 9) rfl) rfl), (zz_g (zz_t1 (i := 10) rfl) rfl), (zz_g (zz_t1 (i := 1) rfl) rfl), _, rfl, rfl, by decide +kernel, by decide +kernel⟩
set_option maxRecDepth 20000 in
theorem znk1 : znOk (5, 9, 3, 11) := ⟨_, rfl, rfl, (zz_g (zz_t1 (i := 17) rfl) rfl), (zz_g (zz_t1 (i := 18) rfl) rfl), (zz_g (zz_t1 (i := 2) rfl) rfl), _, rfl, rfl, by decide +kernel, by decide +kernel⟩
set_option maxRecDepth 20000 in
theorem znk2 : znOk (3, 9, 1, 2) := ⟨_, rfl, rfl, (zz_g (zz_t1 (i := 23) rfl) rfl), (zz_g (zz_t1 (i := 24) rfl) rfl), (zz_g (zz_t1 (i := 3) rfl) rfl), _, rfl, rfl, by decide +kernel, by decide +kernel⟩
set_option maxRecDepth 20000 in
theorem znk3 : znOk (5, 26, 2, 2) := ⟨_, rfl, rfl, (zz_g (zz_t1 (i := 81) rfl) rfl), (zz_g (zz_t1 (i := 82) rfl) rfl), (zz_g (zz_t1 (i := 4) rfl) rfl), _, rfl, rfl, by decide +kernel, by decide +kernel⟩
set_option maxRecDepth 20000 in
theorem znk4 : znOk (2, 9, 3, 11) := ⟨_, rfl, rfl, (zz_g (zz_t1 (i := 87) rfl) rfl), (zz_g (zz_t1 (i := 18) rfl) rfl), (zz_g (zz_t1 (i := 2) rfl) rfl), _, rfl, rfl, by decide +kernel, by decide +kernel⟩
set_option maxRecDepth 20000 in
theorem znk5 : znOk (5, 33, 4, 2) := ⟨_, rfl, rfl, (zz_g (zz_t1 (i := 98) rfl) rfl), (zz_g (zz_t1 (i := 99) rfl) rfl), (zz_g (zz_t1 (i := 5) rfl) rfl), _, rfl, rfl, by decide +kernel, by decide +kernel⟩
set_option maxRecDepth 20000 in
theorem znk6 : znOk (5, 40, 0, 6) := ⟨_, rfl, rfl, (zz_g (zz_t1 (i := 111) rfl) rfl), (zz_g (zz_t1 (i := 112) rfl) rfl), (zz_g (zz_t1 (i := 6) rfl) rfl), _, rfl, rfl, by decide +kernel, by decide +kernel⟩
theorem zNt_ok : ∀ e ∈ zNt, znOk e := (List.forall_mem_cons.mpr ⟨znk0, (List.forall_mem_cons.mpr ⟨znk1, (List.forall_mem_cons.mpr ⟨znk2, (List.forall_mem_cons.mpr ⟨znk3, (List.forall_mem_cons.mpr ⟨znk4, (List.forall_mem_cons.mpr ⟨znk5, (List.forall_mem_cons.mpr ⟨znk6, (fun _ h => absurd h List.not_mem_nil)⟩)⟩)⟩)⟩)⟩)⟩)⟩)
set_option maxRecDepth 20000 in
theorem zmath_max : Cond.static Lib.Math.max.name ∈ zGW ∧ Cond.initialized "java/lang/Math" ∈ zGW ∧ Cond.code Lib.Math.max.name Lib.Math.max.code 2 (some .int) ∈ zGW := ⟨(zz_g (zz_t1 (i := 203) rfl) rfl), (zz_g (zz_t1 (i := 7) rfl) rfl), (zz_g (zz_t1 (i := 204) rfl) rfl)⟩
set_option maxRecDepth 20000 in
theorem zmath_min : Cond.static Lib.Math.min.name ∈ zGW ∧ Cond.initialized "java/lang/Math" ∈ zGW ∧ Cond.code Lib.Math.min.name Lib.Math.min.code 2 (some .int) ∈ zGW := ⟨(zz_g (zz_t1 (i := 200) rfl) rfl), (zz_g (zz_t1 (i := 7) rfl) rfl), (zz_g (zz_t1 (i := 201) rfl) rfl)⟩
set_option maxRecDepth 20000 in
theorem zmath_abs : Cond.static Lib.Math.abs.name ∈ zGW ∧ Cond.initialized "java/lang/Math" ∈ zGW ∧ Cond.code Lib.Math.abs.name Lib.Math.abs.code 1 (some .int) ∈ zGW := ⟨(zz_g (zz_t2 (i := 234) rfl) rfl), (zz_g (zz_t1 (i := 7) rfl) rfl), (zz_g (zz_t2 (i := 235) rfl) rfl)⟩
set_option maxRecDepth 20000 in
theorem zcopy : Cond.native arraycopyName ∈ zGW ∧ Cond.static arraycopyName ∈ zGW ∧ Cond.initialized "java/lang/System" ∈ zGW := ⟨(zz_g (zz_t1 (i := 223) rfl) rfl), (zz_g (zz_t1 (i := 222) rfl) rfl), (zz_g (zz_t1 (i := 8) rfl) rfl)⟩
set_option maxRecDepth 20000 in
theorem zobj : Cond.instanceMethod objectInit ∈ zGW ∧ Cond.code objectInit ⟨#[0xb1]⟩ 1 none ∈ zGW := ⟨(zz_g (zz_t1 (i := 15) rfl) rfl), (zz_g (zz_t1 (i := 16) rfl) rfl)⟩
set_option maxRecDepth 20000 in
theorem zarrc : Cond.arrayClass .int ∈ zGW := (zz_g (zz_t1 (i := 36) rfl) rfl)
set_option maxRecDepth 20000 in
theorem zarro : Cond.arrayOver (.object RX3) ∈ lw_tbl := (zz_t1 (i := 88) rfl)
set_option maxRecDepth 20000 in
theorem zKt_ok : ∀ e ∈ zKt, Cond.constant (zcn e.1) e.2.1 (Int32.ofNat e.2.2.1) ∈ zGW := (List.forall_mem_cons.mpr ⟨(zz_g (zz_t2 (i := 1) rfl) rfl), (List.forall_mem_cons.mpr ⟨(zz_g (zz_t2 (i := 5) rfl) rfl), (fun _ h => absurd h List.not_mem_nil)⟩)⟩)
