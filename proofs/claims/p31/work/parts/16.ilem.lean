/-! one law an instruction, over runs -/
section ZL
variable {scr : List Int32} {mi pc : Nat} {ls ls' : zLs} {st : List Value} {w w' : zAW} {r : zRec} {x y : Int32} {a a1 : Nat}
def zrem (x y : Int32) : Int32 := x - x / y * y
theorem zd_iconst (hr : zMs[mi]? = some r) {n : Int} {v : Int32} (hv : Int32.ofInt n = v) (hd : zfind r.2.2.2.2.1 pc = some (.iconst n, 1)) : zd scr mi pc ls (st) w = zd scr mi (pc + 1) ls (.int v :: st) w := zd_step (q := (pc + 1, ls, .int v :: st, w)) hr hd (by subst hv; rfl)
theorem zd_bipush (hr : zMs[mi]? = some r) {n : Int} {v : Int32} (hv : (Int8.ofInt n).toInt32 = v) (hd : zfind r.2.2.2.2.1 pc = some (.bipush n, 2)) : zd scr mi pc ls (st) w = zd scr mi (pc + 2) ls (.int v :: st) w := zd_step (q := (pc + 2, ls, .int v :: st, w)) hr hd (by subst hv; rfl)
theorem zd_sipush (hr : zMs[mi]? = some r) {n : Int} {v : Int32} (hv : (Int16.ofInt n).toInt32 = v) (hd : zfind r.2.2.2.2.1 pc = some (.sipush n, 3)) : zd scr mi pc ls (st) w = zd scr mi (pc + 3) ls (.int v :: st) w := zd_step (q := (pc + 3, ls, .int v :: st, w)) hr hd (by subst hv; rfl)
theorem zd_iload_n (hr : zMs[mi]? = some r) {k : Fin 4} (hl : zld ls k = some (.int x)) (hd : zfind r.2.2.2.2.1 pc = some (.iload_n k, 1)) : zd scr mi pc ls (st) w = zd scr mi (pc + 1) ls (.int x :: st) w := zd_step (q := (pc + 1, ls, .int x :: st, w)) hr hd (by simp only [zI, hl])
theorem zd_iload (hr : zMs[mi]? = some r) {k : Nat} (hl : zld ls k = some (.int x)) (hd : zfind r.2.2.2.2.1 pc = some (.iload k, 2)) : zd scr mi pc ls (st) w = zd scr mi (pc + 2) ls (.int x :: st) w := zd_step (q := (pc + 2, ls, .int x :: st, w)) hr hd (by simp only [zI, hl])
theorem zd_aload_n (hr : zMs[mi]? = some r) {k : Fin 4} (hl : zld ls k = some (.ref a)) (hd : zfind r.2.2.2.2.1 pc = some (.aload_n k, 1)) : zd scr mi pc ls (st) w = zd scr mi (pc + 1) ls (.ref a :: st) w := zd_step (q := (pc + 1, ls, .ref a :: st, w)) hr hd (by simp only [zI, hl])
theorem zd_aload_s (hr : zMs[mi]? = some r) {k : Fin 4} (hl : zld ls k = some (.retAddr a)) (hd : zfind r.2.2.2.2.1 pc = some (.aload_n k, 1)) : zd scr mi pc ls (st) w = zd scr mi (pc + 1) ls (.retAddr a :: st) w := zd_step (q := (pc + 1, ls, .retAddr a :: st, w)) hr hd (by simp only [zI, hl])
theorem zd_istore_n (hr : zMs[mi]? = some r) {k : Fin 4} (hk : (k : Nat) < ls.length) (hs : ls.set k (some (.int x)) = ls') (hd : zfind r.2.2.2.2.1 pc = some (.istore_n k, 1)) : zd scr mi pc ls (.int x :: st) w = zd scr mi (pc + 1) ls' (st) w := zd_step (q := (pc + 1, ls', st, w)) hr hd (by subst hs; simp only [zI, hk, if_true])
theorem zd_istore (hr : zMs[mi]? = some r) {k : Nat} (hk : k < ls.length) (hs : ls.set k (some (.int x)) = ls') (hd : zfind r.2.2.2.2.1 pc = some (.istore k, 2)) : zd scr mi pc ls (.int x :: st) w = zd scr mi (pc + 2) ls' (st) w := zd_step (q := (pc + 2, ls', st, w)) hr hd (by subst hs; simp only [zI, hk, if_true])
theorem zd_astore_n (hr : zMs[mi]? = some r) {k : Fin 4} (hk : (k : Nat) < ls.length) (hs : ls.set k (some (.ref a)) = ls') (hd : zfind r.2.2.2.2.1 pc = some (.astore_n k, 1)) : zd scr mi pc ls (.ref a :: st) w = zd scr mi (pc + 1) ls' (st) w := zd_step (q := (pc + 1, ls', st, w)) hr hd (by subst hs; simp only [zI, hk, if_true])
theorem zd_aload (hr : zMs[mi]? = some r) {k : Nat} (hl : zld ls k = some (.ref a)) (hd : zfind r.2.2.2.2.1 pc = some (.aload k, 2)) : zd scr mi pc ls (st) w = zd scr mi (pc + 2) ls (.ref a :: st) w := zd_step (q := (pc + 2, ls, .ref a :: st, w)) hr hd (by simp only [zI, hl])
theorem zd_ldc (hr : zMs[mi]? = some r) {i n q : Nat} {v : Int32} (hf : zfind2 zKt r.2.2.2.2.2.1 i = some (n, q)) (hv : Int32.ofNat n = v) (hd : zfind r.2.2.2.2.1 pc = some (.ldc i, 2)) : zd scr mi pc ls (st) w = zd scr mi (pc + 2) ls (.int v :: st) w := zd_step (q := (pc + 2, ls, .int v :: st, w)) hr hd (by subst hv; simp only [zI, hf])
theorem zd_astore (hr : zMs[mi]? = some r) {k : Nat} (hk : k < ls.length) (hs : ls.set k (some (.ref a)) = ls') (hd : zfind r.2.2.2.2.1 pc = some (.astore k, 2)) : zd scr mi pc ls (.ref a :: st) w = zd scr mi (pc + 2) ls' (st) w := zd_step (q := (pc + 2, ls', st, w)) hr hd (by subst hs; simp only [zI, hk, if_true])
/-- a new row of ints -/
def zpu (w : zAW) (n : Nat) : zAW := w ++ [.inl (List.replicate n 0)]
theorem zd_newarr (hr : zMs[mi]? = some r) {n : Nat} (hn : n ≤ 1000) (hl : w.length = a) (hd : zfind r.2.2.2.2.1 pc = some (.newarray .int, 2)) : zd scr mi pc ls (.int (nI n) :: st) w = zd scr mi (pc + 2) ls (.ref a :: st) (zpu w n) := zd_step (q := (pc + 2, ls, .ref a :: st, w ++ [.inl (List.replicate n 0)])) hr hd (by
  have h1 : ¬ nI n < 0 := by
    rw [Int32.lt_iff_toInt_lt, nI_toInt (by omega)]
    show ¬ (n : Int) < 0
    omega
  have h2 : (nI n).toNatClampNeg = n := by
    show (nI n).toInt.toNat = n
    rw [nI_toInt (by omega)]; rfl
  subst hl
  simp only [zI, h2]
  rw [if_pos ⟨h1, hn⟩])
theorem zd_iinc (hr : zMs[mi]? = some r) {k : Nat} {n : Int} {v : Int32} (hl : zld ls k = some (.int x)) (hv : x + Int32.ofInt n = v) (hs : ls.set k (some (.int v)) = ls') (hd : zfind r.2.2.2.2.1 pc = some (.iinc k n, 3)) : zd scr mi pc ls (st) w = zd scr mi (pc + 3) ls' (st) w := zd_step (q := (pc + 3, ls', st, w)) hr hd (by subst hv; subst hs; simp only [zI, hl])
theorem zd_iadd (hr : zMs[mi]? = some r) (hd : zfind r.2.2.2.2.1 pc = some (.iadd, 1)) : zd scr mi pc ls (.int y :: .int x :: st) w = zd scr mi (pc + 1) ls (.int (x + y) :: st) w := zd_step (q := (pc + 1, ls, .int (x + y) :: st, w)) hr hd (rfl)
theorem zd_isub (hr : zMs[mi]? = some r) (hd : zfind r.2.2.2.2.1 pc = some (.isub, 1)) : zd scr mi pc ls (.int y :: .int x :: st) w = zd scr mi (pc + 1) ls (.int (x - y) :: st) w := zd_step (q := (pc + 1, ls, .int (x - y) :: st, w)) hr hd (rfl)
theorem zd_imul (hr : zMs[mi]? = some r) (hd : zfind r.2.2.2.2.1 pc = some (.imul, 1)) : zd scr mi pc ls (.int y :: .int x :: st) w = zd scr mi (pc + 1) ls (.int (x * y) :: st) w := zd_step (q := (pc + 1, ls, .int (x * y) :: st, w)) hr hd (rfl)
theorem zd_iand (hr : zMs[mi]? = some r) (hd : zfind r.2.2.2.2.1 pc = some (.iand, 1)) : zd scr mi pc ls (.int y :: .int x :: st) w = zd scr mi (pc + 1) ls (.int (x &&& y) :: st) w := zd_step (q := (pc + 1, ls, .int (x &&& y) :: st, w)) hr hd (rfl)
theorem zd_ior (hr : zMs[mi]? = some r) (hd : zfind r.2.2.2.2.1 pc = some (.ior, 1)) : zd scr mi pc ls (.int y :: .int x :: st) w = zd scr mi (pc + 1) ls (.int (x ||| y) :: st) w := zd_step (q := (pc + 1, ls, .int (x ||| y) :: st, w)) hr hd (rfl)
theorem zd_ishl (hr : zMs[mi]? = some r) (hd : zfind r.2.2.2.2.1 pc = some (.ishl, 1)) : zd scr mi pc ls (.int y :: .int x :: st) w = zd scr mi (pc + 1) ls (.int (x <<< (y &&& 31)) :: st) w := zd_step (q := (pc + 1, ls, .int (x <<< (y &&& 31)) :: st, w)) hr hd (rfl)
theorem zd_ishr (hr : zMs[mi]? = some r) (hd : zfind r.2.2.2.2.1 pc = some (.ishr, 1)) : zd scr mi pc ls (.int y :: .int x :: st) w = zd scr mi (pc + 1) ls (.int (x >>> (y &&& 31)) :: st) w := zd_step (q := (pc + 1, ls, .int (x >>> (y &&& 31)) :: st, w)) hr hd (rfl)
theorem zd_idiv (hr : zMs[mi]? = some r) (hy : ¬ y = 0) (hd : zfind r.2.2.2.2.1 pc = some (.idiv, 1)) : zd scr mi pc ls (.int y :: .int x :: st) w = zd scr mi (pc + 1) ls (.int (x / y) :: st) w := zd_step (q := (pc + 1, ls, .int (x / y) :: st, w)) hr hd (by simp only [zI, if_neg hy])
theorem zd_irem (hr : zMs[mi]? = some r) (hy : ¬ y = 0) (hd : zfind r.2.2.2.2.1 pc = some (.irem, 1)) : zd scr mi pc ls (.int y :: .int x :: st) w = zd scr mi (pc + 1) ls (.int (zrem x y) :: st) w := zd_step (q := (pc + 1, ls, .int (zrem x y) :: st, w)) hr hd (by simp only [zI, if_neg hy]; rfl)
theorem zd_ineg (hr : zMs[mi]? = some r) (hd : zfind r.2.2.2.2.1 pc = some (.ineg, 1)) : zd scr mi pc ls (.int x :: st) w = zd scr mi (pc + 1) ls (.int (-x) :: st) w := zd_step (q := (pc + 1, ls, .int (-x) :: st, w)) hr hd (rfl)
theorem zd_dup (hr : zMs[mi]? = some r) {v : Value} (hd : zfind r.2.2.2.2.1 pc = some (.dup, 1)) : zd scr mi pc ls (v :: st) w = zd scr mi (pc + 1) ls (v :: v :: st) w := zd_step (q := (pc + 1, ls, v :: v :: st, w)) hr hd (rfl)
theorem zd_dup2 (hr : zMs[mi]? = some r) {v u : Value} (hd : zfind r.2.2.2.2.1 pc = some (.dup2, 1)) : zd scr mi pc ls (v :: u :: st) w = zd scr mi (pc + 1) ls (v :: u :: v :: u :: st) w := zd_step (q := (pc + 1, ls, v :: u :: v :: u :: st, w)) hr hd (rfl)
theorem zd_pop (hr : zMs[mi]? = some r) {v : Value} (hd : zfind r.2.2.2.2.1 pc = some (.pop, 1)) : zd scr mi pc ls (v :: st) w = zd scr mi (pc + 1) ls (st) w := zd_step (q := (pc + 1, ls, st, w)) hr hd (rfl)
theorem zd_getfield (hr : zMs[mi]? = some r) {i ci k : Nat} {v : Value} (hf : zfind2 zFt r.2.2.2.2.2.1 i = some (ci, k)) (h : zgf w a ci k = some v) (hd : zfind r.2.2.2.2.1 pc = some (.getfield i, 3)) : zd scr mi pc ls (.ref a :: st) w = zd scr mi (pc + 3) ls (v :: st) w := zd_step (q := (pc + 3, ls, v :: st, w)) hr hd (by simp only [zI, hf, h])
theorem zd_putfield (hr : zMs[mi]? = some r) {i ci k : Nat} {v : Value} (hf : zfind2 zFt r.2.2.2.2.2.1 i = some (ci, k)) (hok : zpok r ci k v = true) (h : zpf w a ci k v = some w') (hd : zfind r.2.2.2.2.1 pc = some (.putfield i, 3)) : zd scr mi pc ls (v :: .ref a :: st) w = zd scr mi (pc + 3) ls (st) w' := zd_step (q := (pc + 3, ls, st, w')) hr hd (by simp only [zI, hf, hok, h, if_true])
theorem zd_iaload (hr : zMs[mi]? = some r) (h : zal w a y = some x) (hd : zfind r.2.2.2.2.1 pc = some (.iaload, 1)) : zd scr mi pc ls (.int y :: .ref a :: st) w = zd scr mi (pc + 1) ls (.int x :: st) w := zd_step (q := (pc + 1, ls, .int x :: st, w)) hr hd (by simp only [zI, h])
theorem zd_iastore (hr : zMs[mi]? = some r) (h : zas w a y x = some w') (hd : zfind r.2.2.2.2.1 pc = some (.iastore, 1)) : zd scr mi pc ls (.int x :: .int y :: .ref a :: st) w = zd scr mi (pc + 1) ls (st) w' := zd_step (q := (pc + 1, ls, st, w')) hr hd (by simp only [zI, h])
theorem zd_aaload (hr : zMs[mi]? = some r) (h : zql w a y = some a1) (hd : zfind r.2.2.2.2.1 pc = some (.aaload, 1)) : zd scr mi pc ls (.int y :: .ref a :: st) w = zd scr mi (pc + 1) ls (.ref a1 :: st) w := zd_step (q := (pc + 1, ls, .ref a1 :: st, w)) hr hd (by simp only [zI, h])
theorem zd_aastore (hr : zMs[mi]? = some r) (h : zqs w a y a1 = some w') (hd : zfind r.2.2.2.2.1 pc = some (.aastore, 1)) : zd scr mi pc ls (.ref a1 :: .int y :: .ref a :: st) w = zd scr mi (pc + 1) ls (st) w' := zd_step (q := (pc + 1, ls, st, w')) hr hd (by simp only [zI, h])
theorem zd_max (hr : zMs[mi]? = some r) {i q : Nat} (hf : zfind2 zCt r.2.2.2.2.2.1 i = some (7, q)) (hc : st.length ≤ 8 ∧ 1 ≤ r.2.2.2.2.2.2.1) (hd : zfind r.2.2.2.2.1 pc = some (.invokestatic i, 3)) : zd scr mi pc ls (.int y :: .int x :: st) w = zd scr mi (pc + 3) ls (.int (if x < y then y else x) :: st) w := zd_step (q := (pc + 3, ls, .int (if x < y then y else x) :: st, w)) hr hd (by simp only [zI, hf, if_pos hc])
theorem zd_min (hr : zMs[mi]? = some r) {i q : Nat} (hf : zfind2 zCt r.2.2.2.2.2.1 i = some (8, q)) (hc : st.length ≤ 8 ∧ 1 ≤ r.2.2.2.2.2.2.1) (hd : zfind r.2.2.2.2.1 pc = some (.invokestatic i, 3)) : zd scr mi pc ls (.int y :: .int x :: st) w = zd scr mi (pc + 3) ls (.int (if y < x then y else x) :: st) w := zd_step (q := (pc + 3, ls, .int (if y < x then y else x) :: st, w)) hr hd (by simp only [zI, hf, if_pos hc])
theorem zd_abs (hr : zMs[mi]? = some r) {i q : Nat} (hf : zfind2 zCt r.2.2.2.2.2.1 i = some (9, q)) (hc : st.length ≤ 8 ∧ 1 ≤ r.2.2.2.2.2.2.1) (hd : zfind r.2.2.2.2.1 pc = some (.invokestatic i, 3)) : zd scr mi pc ls (.int x :: st) w = zd scr mi (pc + 3) ls (.int (if 0 ≤ x then x else 0 - x) :: st) w := zd_step (q := (pc + 3, ls, .int (if 0 ≤ x then x else 0 - x) :: st, w)) hr hd (by simp only [zI, hf, if_pos hc])
theorem zd_copy (hr : zMs[mi]? = some r) {i q : Nat} {n : Int32} (hf : zfind2 zCt r.2.2.2.2.2.1 i = some (6, q)) (hc : st.length ≤ 8 ∧ 1 ≤ r.2.2.2.2.2.2.1) (h : zcp w a x a1 y n = some w') (hd : zfind r.2.2.2.2.1 pc = some (.invokestatic i, 3)) : zd scr mi pc ls (.int n :: .int y :: .ref a1 :: .int x :: .ref a :: st) w = zd scr mi (pc + 3) ls (st) w' := zd_step (q := (pc + 3, ls, st, w')) hr hd (by simp only [zI, hf, if_pos hc, h])
theorem zd_objinit (hr : zMs[mi]? = some r) {i q : Nat} (hf : zfind2 zCt r.2.2.2.2.2.1 i = some (5, q)) (hc : st.length ≤ 8 ∧ 1 ≤ r.2.2.2.2.2.2.1) (hd : zfind r.2.2.2.2.1 pc = some (.invokespecial i, 3)) : zd scr mi pc ls (.ref a :: st) w = zd scr mi (pc + 3) ls (st) w := zd_step (q := (pc + 3, ls, st, w)) hr hd (by simp only [zI, hf, if_pos hc])
theorem zd_goto (hr : zMs[mi]? = some r) {off : Int} {t : Nat} (ht : (pc : Int) + off = (t : Int)) (hd : zfind r.2.2.2.2.1 pc = some (.goto off, 3)) : zd scr mi pc ls st w = zd scr mi t ls st w := zd_step (q := (t, ls, st, w)) hr hd (by
  show zjmp pc off ls st w = _
  unfold zjmp
  rw [ht, if_pos (by omega)]; rfl)
theorem zd_sld (hr : zMs[mi]? = some r) (hmi : 94 < mi) (h : ¬ y < 0) (h2 : scr[y.toNatClampNeg]? = some x) (hd : zfind r.2.2.2.2.1 pc = some (.iaload, 1)) : zd scr mi pc ls (.int y :: .retAddr a :: st) w = zd scr mi (pc + 1) ls (.int x :: st) w := zd_step (q := (pc + 1, ls, .int x :: st, w)) hr hd (by
  simp only [zI, h2]; rw [if_pos ⟨hmi, h⟩])
theorem zd_slen (hr : zMs[mi]? = some r) (hmi : 94 < mi) (hd : zfind r.2.2.2.2.1 pc = some (.arraylength, 1)) : zd scr mi pc ls (.retAddr a :: st) w = zd scr mi (pc + 1) ls (.int (Int32.ofNat scr.length) :: st) w := zd_step (q := (pc + 1, ls, .int (Int32.ofNat scr.length) :: st, w)) hr hd (by
  simp only [zI, if_pos hmi])
theorem zd_ifeq (hr : zMs[mi]? = some r) {off : Int} {t : Nat} (ht : (pc : Int) + off = (t : Int)) (hd : zfind r.2.2.2.2.1 pc = some (.ifCond .eq off, 3)) : zd scr mi pc ls (.int x :: st) w = if x = 0 then zd scr mi t ls st w else zd scr mi (pc + 3) ls st w := by
  have h0 : 0 ≤ (pc : Int) + off := by omega
  by_cases h : x = 0
  · rw [if_pos h]
    refine zd_step (q := (t, ls, st, w)) hr hd ?_
    simp only [zI, zcmp0]
    first
      | (rw [decide_eq_true (by first | exact h | (intro q; first | exact absurd h (Int32.not_lt.mpr q) | exact absurd h (Int32.not_le.mpr q) | exact absurd q h))]; simp only [zbr, zjmp]; rw [ht, if_pos (by omega)]; rfl)
      | (rw [decide_eq_false (by first | exact h | exact fun q => q h | exact Int32.not_le.mpr h | exact Int32.not_lt.mpr h)]; simp only [zbr]; rw [if_pos h0])
  · rw [if_neg h]
    refine zd_step (q := ((pc + 3), ls, st, w)) hr hd ?_
    simp only [zI, zcmp0]
    first
      | (rw [decide_eq_true (by first | exact h | exact Int32.not_lt.mp h | exact Int32.not_le.mp h)]; simp only [zbr, zjmp]; rw [ht, if_pos (by omega)]; rfl)
      | (rw [decide_eq_false (by first | exact h | exact fun q => h q)]; simp only [zbr]; rw [if_pos h0])
theorem zd_ifne (hr : zMs[mi]? = some r) {off : Int} {t : Nat} (ht : (pc : Int) + off = (t : Int)) (hd : zfind r.2.2.2.2.1 pc = some (.ifCond .ne off, 3)) : zd scr mi pc ls (.int x :: st) w = if x = 0 then zd scr mi (pc + 3) ls st w else zd scr mi t ls st w := by
  have h0 : 0 ≤ (pc : Int) + off := by omega
  by_cases h : x = 0
  · rw [if_pos h]
    refine zd_step (q := ((pc + 3), ls, st, w)) hr hd ?_
    simp only [zI, zcmp0]
    first
      | (rw [decide_eq_true (by first | exact h | (intro q; first | exact absurd h (Int32.not_lt.mpr q) | exact absurd h (Int32.not_le.mpr q) | exact absurd q h))]; simp only [zbr, zjmp]; rw [ht, if_pos (by omega)]; rfl)
      | (rw [decide_eq_false (by first | exact h | exact fun q => q h | exact Int32.not_le.mpr h | exact Int32.not_lt.mpr h)]; simp only [zbr]; rw [if_pos h0])
  · rw [if_neg h]
    refine zd_step (q := (t, ls, st, w)) hr hd ?_
    simp only [zI, zcmp0]
    first
      | (rw [decide_eq_true (by first | exact h | exact Int32.not_lt.mp h | exact Int32.not_le.mp h)]; simp only [zbr, zjmp]; rw [ht, if_pos (by omega)]; rfl)
      | (rw [decide_eq_false (by first | exact h | exact fun q => h q)]; simp only [zbr]; rw [if_pos h0])
theorem zd_iflt (hr : zMs[mi]? = some r) {off : Int} {t : Nat} (ht : (pc : Int) + off = (t : Int)) (hd : zfind r.2.2.2.2.1 pc = some (.ifCond .lt off, 3)) : zd scr mi pc ls (.int x :: st) w = if x < 0 then zd scr mi t ls st w else zd scr mi (pc + 3) ls st w := by
  have h0 : 0 ≤ (pc : Int) + off := by omega
  by_cases h : x < 0
  · rw [if_pos h]
    refine zd_step (q := (t, ls, st, w)) hr hd ?_
    simp only [zI, zcmp0]
    first
      | (rw [decide_eq_true (by first | exact h | (intro q; first | exact absurd h (Int32.not_lt.mpr q) | exact absurd h (Int32.not_le.mpr q) | exact absurd q h))]; simp only [zbr, zjmp]; rw [ht, if_pos (by omega)]; rfl)
      | (rw [decide_eq_false (by first | exact h | exact fun q => q h | exact Int32.not_le.mpr h | exact Int32.not_lt.mpr h)]; simp only [zbr]; rw [if_pos h0])
  · rw [if_neg h]
    refine zd_step (q := ((pc + 3), ls, st, w)) hr hd ?_
    simp only [zI, zcmp0]
    first
      | (rw [decide_eq_true (by first | exact h | exact Int32.not_lt.mp h | exact Int32.not_le.mp h)]; simp only [zbr, zjmp]; rw [ht, if_pos (by omega)]; rfl)
      | (rw [decide_eq_false (by first | exact h | exact fun q => h q)]; simp only [zbr]; rw [if_pos h0])
theorem zd_ifge (hr : zMs[mi]? = some r) {off : Int} {t : Nat} (ht : (pc : Int) + off = (t : Int)) (hd : zfind r.2.2.2.2.1 pc = some (.ifCond .ge off, 3)) : zd scr mi pc ls (.int x :: st) w = if x < 0 then zd scr mi (pc + 3) ls st w else zd scr mi t ls st w := by
  have h0 : 0 ≤ (pc : Int) + off := by omega
  by_cases h : x < 0
  · rw [if_pos h]
    refine zd_step (q := ((pc + 3), ls, st, w)) hr hd ?_
    simp only [zI, zcmp0]
    first
      | (rw [decide_eq_true (by first | exact h | (intro q; first | exact absurd h (Int32.not_lt.mpr q) | exact absurd h (Int32.not_le.mpr q) | exact absurd q h))]; simp only [zbr, zjmp]; rw [ht, if_pos (by omega)]; rfl)
      | (rw [decide_eq_false (by first | exact h | exact fun q => q h | exact Int32.not_le.mpr h | exact Int32.not_lt.mpr h)]; simp only [zbr]; rw [if_pos h0])
  · rw [if_neg h]
    refine zd_step (q := (t, ls, st, w)) hr hd ?_
    simp only [zI, zcmp0]
    first
      | (rw [decide_eq_true (by first | exact h | exact Int32.not_lt.mp h | exact Int32.not_le.mp h)]; simp only [zbr, zjmp]; rw [ht, if_pos (by omega)]; rfl)
      | (rw [decide_eq_false (by first | exact h | exact fun q => h q)]; simp only [zbr]; rw [if_pos h0])
theorem zd_ifgt (hr : zMs[mi]? = some r) {off : Int} {t : Nat} (ht : (pc : Int) + off = (t : Int)) (hd : zfind r.2.2.2.2.1 pc = some (.ifCond .gt off, 3)) : zd scr mi pc ls (.int x :: st) w = if x ≤ 0 then zd scr mi (pc + 3) ls st w else zd scr mi t ls st w := by
  have h0 : 0 ≤ (pc : Int) + off := by omega
  by_cases h : x ≤ 0
  · rw [if_pos h]
    refine zd_step (q := ((pc + 3), ls, st, w)) hr hd ?_
    simp only [zI, zcmp0]
    first
      | (rw [decide_eq_true (by first | exact h | (intro q; first | exact absurd h (Int32.not_lt.mpr q) | exact absurd h (Int32.not_le.mpr q) | exact absurd q h))]; simp only [zbr, zjmp]; rw [ht, if_pos (by omega)]; rfl)
      | (rw [decide_eq_false (by first | exact h | exact fun q => q h | exact Int32.not_le.mpr h | exact Int32.not_lt.mpr h)]; simp only [zbr]; rw [if_pos h0])
  · rw [if_neg h]
    refine zd_step (q := (t, ls, st, w)) hr hd ?_
    simp only [zI, zcmp0]
    first
      | (rw [decide_eq_true (by first | exact h | exact Int32.not_lt.mp h | exact Int32.not_le.mp h)]; simp only [zbr, zjmp]; rw [ht, if_pos (by omega)]; rfl)
      | (rw [decide_eq_false (by first | exact h | exact fun q => h q)]; simp only [zbr]; rw [if_pos h0])
theorem zd_ifle (hr : zMs[mi]? = some r) {off : Int} {t : Nat} (ht : (pc : Int) + off = (t : Int)) (hd : zfind r.2.2.2.2.1 pc = some (.ifCond .le off, 3)) : zd scr mi pc ls (.int x :: st) w = if 0 < x then zd scr mi (pc + 3) ls st w else zd scr mi t ls st w := by
  have h0 : 0 ≤ (pc : Int) + off := by omega
  by_cases h : 0 < x
  · rw [if_pos h]
    refine zd_step (q := ((pc + 3), ls, st, w)) hr hd ?_
    simp only [zI, zcmp0]
    first
      | (rw [decide_eq_true (by first | exact h | (intro q; first | exact absurd h (Int32.not_lt.mpr q) | exact absurd h (Int32.not_le.mpr q) | exact absurd q h))]; simp only [zbr, zjmp]; rw [ht, if_pos (by omega)]; rfl)
      | (rw [decide_eq_false (by first | exact h | exact fun q => q h | exact Int32.not_le.mpr h | exact Int32.not_lt.mpr h)]; simp only [zbr]; rw [if_pos h0])
  · rw [if_neg h]
    refine zd_step (q := (t, ls, st, w)) hr hd ?_
    simp only [zI, zcmp0]
    first
      | (rw [decide_eq_true (by first | exact h | exact Int32.not_lt.mp h | exact Int32.not_le.mp h)]; simp only [zbr, zjmp]; rw [ht, if_pos (by omega)]; rfl)
      | (rw [decide_eq_false (by first | exact h | exact fun q => h q)]; simp only [zbr]; rw [if_pos h0])
theorem zd_icmpeq (hr : zMs[mi]? = some r) {off : Int} {t : Nat} (ht : (pc : Int) + off = (t : Int)) (hd : zfind r.2.2.2.2.1 pc = some (.if_icmp .eq off, 3)) : zd scr mi pc ls (.int y :: .int x :: st) w = if x = y then zd scr mi t ls st w else zd scr mi (pc + 3) ls st w := by
  have h0 : 0 ≤ (pc : Int) + off := by omega
  by_cases h : x = y
  · rw [if_pos h]
    refine zd_step (q := (t, ls, st, w)) hr hd ?_
    simp only [zI, zcmp2]
    first
      | (rw [decide_eq_true (by first | exact h | (intro q; first | exact absurd h (Int32.not_lt.mpr q) | exact absurd h (Int32.not_le.mpr q) | exact absurd q h))]; simp only [zbr, zjmp]; rw [ht, if_pos (by omega)]; rfl)
      | (rw [decide_eq_false (by first | exact h | exact fun q => q h | exact Int32.not_le.mpr h | exact Int32.not_lt.mpr h)]; simp only [zbr]; rw [if_pos h0])
  · rw [if_neg h]
    refine zd_step (q := ((pc + 3), ls, st, w)) hr hd ?_
    simp only [zI, zcmp2]
    first
      | (rw [decide_eq_true (by first | exact h | exact Int32.not_lt.mp h | exact Int32.not_le.mp h)]; simp only [zbr, zjmp]; rw [ht, if_pos (by omega)]; rfl)
      | (rw [decide_eq_false (by first | exact h | exact fun q => h q)]; simp only [zbr]; rw [if_pos h0])
theorem zd_icmpne (hr : zMs[mi]? = some r) {off : Int} {t : Nat} (ht : (pc : Int) + off = (t : Int)) (hd : zfind r.2.2.2.2.1 pc = some (.if_icmp .ne off, 3)) : zd scr mi pc ls (.int y :: .int x :: st) w = if x = y then zd scr mi (pc + 3) ls st w else zd scr mi t ls st w := by
  have h0 : 0 ≤ (pc : Int) + off := by omega
  by_cases h : x = y
  · rw [if_pos h]
    refine zd_step (q := ((pc + 3), ls, st, w)) hr hd ?_
    simp only [zI, zcmp2]
    first
      | (rw [decide_eq_true (by first | exact h | (intro q; first | exact absurd h (Int32.not_lt.mpr q) | exact absurd h (Int32.not_le.mpr q) | exact absurd q h))]; simp only [zbr, zjmp]; rw [ht, if_pos (by omega)]; rfl)
      | (rw [decide_eq_false (by first | exact h | exact fun q => q h | exact Int32.not_le.mpr h | exact Int32.not_lt.mpr h)]; simp only [zbr]; rw [if_pos h0])
  · rw [if_neg h]
    refine zd_step (q := (t, ls, st, w)) hr hd ?_
    simp only [zI, zcmp2]
    first
      | (rw [decide_eq_true (by first | exact h | exact Int32.not_lt.mp h | exact Int32.not_le.mp h)]; simp only [zbr, zjmp]; rw [ht, if_pos (by omega)]; rfl)
      | (rw [decide_eq_false (by first | exact h | exact fun q => h q)]; simp only [zbr]; rw [if_pos h0])
theorem zd_icmplt (hr : zMs[mi]? = some r) {off : Int} {t : Nat} (ht : (pc : Int) + off = (t : Int)) (hd : zfind r.2.2.2.2.1 pc = some (.if_icmp .lt off, 3)) : zd scr mi pc ls (.int y :: .int x :: st) w = if x < y then zd scr mi t ls st w else zd scr mi (pc + 3) ls st w := by
  have h0 : 0 ≤ (pc : Int) + off := by omega
  by_cases h : x < y
  · rw [if_pos h]
    refine zd_step (q := (t, ls, st, w)) hr hd ?_
    simp only [zI, zcmp2]
    first
      | (rw [decide_eq_true (by first | exact h | (intro q; first | exact absurd h (Int32.not_lt.mpr q) | exact absurd h (Int32.not_le.mpr q) | exact absurd q h))]; simp only [zbr, zjmp]; rw [ht, if_pos (by omega)]; rfl)
      | (rw [decide_eq_false (by first | exact h | exact fun q => q h | exact Int32.not_le.mpr h | exact Int32.not_lt.mpr h)]; simp only [zbr]; rw [if_pos h0])
  · rw [if_neg h]
    refine zd_step (q := ((pc + 3), ls, st, w)) hr hd ?_
    simp only [zI, zcmp2]
    first
      | (rw [decide_eq_true (by first | exact h | exact Int32.not_lt.mp h | exact Int32.not_le.mp h)]; simp only [zbr, zjmp]; rw [ht, if_pos (by omega)]; rfl)
      | (rw [decide_eq_false (by first | exact h | exact fun q => h q)]; simp only [zbr]; rw [if_pos h0])
theorem zd_icmpge (hr : zMs[mi]? = some r) {off : Int} {t : Nat} (ht : (pc : Int) + off = (t : Int)) (hd : zfind r.2.2.2.2.1 pc = some (.if_icmp .ge off, 3)) : zd scr mi pc ls (.int y :: .int x :: st) w = if x < y then zd scr mi (pc + 3) ls st w else zd scr mi t ls st w := by
  have h0 : 0 ≤ (pc : Int) + off := by omega
  by_cases h : x < y
  · rw [if_pos h]
    refine zd_step (q := ((pc + 3), ls, st, w)) hr hd ?_
    simp only [zI, zcmp2]
    first
      | (rw [decide_eq_true (by first | exact h | (intro q; first | exact absurd h (Int32.not_lt.mpr q) | exact absurd h (Int32.not_le.mpr q) | exact absurd q h))]; simp only [zbr, zjmp]; rw [ht, if_pos (by omega)]; rfl)
      | (rw [decide_eq_false (by first | exact h | exact fun q => q h | exact Int32.not_le.mpr h | exact Int32.not_lt.mpr h)]; simp only [zbr]; rw [if_pos h0])
  · rw [if_neg h]
    refine zd_step (q := (t, ls, st, w)) hr hd ?_
    simp only [zI, zcmp2]
    first
      | (rw [decide_eq_true (by first | exact h | exact Int32.not_lt.mp h | exact Int32.not_le.mp h)]; simp only [zbr, zjmp]; rw [ht, if_pos (by omega)]; rfl)
      | (rw [decide_eq_false (by first | exact h | exact fun q => h q)]; simp only [zbr]; rw [if_pos h0])
theorem zd_icmpgt (hr : zMs[mi]? = some r) {off : Int} {t : Nat} (ht : (pc : Int) + off = (t : Int)) (hd : zfind r.2.2.2.2.1 pc = some (.if_icmp .gt off, 3)) : zd scr mi pc ls (.int y :: .int x :: st) w = if x ≤ y then zd scr mi (pc + 3) ls st w else zd scr mi t ls st w := by
  have h0 : 0 ≤ (pc : Int) + off := by omega
  by_cases h : x ≤ y
  · rw [if_pos h]
    refine zd_step (q := ((pc + 3), ls, st, w)) hr hd ?_
    simp only [zI, zcmp2]
    first
      | (rw [decide_eq_true (by first | exact h | (intro q; first | exact absurd h (Int32.not_lt.mpr q) | exact absurd h (Int32.not_le.mpr q) | exact absurd q h))]; simp only [zbr, zjmp]; rw [ht, if_pos (by omega)]; rfl)
      | (rw [decide_eq_false (by first | exact h | exact fun q => q h | exact Int32.not_le.mpr h | exact Int32.not_lt.mpr h)]; simp only [zbr]; rw [if_pos h0])
  · rw [if_neg h]
    refine zd_step (q := (t, ls, st, w)) hr hd ?_
    simp only [zI, zcmp2]
    first
      | (rw [decide_eq_true (by first | exact h | exact Int32.not_lt.mp h | exact Int32.not_le.mp h)]; simp only [zbr, zjmp]; rw [ht, if_pos (by omega)]; rfl)
      | (rw [decide_eq_false (by first | exact h | exact fun q => h q)]; simp only [zbr]; rw [if_pos h0])
theorem zd_icmple (hr : zMs[mi]? = some r) {off : Int} {t : Nat} (ht : (pc : Int) + off = (t : Int)) (hd : zfind r.2.2.2.2.1 pc = some (.if_icmp .le off, 3)) : zd scr mi pc ls (.int y :: .int x :: st) w = if y < x then zd scr mi (pc + 3) ls st w else zd scr mi t ls st w := by
  have h0 : 0 ≤ (pc : Int) + off := by omega
  by_cases h : y < x
  · rw [if_pos h]
    refine zd_step (q := ((pc + 3), ls, st, w)) hr hd ?_
    simp only [zI, zcmp2]
    first
      | (rw [decide_eq_true (by first | exact h | (intro q; first | exact absurd h (Int32.not_lt.mpr q) | exact absurd h (Int32.not_le.mpr q) | exact absurd q h))]; simp only [zbr, zjmp]; rw [ht, if_pos (by omega)]; rfl)
      | (rw [decide_eq_false (by first | exact h | exact fun q => q h | exact Int32.not_le.mpr h | exact Int32.not_lt.mpr h)]; simp only [zbr]; rw [if_pos h0])
  · rw [if_neg h]
    refine zd_step (q := (t, ls, st, w)) hr hd ?_
    simp only [zI, zcmp2]
    first
      | (rw [decide_eq_true (by first | exact h | exact Int32.not_lt.mp h | exact Int32.not_le.mp h)]; simp only [zbr, zjmp]; rw [ht, if_pos (by omega)]; rfl)
      | (rw [decide_eq_false (by first | exact h | exact fun q => h q)]; simp only [zbr]; rw [if_pos h0])
theorem zd_tabIn (hr : zMs[mi]? = some r) {dflt lo hi : Int} {offs : Array Int} {len t : Nat} {off : Int} (h : ¬ (x.toInt < lo ∨ hi < x.toInt)) (ho : offs[(x.toInt - lo).toNat]? = some off) (ht : (pc : Int) + off = (t : Int)) (hd : zfind r.2.2.2.2.1 pc = some (.tableswitch dflt lo hi offs, len)) : zd scr mi pc ls (.int x :: st) w = zd scr mi t ls st w := zd_step (q := (t, ls, st, w)) hr hd (by
  simp only [zI, if_neg h, ho, zjmp]
  rw [ht, if_pos (by omega)]; rfl)
theorem zd_tabOut (hr : zMs[mi]? = some r) {dflt lo hi : Int} {offs : Array Int} {len t : Nat} (h : x.toInt < lo ∨ hi < x.toInt) (ht : (pc : Int) + dflt = (t : Int)) (hd : zfind r.2.2.2.2.1 pc = some (.tableswitch dflt lo hi offs, len)) : zd scr mi pc ls (.int x :: st) w = zd scr mi t ls st w := zd_step (q := (t, ls, st, w)) hr hd (by
  simp only [zI, if_pos h, zjmp]
  rw [ht, if_pos (by omega)]; rfl)
theorem zd_look (hr : zMs[mi]? = some r) {dflt : Int} {ps : Array (Int × Int)} {len t : Nat} {off : Int} (hp : (ps.toList.zip (ps.toList.drop 1)).all (fun (a, next) => a.1 < next.1) = true) (ho : Op.lookupswitch.offset ps.toList dflt x.toInt = off) (ht : (pc : Int) + off = (t : Int)) (hd : zfind r.2.2.2.2.1 pc = some (.lookupswitch dflt ps, len)) : zd scr mi pc ls (.int x :: st) w = zd scr mi t ls st w := zd_step (q := (t, ls, st, w)) hr hd (by
  simp only [zI, hp, ho, if_true, zjmp]
  rw [ht, if_pos (by omega)]; rfl)
theorem zd_iret (hr : zMs[mi]? = some r) (hz : zrok r.2.2.2.1 x = true) (hd : zfind r.2.2.2.2.1 pc = some (.ireturn, 1)) : zd scr mi pc ls [.int x] w = some (some (.int x), w) := zd_ret (rv := some (.int x)) hr hd (by simp only [zI, hz, if_true])
theorem zd_vret (hr : zMs[mi]? = some r) (hz : r.2.2.2.1 = none) (hd : zfind r.2.2.2.2.1 pc = some (.return_, 1)) : zd scr mi pc ls [] w = some (none, w) := zd_ret (rv := none) hr hd (by simp only [zI, hz, if_true])
/-- the cell is an object of this class -/
def zob (w : zAW) (a ci : Nat) : Bool := match w[a]? with
  | some (.inr (.inr (c, _))) => decide (c = ci)
  | _ => false
theorem zd_inv (hr : zMs[mi]? = some r) {i n mj : Nat} {rj : zRec} {as rest : List Value} {c : Nat} {fs : List Value} {rv : Option Value} {d : Instr × Nat} (hd : zfind r.2.2.2.2.1 pc = some d) (hj : zMs[mj]? = some rj) (hI : ∀ nx, zcallV r mj ls st w = some nx → zI scr mi r pc ls st w d = some nx)
    (hst : st.drop rj.2.2.2.2.2.2.2 = .ref a :: rest) (hck : rj.2.2.2.2.2.2.1 + 1 ≤ r.2.2.2.2.2.2.1 ∧ rest.length ≤ 8 ∧ mj < 95 ∧ rj.2.2.2.2.2.2.2 + 1 ≤ rj.2.2.1) (hw : zob w a rj.2.2.2.2.2.1 = true) (has : .ref a :: (st.take rj.2.2.2.2.2.2.2).reverse = as) (hc : zC scr mj as w = some (rv, w')) : zd scr mi pc ls st w = zd scr mi (pc + 3) ls (rv.toList ++ rest) w' := by
  subst has
  refine zd_call (q := (mj, .ref a :: (st.take rj.2.2.2.2.2.2.2).reverse, ls, rest)) hr hd (hI _ ?_) hc
  unfold zcallV
  rw [hj]
  dsimp only
  rw [hst]
  dsimp only
  rw [if_pos hck]
  unfold zob at hw
  split at hw
  · rename_i c1 fs1 hw1
    rw [hw1]
    dsimp only
    rw [if_pos (of_decide_eq_true hw)]
  · cases hw
theorem zd_stc (hr : zMs[mi]? = some r) {i n mj : Nat} {rj : zRec} {as rest : List Value} {rv : Option Value} {d : Instr × Nat} (hd : zfind r.2.2.2.2.1 pc = some d) (hj : zMs[mj]? = some rj) (hI : ∀ nx, zcallS mi r mj ls st = some nx → zI scr mi r pc ls st w d = some nx)
    (hst : st.drop rj.2.2.2.2.2.2.2 = rest) (hck : rj.2.2.2.2.2.2.1 + 1 ≤ r.2.2.2.2.2.2.1 ∧ st.length ≤ 8 + rj.2.2.2.2.2.2.2 ∧ rj.2.2.2.2.2.2.2 ≤ st.length ∧ (mj < 95 ∨ (mj = 95 ∧ mi = 96)) ∧ rj.2.2.2.2.2.2.2 ≤ rj.2.2.1) (has : (st.take rj.2.2.2.2.2.2.2).reverse = as) (hc : zC scr mj as w = some (rv, w')) : zd scr mi pc ls st w = zd scr mi (pc + 3) ls (rv.toList ++ rest) w' := by
  subst has; subst hst
  refine zd_call (q := (mj, (st.take rj.2.2.2.2.2.2.2).reverse, ls, st.drop rj.2.2.2.2.2.2.2)) hr hd (hI _ ?_) hc
  unfold zcallS
  rw [hj]
  dsimp only
  rw [if_pos hck]
end ZL
theorem zd_invVi {scr : List Int32} {mi pc : Nat} {ls : zLs} {st : List Value} {w w' : zAW} {r : zRec} {y : Int32} {a : Nat} (hr : zMs[mi]? = some r) {i mj : Nat} {rj : zRec} {as rest : List Value} (hj : zMs[mj]? = some rj) (hf : zfind2 zCt r.2.2.2.2.2.1 i = some (0, mj))
    (hst : st.drop rj.2.2.2.2.2.2.2 = .ref a :: rest) (hck : rj.2.2.2.2.2.2.1 + 1 ≤ r.2.2.2.2.2.2.1 ∧ rest.length ≤ 8 ∧ mj < 95 ∧ rj.2.2.2.2.2.2.2 + 1 ≤ rj.2.2.1) (has : .ref a :: (st.take rj.2.2.2.2.2.2.2).reverse = as) (hw : zob w a rj.2.2.2.2.2.1 = true) (hc : zC scr mj as w = some (some (.int y), w')) (hd : zfind r.2.2.2.2.1 pc = some (.invokevirtual i, 3)) : zd scr mi pc ls st w = zd scr mi (pc + 3) ls (.int y :: rest) w' :=
  zd_inv (i := i) (n := 0) (c := 0) (fs := []) hr hd hj (fun nx h => by simp only [zI, hf]; exact h) hst hck hw has hc
theorem zd_invVv {scr : List Int32} {mi pc : Nat} {ls : zLs} {st : List Value} {w w' : zAW} {r : zRec} {a : Nat} (hr : zMs[mi]? = some r) {i mj : Nat} {rj : zRec} {as rest : List Value} (hj : zMs[mj]? = some rj) (hf : zfind2 zCt r.2.2.2.2.2.1 i = some (0, mj))
    (hst : st.drop rj.2.2.2.2.2.2.2 = .ref a :: rest) (hck : rj.2.2.2.2.2.2.1 + 1 ≤ r.2.2.2.2.2.2.1 ∧ rest.length ≤ 8 ∧ mj < 95 ∧ rj.2.2.2.2.2.2.2 + 1 ≤ rj.2.2.1) (has : .ref a :: (st.take rj.2.2.2.2.2.2.2).reverse = as) (hw : zob w a rj.2.2.2.2.2.1 = true) (hc : zC scr mj as w = some (none, w')) (hd : zfind r.2.2.2.2.1 pc = some (.invokevirtual i, 3)) : zd scr mi pc ls st w = zd scr mi (pc + 3) ls (rest) w' :=
  zd_inv (i := i) (n := 0) (c := 0) (fs := []) hr hd hj (fun nx h => by simp only [zI, hf]; exact h) hst hck hw has hc
theorem zd_invIi {scr : List Int32} {mi pc : Nat} {ls : zLs} {st : List Value} {w w' : zAW} {r : zRec} {y : Int32} {a : Nat} (hr : zMs[mi]? = some r) {i mj : Nat} {rj : zRec} {as rest : List Value} (hj : zMs[mj]? = some rj) (hf : zfind2 zCt r.2.2.2.2.2.1 i = some (2, mj))
    (hst : st.drop rj.2.2.2.2.2.2.2 = .ref a :: rest) (hck : rj.2.2.2.2.2.2.1 + 1 ≤ r.2.2.2.2.2.2.1 ∧ rest.length ≤ 8 ∧ mj < 95 ∧ rj.2.2.2.2.2.2.2 + 1 ≤ rj.2.2.1) (has : .ref a :: (st.take rj.2.2.2.2.2.2.2).reverse = as) (hw : zob w a rj.2.2.2.2.2.1 = true) (hc : zC scr mj as w = some (some (.int y), w')) (hd : zfind r.2.2.2.2.1 pc = some (.invokespecial i, 3)) : zd scr mi pc ls st w = zd scr mi (pc + 3) ls (.int y :: rest) w' :=
  zd_inv (i := i) (n := 0) (c := 0) (fs := []) hr hd hj (fun nx h => by simp only [zI, hf]; exact h) hst hck hw has hc
theorem zd_invIv {scr : List Int32} {mi pc : Nat} {ls : zLs} {st : List Value} {w w' : zAW} {r : zRec} {a : Nat} (hr : zMs[mi]? = some r) {i mj : Nat} {rj : zRec} {as rest : List Value} (hj : zMs[mj]? = some rj) (hf : zfind2 zCt r.2.2.2.2.2.1 i = some (2, mj))
    (hst : st.drop rj.2.2.2.2.2.2.2 = .ref a :: rest) (hck : rj.2.2.2.2.2.2.1 + 1 ≤ r.2.2.2.2.2.2.1 ∧ rest.length ≤ 8 ∧ mj < 95 ∧ rj.2.2.2.2.2.2.2 + 1 ≤ rj.2.2.1) (has : .ref a :: (st.take rj.2.2.2.2.2.2.2).reverse = as) (hw : zob w a rj.2.2.2.2.2.1 = true) (hc : zC scr mj as w = some (none, w')) (hd : zfind r.2.2.2.2.1 pc = some (.invokespecial i, 3)) : zd scr mi pc ls st w = zd scr mi (pc + 3) ls (rest) w' :=
  zd_inv (i := i) (n := 0) (c := 0) (fs := []) hr hd hj (fun nx h => by simp only [zI, hf]; exact h) hst hck hw has hc
theorem zd_invNi {scr : List Int32} {mi pc : Nat} {ls : zLs} {st : List Value} {w w' : zAW} {r : zRec} {y : Int32} {a : Nat} (hr : zMs[mi]? = some r) {i mj : Nat} {rj : zRec} {as rest : List Value} (hj : zMs[mj]? = some rj) (hf : zfind2 zCt r.2.2.2.2.2.1 i = some (3, mj))
    (hst : st.drop rj.2.2.2.2.2.2.2 = .ref a :: rest) (hck : rj.2.2.2.2.2.2.1 + 1 ≤ r.2.2.2.2.2.2.1 ∧ rest.length ≤ 8 ∧ mj < 95 ∧ rj.2.2.2.2.2.2.2 + 1 ≤ rj.2.2.1) (has : .ref a :: (st.take rj.2.2.2.2.2.2.2).reverse = as) (hw : zob w a rj.2.2.2.2.2.1 = true) (hc : zC scr mj as w = some (some (.int y), w')) (hd : zfind r.2.2.2.2.1 pc = some (.invokespecial i, 3)) : zd scr mi pc ls st w = zd scr mi (pc + 3) ls (.int y :: rest) w' :=
  zd_inv (i := i) (n := 0) (c := 0) (fs := []) hr hd hj (fun nx h => by simp only [zI, hf]; exact h) hst hck hw has hc
theorem zd_invNv {scr : List Int32} {mi pc : Nat} {ls : zLs} {st : List Value} {w w' : zAW} {r : zRec} {a : Nat} (hr : zMs[mi]? = some r) {i mj : Nat} {rj : zRec} {as rest : List Value} (hj : zMs[mj]? = some rj) (hf : zfind2 zCt r.2.2.2.2.2.1 i = some (3, mj))
    (hst : st.drop rj.2.2.2.2.2.2.2 = .ref a :: rest) (hck : rj.2.2.2.2.2.2.1 + 1 ≤ r.2.2.2.2.2.2.1 ∧ rest.length ≤ 8 ∧ mj < 95 ∧ rj.2.2.2.2.2.2.2 + 1 ≤ rj.2.2.1) (has : .ref a :: (st.take rj.2.2.2.2.2.2.2).reverse = as) (hw : zob w a rj.2.2.2.2.2.1 = true) (hc : zC scr mj as w = some (none, w')) (hd : zfind r.2.2.2.2.1 pc = some (.invokespecial i, 3)) : zd scr mi pc ls st w = zd scr mi (pc + 3) ls (rest) w' :=
  zd_inv (i := i) (n := 0) (c := 0) (fs := []) hr hd hj (fun nx h => by simp only [zI, hf]; exact h) hst hck hw has hc
theorem zd_invSi {scr : List Int32} {mi pc : Nat} {ls : zLs} {st : List Value} {w w' : zAW} {r : zRec} {y : Int32} (hr : zMs[mi]? = some r) {i mj : Nat} {rj : zRec} {as rest : List Value} (hj : zMs[mj]? = some rj) (hf : zfind2 zCt r.2.2.2.2.2.1 i = some (1, mj))
    (hst : st.drop rj.2.2.2.2.2.2.2 = rest) (hck : rj.2.2.2.2.2.2.1 + 1 ≤ r.2.2.2.2.2.2.1 ∧ st.length ≤ 8 + rj.2.2.2.2.2.2.2 ∧ rj.2.2.2.2.2.2.2 ≤ st.length ∧ (mj < 95 ∨ (mj = 95 ∧ mi = 96)) ∧ rj.2.2.2.2.2.2.2 ≤ rj.2.2.1) (has : (st.take rj.2.2.2.2.2.2.2).reverse = as) (hc : zC scr mj as w = some (some (.int y), w')) (hd : zfind r.2.2.2.2.1 pc = some (.invokestatic i, 3)) : zd scr mi pc ls st w = zd scr mi (pc + 3) ls (.int y :: rest) w' :=
  zd_stc (i := i) (n := 0) hr hd hj (fun nx h => by simp only [zI, hf]; exact h) hst hck has hc
theorem zd_invSv {scr : List Int32} {mi pc : Nat} {ls : zLs} {st : List Value} {w w' : zAW} {r : zRec} (hr : zMs[mi]? = some r) {i mj : Nat} {rj : zRec} {as rest : List Value} (hj : zMs[mj]? = some rj) (hf : zfind2 zCt r.2.2.2.2.2.1 i = some (1, mj))
    (hst : st.drop rj.2.2.2.2.2.2.2 = rest) (hck : rj.2.2.2.2.2.2.1 + 1 ≤ r.2.2.2.2.2.2.1 ∧ st.length ≤ 8 + rj.2.2.2.2.2.2.2 ∧ rj.2.2.2.2.2.2.2 ≤ st.length ∧ (mj < 95 ∨ (mj = 95 ∧ mi = 96)) ∧ rj.2.2.2.2.2.2.2 ≤ rj.2.2.1) (has : (st.take rj.2.2.2.2.2.2.2).reverse = as) (hc : zC scr mj as w = some (none, w')) (hd : zfind r.2.2.2.2.1 pc = some (.invokestatic i, 3)) : zd scr mi pc ls st w = zd scr mi (pc + 3) ls (rest) w' :=
  zd_stc (i := i) (n := 0) hr hd hj (fun nx h => by simp only [zI, hf]; exact h) hst hck has hc
theorem zd_invTi {scr : List Int32} {mi pc : Nat} {ls : zLs} {st : List Value} {w w' : zAW} {r : zRec} {y : Int32} (hr : zMs[mi]? = some r) {i mj : Nat} {rj : zRec} {as rest : List Value} (hj : zMs[mj]? = some rj) (hf : zfind2 zCt r.2.2.2.2.2.1 i = some (4, mj))
    (hst : st.drop rj.2.2.2.2.2.2.2 = rest) (hck : rj.2.2.2.2.2.2.1 + 1 ≤ r.2.2.2.2.2.2.1 ∧ st.length ≤ 8 + rj.2.2.2.2.2.2.2 ∧ rj.2.2.2.2.2.2.2 ≤ st.length ∧ (mj < 95 ∨ (mj = 95 ∧ mi = 96)) ∧ rj.2.2.2.2.2.2.2 ≤ rj.2.2.1) (has : (st.take rj.2.2.2.2.2.2.2).reverse = as) (hc : zC scr mj as w = some (some (.int y), w')) (hd : zfind r.2.2.2.2.1 pc = some (.invokestatic i, 3)) : zd scr mi pc ls st w = zd scr mi (pc + 3) ls (.int y :: rest) w' :=
  zd_stc (i := i) (n := 0) hr hd hj (fun nx h => by simp only [zI, hf]; exact h) hst hck has hc
theorem zd_invTv {scr : List Int32} {mi pc : Nat} {ls : zLs} {st : List Value} {w w' : zAW} {r : zRec} (hr : zMs[mi]? = some r) {i mj : Nat} {rj : zRec} {as rest : List Value} (hj : zMs[mj]? = some rj) (hf : zfind2 zCt r.2.2.2.2.2.1 i = some (4, mj))
    (hst : st.drop rj.2.2.2.2.2.2.2 = rest) (hck : rj.2.2.2.2.2.2.1 + 1 ≤ r.2.2.2.2.2.2.1 ∧ st.length ≤ 8 + rj.2.2.2.2.2.2.2 ∧ rj.2.2.2.2.2.2.2 ≤ st.length ∧ (mj < 95 ∨ (mj = 95 ∧ mi = 96)) ∧ rj.2.2.2.2.2.2.2 ≤ rj.2.2.1) (has : (st.take rj.2.2.2.2.2.2.2).reverse = as) (hc : zC scr mj as w = some (none, w')) (hd : zfind r.2.2.2.2.1 pc = some (.invokestatic i, 3)) : zd scr mi pc ls st w = zd scr mi (pc + 3) ls (rest) w' :=
  zd_stc (i := i) (n := 0) hr hd hj (fun nx h => by simp only [zI, hf]; exact h) hst hck has hc
def zr0 : zRec := (yX0_init, cX0_init, 1, none, zc0, 0, 1, 0)
theorem zh0 : zMs[0]? = some zr0 := rfl
def zr1 : zRec := (yX0_tell, cX0_tell, 2, (some .int), zc1, 0, 0, 1)
theorem zh1 : zMs[1]? = some zr1 := rfl
def zr2 : zRec := (yX0_searchIn, cX0_searchIn, 5, none, zc2, 0, 4, 1)
theorem zh2 : zMs[2]? = some zr2 := rfl
def zr3 : zRec := (yX0_searchPartners, cX0_searchPartners, 13, none, zc3, 0, 3, 3)
theorem zh3 : zMs[3]? = some zr3 := rfl
def zr4 : zRec := (yX0_one, cX0_one, 2, (some .int), zc4, 0, 0, 2)
theorem zh4 : zMs[4]? = some zr4 := rfl
def zr5 : zRec := (yX0_weigh, cX0_weigh, 9, none, zc5, 0, 2, 6)
theorem zh5 : zMs[5]? = some zr5 := rfl
def zr6 : zRec := (yX1_init, cX1_init, 1, none, zc6, 1, 1, 0)
theorem zh6 : zMs[6]? = some zr6 := rfl
def zr7 : zRec := (yX1_copyFrom, cX1_copyFrom, 2, none, zc7, 1, 1, 1)
theorem zh7 : zMs[7]? = some zr7 := rfl
def zr8 : zRec := (yX1_count, cX1_count, 2, (some .int), zc8, 1, 0, 1)
theorem zh8 : zMs[8]? = some zr8 := rfl
def zr9 : zRec := (yX1_has, cX1_has, 3, (some .boolean), zc9, 1, 1, 2)
theorem zh9 : zMs[9]? = some zr9 := rfl
def zr10 : zRec := (yX1_colour, cX1_colour, 3, (some .int), zc10, 1, 0, 2)
theorem zh10 : zMs[10]? = some zr10 := rfl
def zr11 : zRec := (yX1_value, cX1_value, 3, (some .int), zc11, 1, 0, 2)
theorem zh11 : zMs[11]? = some zr11 := rfl
def zr12 : zRec := (yX1_describe, cX1_describe, 4, (some .int), zc12, 1, 1, 3)
theorem zh12 : zMs[12]? = some zr12 := rfl
def zr13 : zRec := (yX1_sum, cX1_sum, 4, (some .int), zc13, 1, 0, 1)
theorem zh13 : zMs[13]? = some zr13 := rfl
def zr14 : zRec := (yX1_countOf, cX1_countOf, 5, (some .int), zc14, 1, 0, 2)
theorem zh14 : zMs[14]? = some zr14 := rfl
def zr15 : zRec := (yX1_hasRoom, cX1_hasRoom, 1, (some .boolean), zc15, 1, 1, 0)
theorem zh15 : zMs[15]? = some zr15 := rfl
def zr16 : zRec := (yX1_add, cX1_add, 3, (some .boolean), zc16, 1, 2, 2)
theorem zh16 : zMs[16]? = some zr16 := rfl
def zr17 : zRec := (yX1_giveFirstTo, cX1_giveFirstTo, 6, none, zc17, 1, 1, 1)
theorem zh17 : zMs[17]? = some zr17 := rfl
def zr18 : zRec := (yX1_trade, cX1_trade, 8, none, zc18, 1, 0, 4)
theorem zh18 : zMs[18]? = some zr18 := rfl
def zr19 : zRec := (yX1_removeBag, cX1_removeBag, 4, none, zc19, 1, 1, 1)
theorem zh19 : zMs[19]? = some zr19 := rfl
def zr20 : zRec := (yX2_init, cX2_init, 2, none, zc20, 2, 3, 0)
theorem zh20 : zMs[20]? = some zr20 := rfl
def zr21 : zRec := (yX2_keep, cX2_keep, 2, none, zc21, 2, 3, 1)
theorem zh21 : zMs[21]? = some zr21 := rfl
def zr22 : zRec := (yX2_discardOldest, cX2_discardOldest, 3, none, zc22, 2, 0, 0)
theorem zh22 : zMs[22]? = some zr22 := rfl
def zr23 : zRec := (yX2_takeBack, cX2_takeBack, 2, none, zc23, 2, 3, 1)
theorem zh23 : zMs[23]? = some zr23 := rfl
def zr24 : zRec := (yX3_init, cX3_init, 2, none, zc24, 3, 2, 0)
theorem zh24 : zMs[24]? = some zr24 := rfl
def zr25 : zRec := (yX3_copyFrom, cX3_copyFrom, 2, none, zc25, 3, 2, 1)
theorem zh25 : zMs[25]? = some zr25 := rfl
def zr26 : zRec := (yX3_hasHeir, cX3_hasHeir, 2, (some .boolean), zc26, 3, 0, 1)
theorem zh26 : zMs[26]? = some zr26 := rfl
def zr27 : zRec := (yX3_hasMarble, cX3_hasMarble, 3, (some .boolean), zc27, 3, 2, 2)
theorem zh27 : zMs[27]? = some zr27 := rfl
def zr28 : zRec := (yX3_addHeir, cX3_addHeir, 4, (some .int), zc28, 3, 0, 2)
theorem zh28 : zMs[28]? = some zr28 := rfl
def zr29 : zRec := (yX3_removeHeir, cX3_removeHeir, 3, none, zc29, 3, 2, 1)
theorem zh29 : zMs[29]? = some zr29 := rfl
def zr30 : zRec := (yX3_placeOf, cX3_placeOf, 3, (some .int), zc30, 3, 0, 1)
theorem zh30 : zMs[30]? = some zr30 := rfl
def zr31 : zRec := (yX3_playAllRounds, cX3_playAllRounds, 3, (some .int), zc31, 3, 4, 0)
theorem zh31 : zMs[31]? = some zr31 := rfl
def zr32 : zRec := (yX3_playRound, cX3_playRound, 3, (some .int), zc32, 3, 3, 0)
theorem zh32 : zMs[32]? = some zr32 := rfl
def zr33 : zRec := (yX3_giveInOrder, cX3_giveInOrder, 3, none, zc33, 3, 2, 1)
theorem zh33 : zMs[33]? = some zr33 := rfl
def zr34 : zRec := (yX3_giveToPoorest, cX3_giveToPoorest, 5, none, zc34, 3, 2, 1)
theorem zh34 : zMs[34]? = some zr34 := rfl
def zr35 : zRec := (yX3_poorestBut, cX3_poorestBut, 7, (some .int), zc35, 3, 1, 1)
theorem zh35 : zMs[35]? = some zr35 := rfl
def zr36 : zRec := (yX3_exchangeUnlessVetoed, cX3_exchangeUnlessVetoed, 6, (some .int), zc36, 3, 2, 4)
theorem zh36 : zMs[36]? = some zr36 := rfl
def zr37 : zRec := (yX3_exchange, cX3_exchange, 5, none, zc37, 3, 1, 4)
theorem zh37 : zMs[37]? = some zr37 := rfl
def zr38 : zRec := (yX3_vetoer, cX3_vetoer, 6, (some .int), zc38, 3, 1, 4)
theorem zh38 : zMs[38]? = some zr38 := rfl
def zr39 : zRec := (yX3_objects, cX3_objects, 3, (some .boolean), zc39, 3, 0, 2)
theorem zh39 : zMs[39]? = some zr39 := rfl
def zr40 : zRec := (yX3_about, cX3_about, 3, (some .int), zc40, 3, 1, 2)
theorem zh40 : zMs[40]? = some zr40 := rfl
def zr41 : zRec := (yX3_figure, cX3_figure, 2, (some .int), zc41, 3, 3, 1)
theorem zh41 : zMs[41]? = some zr41 := rfl
def zr42 : zRec := (yX3_overAll, cX3_overAll, 4, (some .int), zc42, 3, 2, 1)
theorem zh42 : zMs[42]? = some zr42 := rfl
def zr43 : zRec := (yX3_spread, cX3_spread, 6, (some .int), zc43, 3, 2, 1)
theorem zh43 : zMs[43]? = some zr43 := rfl
def zr44 : zRec := (yX4_init, cX4_init, 1, none, zc44, 4, 1, 0)
theorem zh44 : zMs[44]? = some zr44 := rfl
def zr52 : zRec := (yX5_init, cX5_init, 1, none, zc52, 5, 4, 0)
theorem zh52 : zMs[52]? = some zr52 := rfl
def zr53 : zRec := (yX5_come, cX5_come, 3, (some .int), zc53, 5, 4, 2)
theorem zh53 : zMs[53]? = some zr53 := rfl
def zr54 : zRec := (yX5_leave, cX5_leave, 3, (some .int), zc54, 5, 4, 1)
theorem zh54 : zMs[54]? = some zr54 := rfl
def zr55 : zRec := (yX5_wish, cX5_wish, 3, (some .int), zc55, 5, 4, 2)
theorem zh55 : zMs[55]? = some zr55 := rfl
def zr56 : zRec := (yX5_setRule, cX5_setRule, 3, (some .int), zc56, 5, 4, 1)
theorem zh56 : zMs[56]? = some zr56 := rfl
def zr57 : zRec := (yX5_setPatience, cX5_setPatience, 3, (some .int), zc57, 5, 4, 1)
theorem zh57 : zMs[57]? = some zr57 := rfl
def zr58 : zRec := (yX5_grant, cX5_grant, 4, (some .int), zc58, 5, 4, 2)
theorem zh58 : zMs[58]? = some zr58 := rfl
def zr59 : zRec := (yX5_drop, cX5_drop, 3, (some .int), zc59, 5, 4, 2)
theorem zh59 : zMs[59]? = some zr59 := rfl
def zr60 : zRec := (yX5_round, cX5_round, 1, (some .int), zc60, 5, 4, 0)
theorem zh60 : zMs[60]? = some zr60 := rfl
def zr61 : zRec := (yX5_divide, cX5_divide, 1, (some .int), zc61, 5, 5, 0)
theorem zh61 : zMs[61]? = some zr61 := rfl
def zr62 : zRec := (yX5_swap, cX5_swap, 6, (some .int), zc62, 5, 4, 4)
theorem zh62 : zMs[62]? = some zr62 := rfl
def zr63 : zRec := (yX5_settle, cX5_settle, 2, (some .int), zc63, 5, 5, 0)
theorem zh63 : zMs[63]? = some zr63 := rfl
def zr64 : zRec := (yX5_heir, cX5_heir, 3, (some .int), zc64, 5, 2, 2)
theorem zh64 : zMs[64]? = some zr64 := rfl
def zr65 : zRec := (yX5_bag, cX5_bag, 4, (some .int), zc65, 5, 3, 3)
theorem zh65 : zMs[65]? = some zr65 := rfl
def zr66 : zRec := (yX5_hopper, cX5_hopper, 3, (some .int), zc66, 5, 2, 2)
theorem zh66 : zMs[66]? = some zr66 := rfl
def zr67 : zRec := (yX5_vetoes, cX5_vetoes, 2, (some .int), zc67, 5, 1, 1)
theorem zh67 : zMs[67]? = some zr67 := rfl
def zr68 : zRec := (yX5_at, cX5_at, 2, (some .int), zc68, 5, 0, 1)
theorem zh68 : zMs[68]? = some zr68 := rfl
def zr69 : zRec := (yX5_total, cX5_total, 2, (some .int), zc69, 5, 4, 1)
theorem zh69 : zMs[69]? = some zr69 := rfl
def zr70 : zRec := (yX5_ifDivided, cX5_ifDivided, 3, (some .int), zc70, 5, 5, 2)
theorem zh70 : zMs[70]? = some zr70 := rfl
def zr71 : zRec := (yX5_fairestRule, cX5_fairestRule, 5, (some .int), zc71, 5, 6, 0)
theorem zh71 : zMs[71]? = some zr71 := rfl
def zr72 : zRec := (yX5_whoVetoes, cX5_whoVetoes, 6, (some .int), zc72, 5, 4, 4)
theorem zh72 : zMs[72]? = some zr72 := rfl
def zr73 : zRec := (yX5_bestSwap, cX5_bestSwap, 2, (some .int), zc73, 5, 5, 1)
theorem zh73 : zMs[73]? = some zr73 := rfl
def zr78 : zRec := (yX5_undo, cX5_undo, 1, (some .int), zc78, 5, 4, 0)
theorem zh78 : zMs[78]? = some zr78 := rfl
def zr80 : zRec := (yX5_restore, cX5_restore, 1, (some .int), zc80, 5, 4, 0)
theorem zh80 : zMs[80]? = some zr80 := rfl
def zr81 : zRec := (yX5_isMother, cX5_isMother, 1, (some .boolean), zc81, 5, 0, 1)
theorem zh81 : zMs[81]? = some zr81 := rfl
def zr82 : zRec := (yX5_isColour, cX5_isColour, 1, (some .boolean), zc82, 5, 0, 1)
theorem zh82 : zMs[82]? = some zr82 := rfl
def zr83 : zRec := (yX5_moveBack, cX5_moveBack, 5, none, zc83, 5, 0, 3)
theorem zh83 : zMs[83]? = some zr83 := rfl
def zr84 : zRec := (yX5_swapError, cX5_swapError, 5, (some .int), zc84, 5, 3, 4)
theorem zh84 : zMs[84]? = some zr84 := rfl
def zr85 : zRec := (yX5_spreadUnder, cX5_spreadUnder, 2, (some .int), zc85, 5, 5, 1)
theorem zh85 : zMs[85]? = some zr85 := rfl
def zr86 : zRec := (yL_low, cL_low, 2, (some .int), zc86, 7, 0, 2)
theorem zh86 : zMs[86]? = some zr86 := rfl
def zr87 : zRec := (yL_drops, cL_drops, 7, (some .boolean), zc87, 7, 5, 3)
theorem zh87 : zMs[87]? = some zr87 := rfl
def zr88 : zRec := (yL_rounds, cL_rounds, 11, (some .boolean), zc88, 7, 5, 2)
theorem zh88 : zMs[88]? = some zr88 := rfl
def zr89 : zRec := (yL_divides, cL_divides, 9, (some .boolean), zc89, 7, 7, 2)
theorem zh89 : zMs[89]? = some zr89 := rfl
def zr90 : zRec := (yL_swaps, cL_swaps, 18, (some .boolean), zc90, 7, 5, 5)
theorem zh90 : zMs[90]? = some zr90 := rfl
def zr91 : zRec := (yL_isBest, cL_isBest, 15, (some .boolean), zc91, 7, 6, 1)
theorem zh91 : zMs[91]? = some zr91 := rfl
def zr92 : zRec := (yL_isFair, cL_isFair, 6, (some .boolean), zc92, 7, 7, 1)
theorem zh92 : zMs[92]? = some zr92 := rfl
def zr93 : zRec := (yL_holds, cL_holds, 16, (some .boolean), zc93, 7, 7, 1)
theorem zh93 : zMs[93]? = some zr93 := rfl
def zr94 : zRec := (yL_change, cL_change, 15, (some .boolean), zc94, 7, 8, 4)
theorem zh94 : zMs[94]? = some zr94 := rfl
def zr95 : zRec := (yL_cell, cL_cell, 2, (some .int), zc95, 7, 0, 2)
theorem zh95 : zMs[95]? = some zr95 := rfl
def zr96 : zRec := (yL_law, cL_law, 5, (some .boolean), zc96, 7, 9, 1)
theorem zh96 : zMs[96]? = some zr96 := rfl
