/-! one law an instruction, over runs -/
section ZL
variable {scr : List Int32} {mi pc : Nat} {ls ls' : zLs} {st : List Value} {w w' : zAW} {r : zRec} {x y : Int32} {a a1 : Nat}
def zrem (x y : Int32) : Int32 := x - x / y * y
theorem zd_iconst (hr : zMs[mi]? = some r) {n : Int} {v : Int32} (hv : Int32.ofInt n = v) (hd : zfind r.2.2.2.2.1 pc = some (.iconst n, 1)) : zd scr mi pc ls (st) w = zd scr mi (pc + 1) ls (.int v :: st) w := zd_step (q := (pc + 1, ls, .int v :: st, w)) hr hd (by subst hv; rfl)
theorem zd_bipush (hr : zMs[mi]? = some r) {n : Int} {v : Int32} (hv : (Int8.ofInt n).toInt32 = v) (hd : zfind r.2.2.2.2.1 pc = some (.bipush n, 2)) : zd scr mi pc ls (st) w = zd scr mi (pc + 2) ls (.int v :: st) w := zd_step (q := (pc + 2, ls, .int v :: st, w)) hr hd (by subst hv; rfl)
theorem zd_sipush (hr : zMs[mi]? = some r) {n : Int} {v : Int32} (hv : (Int16.ofInt n).toInt32 = v) (hd : zfind r.2.2.2.2.1 pc = some (.sipush n, 3)) : zd scr mi pc ls (st) w = zd scr mi (pc + 3) ls (.int v :: st) w := zd_step (q := (pc + 3, ls, .int v :: st, w)) hr hd (by subst hv; rfl)
theorem zd_iload_n (hr : zMs[mi]? = some r) {k : Fin 4} (hl : zld ls k = some (.int x)) (hd : zfind r.2.2.2.2.1 pc = some (.iload_n k, 1)) : zd scr mi pc ls (st) w = zd scr mi (pc + 1) ls (.int x :: st) w := zd_step (q := (pc + 1, ls, .int x :: st, w)) hr hd (by simp only [zI, hl])
theorem zd_iload (hr : zMs[mi]? = some r) {k : Nat} (hl : zld ls k = some (.int x)) (hd : zfind r.2.2.2.2.1 pc = some (.iload k, 2)) : zd scr mi pc ls (st) w = zd scr mi (pc + 2) ls (.int x :: st) w := zd_step (q := (pc + 2, ls, .int x :: st, w)) hr hd (by simp only [zI, hl])
theorem zd_aload_n (hr : zMs[mi]? = some r) {k : Fin 4} (hl : zld ls k = some (.ref a)) (hd : zfind r.2.2.2.2.1 pc = some (.aload_n k, 1)) : zd scr mi pc ls (st) w = zd scr mi (pc + 1) ls (.ref a :: st) w := zd_step (q := (pc + 1, ls, .ref a :: st, w)) hr hd (by simp only [zI, hl])
theorem zd_aload_s (hr : zMs[mi]? = some r) {k : Fin 4} (hl : zld ls k = some (.retAddr a)) (hd : zfind r.2.2.2.2.1 pc = some (.aload_n k, 1)) : zd scr mi pc ls (st) w = zd scr mi (pc + 1) ls (.retAddr a :: st) w := zd_step (q := (pc + 1, ls, .retAddr a :: st, w)) hr hd (by simp only [zI, hl])
theorem zd_istore_n (hr : zMs[mi]? = some r) {k : Fin 4} (hk : (k : Nat) < ls.length) (hs : ls.set k (some (.int x)) = ls') (hd : zfind r.2.2.2.2.1 pc = some (.istore_n k, 1)) : zd scr mi pc ls (.int x :: st) w = zd scr mi (pc + 1) ls' (st) w := zd_step (q := (pc + 1, ls', st, w)) hr hd (by subst hs; simp only [zI, hk, if_true])
theorem zd_istore (hr : zMs[mi]? = some r) {k : Nat} (hk : k < ls.length) (hs : ls.set k (some (.int x)) = ls') (hd : zfind r.2.2.2.2.1 pc = some (.istore k, 2)) : zd scr mi pc ls (.int x :: st) w = zd scr mi (pc + 2) ls' (st) w := zd_step (q := (pc + 2, ls', st, w)) hr hd (by subst hs; simp only [zI, hk, if_true])
theorem zd_astore_n (hr : zMs[mi]? = some r) {k : Fin 4} (hk : (k : Nat) < ls.length) (hs : ls.set k (some (.ref a)) = ls') (hd : zfind r.2.2.2.2.1 pc = some (.astore_n k, 1)) : zd scr mi pc ls (.ref a :: st) w = zd scr mi (pc + 1) ls' (st) w := zd_step (q := (pc + 1, ls', st, w)) hr hd (by subst hs; simp only [zI, hk, if_true])
theorem zd_iinc (hr : zMs[mi]? = some r) {k : Nat} {n : Int} {v : Int32} (hl : zld ls k = some (.int x)) (hv : x + Int32.ofInt n = v) (hs : ls.set k (some (.int v)) = ls') (hd : zfind r.2.2.2.2.1 pc = some (.iinc k n, 3)) : zd scr mi pc ls (st) w = zd scr mi (pc + 3) ls' (st) w := zd_step (q := (pc + 3, ls', st, w)) hr hd (by subst hv; subst hs; simp only [zI, hl])
theorem zd_iadd (hr : zMs[mi]? = some r) (hd : zfind r.2.2.2.2.1 pc = some (.iadd, 1)) : zd scr mi pc ls (.int y :: .int x :: st) w = zd scr mi (pc + 1) ls (.int (x + y) :: st) w := zd_step (q := (pc + 1, ls, .int (x + y) :: st, w)) hr hd (rfl)
theorem zd_isub (hr : zMs[mi]? = some r) (hd : zfind r.2.2.2.2.1 pc = some (.isub, 1)) : zd scr mi pc ls (.int y :: .int x :: st) w = zd scr mi (pc + 1) ls (.int (x - y) :: st) w := zd_step (q := (pc + 1, ls, .int (x - y) :: st, w)) hr hd (rfl)
theorem zd_imul (hr : zMs[mi]? = some r) (hd : zfind r.2.2.2.2.1 pc = some (.imul, 1)) : zd scr mi pc ls (.int y :: .int x :: st) w = zd scr mi (pc + 1) ls (.int (x * y) :: st) w := zd_step (q := (pc + 1, ls, .int (x * y) :: st, w)) hr hd (rfl)
theorem zd_iand (hr : zMs[mi]? = some r) (hd : zfind r.2.2.2.2.1 pc = some (.iand, 1)) : zd scr mi pc ls (.int y :: .int x :: st) w = zd scr mi (pc + 1) ls (.int (x &&& y) :: st) w := zd_step (q := (pc + 1, ls, .int (x &&& y) :: st, w)) hr hd (rfl)
theorem zd_ior (hr : zMs[mi]? = some r) (hd : zfind r.2.2.2.2.1 pc = some (.ior, 1)) : zd scr mi pc ls (.int y :: .int x :: st) w = zd scr mi (pc + 1) ls (.int (x ||| y) :: st) w := zd_step (q := (pc + 1, ls, .int (x ||| y) :: st, w)) hr hd (rfl)
theorem zd_ishl (hr : zMs[mi]? = some r) (hd : zfind r.2.2.2.2.1 pc = some (.ishl, 1)) : zd scr mi pc ls (.int y :: .int x :: st) w = zd scr mi (pc + 1) ls (.int (x <<< (y &&& 31)) :: st) w := zd_step (q := (pc + 1, ls, .int (x <<< (y &&& 31)) :: st, w)) hr hd (rfl)
theorem zd_ishr (hr : zMs[mi]? = some r) (hd : zfind r.2.2.2.2.1 pc = some (.ishr, 1)) : zd scr mi pc ls (.int y :: .int x :: st) w = zd scr mi (pc + 1) ls (.int (x >>> (y &&& 31)) :: st) w := zd_step (q := (pc + 1, ls, .int (x >>> (y &&& 31)) :: st, w)) hr hd (rfl)
theorem zd_idiv (hr : zMs[mi]? = some r) (hy : ¬ y = 0) (hd : zfind r.2.2.2.2.1 pc = some (.idiv, 1)) : zd scr mi pc ls (.int y :: .int x :: st) w = zd scr mi (pc + 1) ls (.int (x / y) :: st) w := zd_step (q := (pc + 1, ls, .int (x / y) :: st, w)) hr hd (by simp only [zI, if_neg hy])
theorem zd_irem (hr : zMs[mi]? = some r) (hy : ¬ y = 0) (hd : zfind r.2.2.2.2.1 pc = some (.irem, 1)) : zd scr mi pc ls (.int y :: .int x :: st) w = zd scr mi (pc + 1) ls (.int (zrem x y) :: st) w := zd_step (q := (pc + 1, ls, .int (zrem x y) :: st, w)) hr hd (by simp only [zI, if_neg hy]; rfl)
theorem zd_ineg (hr : zMs[mi]? = some r) (hd : zfind r.2.2.2.2.1 pc = some (.ineg, 1)) : zd scr mi pc ls (.int x :: st) w = zd scr mi (pc + 1) ls (.int (-x) :: st) w := zd_step (q := (pc + 1, ls, .int (-x) :: st, w)) hr hd (rfl)
theorem zd_dup (hr : zMs[mi]? = some r) {v : Value} (hd : zfind r.2.2.2.2.1 pc = some (.dup, 1)) : zd scr mi pc ls (v :: st) w = zd scr mi (pc + 1) ls (v :: v :: st) w := zd_step (q := (pc + 1, ls, v :: v :: st, w)) hr hd (rfl)
theorem zd_dup2 (hr : zMs[mi]? = some r) {v u : Value} (hd : zfind r.2.2.2.2.1 pc = some (.dup2, 1)) : zd scr mi pc ls (v :: u :: st) w = zd scr mi (pc + 1) ls (v :: u :: v :: u :: st) w := zd_step (q := (pc + 1, ls, v :: u :: v :: u :: st, w)) hr hd (rfl)
theorem zd_pop (hr : zMs[mi]? = some r) {v : Value} (hd : zfind r.2.2.2.2.1 pc = some (.pop, 1)) : zd scr mi pc ls (v :: st) w = zd scr mi (pc + 1) ls (st) w := zd_step (q := (pc + 1, ls, st, w)) hr hd (rfl)
theorem zd_getfield (hr : zMs[mi]? = some r) {i ci k : Nat} {v : Value} (hf : zfind2 zFt r.2.2.2.2.2.1 i = some (ci, k)) (h : zgf w a ci k = some v) (hd : zfind r.2.2.2.2.1 pc = some (.getfield i, 3)) : zd scr mi pc ls (.ref a :: st) w = zd scr mi (pc + 3) ls (v :: st) w := zd_step (q := (pc + 3, ls, v :: st, w)) hr hd (by simp only [zI, hf, h])
theorem zd_putfield (hr : zMs[mi]? = some r) {i ci k : Nat} {v : Value} (hf : zfind2 zFt r.2.2.2.2.2.1 i = some (ci, k)) (hok : zpok r ci k v = true) (h : zpf w a ci k v = some w') (hd : zfind r.2.2.2.2.1 pc = some (.putfield i, 3)) : zd scr mi pc ls (v :: .ref a :: st) w = zd scr mi (pc + 3) ls (st) w' := zd_step (q := (pc + 3, ls, st, w')) hr hd (by simp only [zI, hf, hok, h, if_true])
theorem zd_iaload (hr : zMs[mi]? = some r) (h : zal w a y = some x) (hd : zfind r.2.2.2.2.1 pc = some (.iaload, 1)) : zd scr mi pc ls (.int y :: .ref a :: st) w = zd scr mi (pc + 1) ls (.int x :: st) w := zd_step (q := (pc + 1, ls, .int x :: st, w)) hr hd (by simp only [zI, h])
theorem zd_iastore (hr : zMs[mi]? = some r) (h : zas w a y x = some w') (hd : zfind r.2.2.2.2.1 pc = some (.iastore, 1)) : zd scr mi pc ls (.int x :: .int y :: .ref a :: st) w = zd scr mi (pc + 1) ls (st) w' := zd_step (q := (pc + 1, ls, st, w')) hr hd (by simp only [zI, h])
theorem zd_aaload (hr : zMs[mi]? = some r) (h : zql w a y = some a1) (hd : zfind r.2.2.2.2.1 pc = some (.aaload, 1)) : zd scr mi pc ls (.int y :: .ref a :: st) w = zd scr mi (pc + 1) ls (.ref a1 :: st) w := zd_step (q := (pc + 1, ls, .ref a1 :: st, w)) hr hd (by simp only [zI, h])
theorem zd_aastore (hr : zMs[mi]? = some r) (h : zqs w a y a1 = some w') (hd : zfind r.2.2.2.2.1 pc = some (.aastore, 1)) : zd scr mi pc ls (.ref a1 :: .int y :: .ref a :: st) w = zd scr mi (pc + 1) ls (st) w' := zd_step (q := (pc + 1, ls, st, w')) hr hd (by simp only [zI, h])
theorem zd_max (hr : zMs[mi]? = some r) {i q : Nat} (hf : zfind2 zCt r.2.2.2.2.2.1 i = some (7, q)) (hc : st.length ≤ 8 ∧ 1 ≤ r.2.2.2.2.2.2.1) (hd : zfind r.2.2.2.2.1 pc = some (.invokestatic i, 3)) : zd scr mi pc ls (.int y :: .int x :: st) w = zd scr mi (pc + 3) ls (.int (if x < y then y else x) :: st) w := zd_step (q := (pc + 3, ls, .int (if x < y then y else x) :: st, w)) hr hd (by simp only [zI, hf, if_pos hc])
theorem zd_min (hr : zMs[mi]? = some r) {i q : Nat} (hf : zfind2 zCt r.2.2.2.2.2.1 i = some (8, q)) (hc : st.length ≤ 8 ∧ 1 ≤ r.2.2.2.2.2.2.1) (hd : zfind r.2.2.2.2.1 pc = some (.invokestatic i, 3)) : zd scr mi pc ls (.int y :: .int x :: st) w = zd scr mi (pc + 3) ls (.int (if y < x then y else x) :: st) w := zd_step (q := (pc + 3, ls, .int (if y < x then y else x) :: st, w)) hr hd (by simp only [zI, hf, if_pos hc])
theorem zd_abs (hr : zMs[mi]? = some r) {i q : Nat} (hf : zfind2 zCt r.2.2.2.2.2.1 i = some (9, q)) (hc : st.length ≤ 8 ∧ 1 ≤ r.2.2.2.2.2.2.1) (hd : zfind r.2.2.2.2.1 pc = some (.invokestatic i, 3)) : zd scr mi pc ls (.int x :: st) w = zd scr mi (pc + 3) ls (.int (if 0 ≤ x then x else 0 - x) :: st) w := zd_step (q := (pc + 3, ls, .int (if 0 ≤ x then x else 0 - x) :: st, w)) hr hd (by simp only [zI, hf, if_pos hc])
theorem zd_copy (hr : zMs[mi]? = some r) {i q : Nat} {n : Int32} (hf : zfind2 zCt r.2.2.2.2.2.1 i = some (6, q)) (hc : st.length ≤ 8 ∧ 1 ≤ r.2.2.2.2.2.2.1) (h : zcp w a x a1 y n = some w') (hd : zfind r.2.2.2.2.1 pc = some (.invokestatic i, 3)) : zd scr mi pc ls (.int n :: .int y :: .ref a1 :: .int x :: .ref a :: st) w = zd scr mi (pc + 3) ls (st) w' := zd_step (q := (pc + 3, ls, st, w')) hr hd (by simp only [zI, hf, if_pos hc, h])
theorem zd_objinit (hr : zMs[mi]? = some r) {i q : Nat} (hf : zfind2 zCt r.2.2.2.2.2.1 i = some (5, q)) (hc : st.length ≤ 8 ∧ 1 ≤ r.2.2.2.2.2.2.1) (hd : zfind r.2.2.2.2.1 pc = some (.invokespecial i, 3)) : zd scr mi pc ls (.ref a :: st) w = zd scr mi (pc + 3) ls (st) w := zd_step (q := (pc + 3, ls, st, w)) hr hd (by simp only [zI, hf, if_pos hc])
theorem zd_goto (hr : zMs[mi]? = some r) {off : Int} {t : Nat} (ht : (pc : Int) + off = (t : Int)) (hd : zfind r.2.2.2.2.1 pc = some (.goto off, 3)) : zd scr mi pc ls st w = zd scr mi t ls st w := zd_step (q := (t, ls, st, w)) hr hd (by
  show zjmp pc off ls st w = _
  unfold zjmp
  rw [ht, if_pos (by omega)]; rfl)
theorem zd_sld (hr : zMs[154]? = some r) (h : ¬ y < 0) (h2 : scr[y.toNatClampNeg]? = some x) (hd : zfind r.2.2.2.2.1 pc = some (.iaload, 1)) : zd scr 154 pc ls (.int y :: .retAddr a :: st) w = zd scr 154 (pc + 1) ls (.int x :: st) w := zd_step (q := (pc + 1, ls, .int x :: st, w)) hr hd (by
  simp only [zI, h2]; rw [if_pos ⟨trivial, h⟩])
theorem zd_slen (hr : zMs[154]? = some r) (hd : zfind r.2.2.2.2.1 pc = some (.arraylength, 1)) : zd scr 154 pc ls (.retAddr a :: st) w = zd scr 154 (pc + 1) ls (.int (Int32.ofNat scr.length) :: st) w := zd_step (q := (pc + 1, ls, .int (Int32.ofNat scr.length) :: st, w)) hr hd (by
  simp only [zI, if_true])
theorem zd_ifeq (hr : zMs[mi]? = some r) {off : Int} {t : Nat} (ht : (pc : Int) + off = (t : Int)) (hd : zfind r.2.2.2.2.1 pc = some (.ifCond .eq off, 3)) : zd scr mi pc ls (.int x :: st) w = if x = 0 then zd scr mi t ls st w else zd scr mi (pc + 3) ls st w := by
  have h0 : 0 ≤ (pc : Int) + off := by omega
  by_cases h : x = 0
  · rw [if_pos h]
    refine zd_step (q := (t, ls, st, w)) hr hd ?_
    simp only [zI, zcmp0]
    first
      | (rw [decide_eq_true (by first | exact h | (intro q; first | exact absurd h (Int32.not_lt.mpr q) | exact absurd h (Int32.not_le.mpr q) | exact absurd q h))]; simp only [zbr, zjmp]; rw [ht, if_pos (by omega)]; rfl)
      | (rw [decide_eq_false (by first | exact h | exact fun q => q h | exact Int32.not_le.mpr h | exact Int32.not_lt.mpr h)]; simp only [zbr]; rw [if_pos h0])
  · rw [if_neg h]
    refine zd_step (q := ((pc + 3), ls, st, w)) hr hd ?_
    simp only [zI, zcmp0]
    first
      | (rw [decide_eq_true (by first | exact h | exact Int32.not_lt.mp h | exact Int32.not_le.mp h)]; simp only [zbr, zjmp]; rw [ht, if_pos (by omega)]; rfl)
      | (rw [decide_eq_false (by first | exact h | exact fun q => h q)]; simp only [zbr]; rw [if_pos h0])
theorem zd_ifne (hr : zMs[mi]? = some r) {off : Int} {t : Nat} (ht : (pc : Int) + off = (t : Int)) (hd : zfind r.2.2.2.2.1 pc = some (.ifCond .ne off, 3)) : zd scr mi pc ls (.int x :: st) w = if x = 0 then zd scr mi (pc + 3) ls st w else zd scr mi t ls st w := by
  have h0 : 0 ≤ (pc : Int) + off := by omega
  by_cases h : x = 0
  · rw [if_pos h]
    refine zd_step (q := ((pc + 3), ls, st, w)) hr hd ?_
    simp only [zI, zcmp0]
    first
      | (rw [decide_eq_true (by first | exact h | (intro q; first | exact absurd h (Int32.not_lt.mpr q) | exact absurd h (Int32.not_le.mpr q) | exact absurd q h))]; simp only [zbr, zjmp]; rw [ht, if_pos (by omega)]; rfl)
      | (rw [decide_eq_false (by first | exact h | exact fun q => q h | exact Int32.not_le.mpr h | exact Int32.not_lt.mpr h)]; simp only [zbr]; rw [if_pos h0])
  · rw [if_neg h]
    refine zd_step (q := (t, ls, st, w)) hr hd ?_
    simp only [zI, zcmp0]
    first
      | (rw [decide_eq_true (by first | exact h | exact Int32.not_lt.mp h | exact Int32.not_le.mp h)]; simp only [zbr, zjmp]; rw [ht, if_pos (by omega)]; rfl)
      | (rw [decide_eq_false (by first | exact h | exact fun q => h q)]; simp only [zbr]; rw [if_pos h0])
theorem zd_iflt (hr : zMs[mi]? = some r) {off : Int} {t : Nat} (ht : (pc : Int) + off = (t : Int)) (hd : zfind r.2.2.2.2.1 pc = some (.ifCond .lt off, 3)) : zd scr mi pc ls (.int x :: st) w = if x < 0 then zd scr mi t ls st w else zd scr mi (pc + 3) ls st w := by
  have h0 : 0 ≤ (pc : Int) + off := by omega
  by_cases h : x < 0
  · rw [if_pos h]
    refine zd_step (q := (t, ls, st, w)) hr hd ?_
    simp only [zI, zcmp0]
    first
      | (rw [decide_eq_true (by first | exact h | (intro q; first | exact absurd h (Int32.not_lt.mpr q) | exact absurd h (Int32.not_le.mpr q) | exact absurd q h))]; simp only [zbr, zjmp]; rw [ht, if_pos (by omega)]; rfl)
      | (rw [decide_eq_false (by first | exact h | exact fun q => q h | exact Int32.not_le.mpr h | exact Int32.not_lt.mpr h)]; simp only [zbr]; rw [if_pos h0])
  · rw [if_neg h]
    refine zd_step (q := ((pc + 3), ls, st, w)) hr hd ?_
    simp only [zI, zcmp0]
    first
      | (rw [decide_eq_true (by first | exact h | exact Int32.not_lt.mp h | exact Int32.not_le.mp h)]; simp only [zbr, zjmp]; rw [ht, if_pos (by omega)]; rfl)
      | (rw [decide_eq_false (by first | exact h | exact fun q => h q)]; simp only [zbr]; rw [if_pos h0])
theorem zd_ifge (hr : zMs[mi]? = some r) {off : Int} {t : Nat} (ht : (pc : Int) + off = (t : Int)) (hd : zfind r.2.2.2.2.1 pc = some (.ifCond .ge off, 3)) : zd scr mi pc ls (.int x :: st) w = if x < 0 then zd scr mi (pc + 3) ls st w else zd scr mi t ls st w := by
  have h0 : 0 ≤ (pc : Int) + off := by omega
  by_cases h : x < 0
  · rw [if_pos h]
    refine zd_step (q := ((pc + 3), ls, st, w)) hr hd ?_
    simp only [zI, zcmp0]
    first
      | (rw [decide_eq_true (by first | exact h | (intro q; first | exact absurd h (Int32.not_lt.mpr q) | exact absurd h (Int32.not_le.mpr q) | exact absurd q h))]; simp only [zbr, zjmp]; rw [ht, if_pos (by omega)]; rfl)
      | (rw [decide_eq_false (by first | exact h | exact fun q => q h | exact Int32.not_le.mpr h | exact Int32.not_lt.mpr h)]; simp only [zbr]; rw [if_pos h0])
  · rw [if_neg h]
    refine zd_step (q := (t, ls, st, w)) hr hd ?_
    simp only [zI, zcmp0]
    first
      | (rw [decide_eq_true (by first | exact h | exact Int32.not_lt.mp h | exact Int32.not_le.mp h)]; simp only [zbr, zjmp]; rw [ht, if_pos (by omega)]; rfl)
      | (rw [decide_eq_false (by first | exact h | exact fun q => h q)]; simp only [zbr]; rw [if_pos h0])
theorem zd_ifgt (hr : zMs[mi]? = some r) {off : Int} {t : Nat} (ht : (pc : Int) + off = (t : Int)) (hd : zfind r.2.2.2.2.1 pc = some (.ifCond .gt off, 3)) : zd scr mi pc ls (.int x :: st) w = if x ≤ 0 then zd scr mi (pc + 3) ls st w else zd scr mi t ls st w := by
  have h0 : 0 ≤ (pc : Int) + off := by omega
  by_cases h : x ≤ 0
  · rw [if_pos h]
    refine zd_step (q := ((pc + 3), ls, st, w)) hr hd ?_
    simp only [zI, zcmp0]
    first
      | (rw [decide_eq_true (by first | exact h | (intro q; first | exact absurd h (Int32.not_lt.mpr q) | exact absurd h (Int32.not_le.mpr q) | exact absurd q h))]; simp only [zbr, zjmp]; rw [ht, if_pos (by omega)]; rfl)
      | (rw [decide_eq_false (by first | exact h | exact fun q => q h | exact Int32.not_le.mpr h | exact Int32.not_lt.mpr h)]; simp only [zbr]; rw [if_pos h0])
  · rw [if_neg h]
    refine zd_step (q := (t, ls, st, w)) hr hd ?_
    simp only [zI, zcmp0]
    first
      | (rw [decide_eq_true (by first | exact h | exact Int32.not_lt.mp h | exact Int32.not_le.mp h)]; simp only [zbr, zjmp]; rw [ht, if_pos (by omega)]; rfl)
      | (rw [decide_eq_false (by first | exact h | exact fun q => h q)]; simp only [zbr]; rw [if_pos h0])
theorem zd_ifle (hr : zMs[mi]? = some r) {off : Int} {t : Nat} (ht : (pc : Int) + off = (t : Int)) (hd : zfind r.2.2.2.2.1 pc = some (.ifCond .le off, 3)) : zd scr mi pc ls (.int x :: st) w = if 0 < x then zd scr mi (pc + 3) ls st w else zd scr mi t ls st w := by
  have h0 : 0 ≤ (pc : Int) + off := by omega
  by_cases h : 0 < x
  · rw [if_pos h]
    refine zd_step (q := ((pc + 3), ls, st, w)) hr hd ?_
    simp only [zI, zcmp0]
    first
      | (rw [decide_eq_true (by first | exact h | (intro q; first | exact absurd h (Int32.not_lt.mpr q) | exact absurd h (Int32.not_le.mpr q) | exact absurd q h))]; simp only [zbr, zjmp]; rw [ht, if_pos (by omega)]; rfl)
      | (rw [decide_eq_false (by first | exact h | exact fun q => q h | exact Int32.not_le.mpr h | exact Int32.not_lt.mpr h)]; simp only [zbr]; rw [if_pos h0])
  · rw [if_neg h]
    refine zd_step (q := (t, ls, st, w)) hr hd ?_
    simp only [zI, zcmp0]
    first
      | (rw [decide_eq_true (by first | exact h | exact Int32.not_lt.mp h | exact Int32.not_le.mp h)]; simp only [zbr, zjmp]; rw [ht, if_pos (by omega)]; rfl)
      | (rw [decide_eq_false (by first | exact h | exact fun q => h q)]; simp only [zbr]; rw [if_pos h0])
theorem zd_icmpeq (hr : zMs[mi]? = some r) {off : Int} {t : Nat} (ht : (pc : Int) + off = (t : Int)) (hd : zfind r.2.2.2.2.1 pc = some (.if_icmp .eq off, 3)) : zd scr mi pc ls (.int y :: .int x :: st) w = if x = y then zd scr mi t ls st w else zd scr mi (pc + 3) ls st w := by
  have h0 : 0 ≤ (pc : Int) + off := by omega
  by_cases h : x = y
  · rw [if_pos h]
    refine zd_step (q := (t, ls, st, w)) hr hd ?_
    simp only [zI, zcmp2]
    first
      | (rw [decide_eq_true (by first | exact h | (intro q; first | exact absurd h (Int32.not_lt.mpr q) | exact absurd h (Int32.not_le.mpr q) | exact absurd q h))]; simp only [zbr, zjmp]; rw [ht, if_pos (by omega)]; rfl)
      | (rw [decide_eq_false (by first | exact h | exact fun q => q h | exact Int32.not_le.mpr h | exact Int32.not_lt.mpr h)]; simp only [zbr]; rw [if_pos h0])
  · rw [if_neg h]
    refine zd_step (q := ((pc + 3), ls, st, w)) hr hd ?_
    simp only [zI, zcmp2]
    first
      | (rw [decide_eq_true (by first | exact h | exact Int32.not_lt.mp h | exact Int32.not_le.mp h)]; simp only [zbr, zjmp]; rw [ht, if_pos (by omega)]; rfl)
      | (rw [decide_eq_false (by first | exact h | exact fun q => h q)]; simp only [zbr]; rw [if_pos h0])
theorem zd_icmpne (hr : zMs[mi]? = some r) {off : Int} {t : Nat} (ht : (pc : Int) + off = (t : Int)) (hd : zfind r.2.2.2.2.1 pc = some (.if_icmp .ne off, 3)) : zd scr mi pc ls (.int y :: .int x :: st) w = if x = y then zd scr mi (pc + 3) ls st w else zd scr mi t ls st w := by
  have h0 : 0 ≤ (pc : Int) + off := by omega
  by_cases h : x = y
  · rw [if_pos h]
    refine zd_step (q := ((pc + 3), ls, st, w)) hr hd ?_
    simp only [zI, zcmp2]
    first
      | (rw [decide_eq_true (by first | exact h | (intro q; first | exact absurd h (Int32.not_lt.mpr q) | exact absurd h (Int32.not_le.mpr q) | exact absurd q h))]; simp only [zbr, zjmp]; rw [ht, if_pos (by omega)]; rfl)
      | (rw [decide_eq_false (by first | exact h | exact fun q => q h | exact Int32.not_le.mpr h | exact Int32.not_lt.mpr h)]; simp only [zbr]; rw [if_pos h0])
  · rw [if_neg h]
    refine zd_step (q := (t, ls, st, w)) hr hd ?_
    simp only [zI, zcmp2]
    first
      | (rw [decide_eq_true (by first | exact h | exact Int32.not_lt.mp h | exact Int32.not_le.mp h)]; simp only [zbr, zjmp]; rw [ht, if_pos (by omega)]; rfl)
      | (rw [decide_eq_false (by first | exact h | exact fun q => h q)]; simp only [zbr]; rw [if_pos h0])
theorem zd_icmplt (hr : zMs[mi]? = some r) {off : Int} {t : Nat} (ht : (pc : Int) + off = (t : Int)) (hd : zfind r.2.2.2.2.1 pc = some (.if_icmp .lt off, 3)) : zd scr mi pc ls (.int y :: .int x :: st) w = if x < y then zd scr mi t ls st w else zd scr mi (pc + 3) ls st w := by
  have h0 : 0 ≤ (pc : Int) + off := by omega
  by_cases h : x < y
  · rw [if_pos h]
    refine zd_step (q := (t, ls, st, w)) hr hd ?_
    simp only [zI, zcmp2]
    first
      | (rw [decide_eq_true (by first | exact h | (intro q; first | exact absurd h (Int32.not_lt.mpr q) | exact absurd h (Int32.not_le.mpr q) | exact absurd q h))]; simp only [zbr, zjmp]; rw [ht, if_pos (by omega)]; rfl)
      | (rw [decide_eq_false (by first | exact h | exact fun q => q h | exact Int32.not_le.mpr h | exact Int32.not_lt.mpr h)]; simp only [zbr]; rw [if_pos h0])
  · rw [if_neg h]
    refine zd_step (q := ((pc + 3), ls, st, w)) hr hd ?_
    simp only [zI, zcmp2]
    first
      | (rw [decide_eq_true (by first | exact h | exact Int32.not_lt.mp h | exact Int32.not_le.mp h)]; simp only [zbr, zjmp]; rw [ht, if_pos (by omega)]; rfl)
      | (rw [decide_eq_false (by first | exact h | exact fun q => h q)]; simp only [zbr]; rw [if_pos h0])
theorem zd_icmpge (hr : zMs[mi]? = some r) {off : Int} {t : Nat} (ht : (pc : Int) + off = (t : Int)) (hd : zfind r.2.2.2.2.1 pc = some (.if_icmp .ge off, 3)) : zd scr mi pc ls (.int y :: .int x :: st) w = if x < y then zd scr mi (pc + 3) ls st w else zd scr mi t ls st w := by
  have h0 : 0 ≤ (pc : Int) + off := by omega
  by_cases h : x < y
  · rw [if_pos h]
    refine zd_step (q := ((pc + 3), ls, st, w)) hr hd ?_
    simp only [zI, zcmp2]
    first
      | (rw [decide_eq_true (by first | exact h | (intro q; first | exact absurd h (Int32.not_lt.mpr q) | exact absurd h (Int32.not_le.mpr q) | exact absurd q h))]; simp only [zbr, zjmp]; rw [ht, if_pos (by omega)]; rfl)
      | (rw [decide_eq_false (by first | exact h | exact fun q => q h | exact Int32.not_le.mpr h | exact Int32.not_lt.mpr h)]; simp only [zbr]; rw [if_pos h0])
  · rw [if_neg h]
    refine zd_step (q := (t, ls, st, w)) hr hd ?_
    simp only [zI, zcmp2]
    first
      | (rw [decide_eq_true (by first | exact h | exact Int32.not_lt.mp h | exact Int32.not_le.mp h)]; simp only [zbr, zjmp]; rw [ht, if_pos (by omega)]; rfl)
      | (rw [decide_eq_false (by first | exact h | exact fun q => h q)]; simp only [zbr]; rw [if_pos h0])
theorem zd_icmpgt (hr : zMs[mi]? = some r) {off : Int} {t : Nat} (ht : (pc : Int) + off = (t : Int)) (hd : zfind r.2.2.2.2.1 pc = some (.if_icmp .gt off, 3)) : zd scr mi pc ls (.int y :: .int x :: st) w = if x ≤ y then zd scr mi (pc + 3) ls st w else zd scr mi t ls st w := by
  have h0 : 0 ≤ (pc : Int) + off := by omega
  by_cases h : x ≤ y
  · rw [if_pos h]
    refine zd_step (q := ((pc + 3), ls, st, w)) hr hd ?_
    simp only [zI, zcmp2]
    first
      | (rw [decide_eq_true (by first | exact h | (intro q; first | exact absurd h (Int32.not_lt.mpr q) | exact absurd h (Int32.not_le.mpr q) | exact absurd q h))]; simp only [zbr, zjmp]; rw [ht, if_pos (by omega)]; rfl)
      | (rw [decide_eq_false (by first | exact h | exact fun q => q h | exact Int32.not_le.mpr h | exact Int32.not_lt.mpr h)]; simp only [zbr]; rw [if_pos h0])
  · rw [if_neg h]
    refine zd_step (q := (t, ls, st, w)) hr hd ?_
    simp only [zI, zcmp2]
    first
      | (rw [decide_eq_true (by first | exact h | exact Int32.not_lt.mp h | exact Int32.not_le.mp h)]; simp only [zbr, zjmp]; rw [ht, if_pos (by omega)]; rfl)
      | (rw [decide_eq_false (by first | exact h | exact fun q => h q)]; simp only [zbr]; rw [if_pos h0])
theorem zd_icmple (hr : zMs[mi]? = some r) {off : Int} {t : Nat} (ht : (pc : Int) + off = (t : Int)) (hd : zfind r.2.2.2.2.1 pc = some (.if_icmp .le off, 3)) : zd scr mi pc ls (.int y :: .int x :: st) w = if y < x then zd scr mi (pc + 3) ls st w else zd scr mi t ls st w := by
  have h0 : 0 ≤ (pc : Int) + off := by omega
  by_cases h : y < x
  · rw [if_pos h]
    refine zd_step (q := ((pc + 3), ls, st, w)) hr hd ?_
    simp only [zI, zcmp2]
    first
      | (rw [decide_eq_true (by first | exact h | (intro q; first | exact absurd h (Int32.not_lt.mpr q) | exact absurd h (Int32.not_le.mpr q) | exact absurd q h))]; simp only [zbr, zjmp]; rw [ht, if_pos (by omega)]; rfl)
      | (rw [decide_eq_false (by first | exact h | exact fun q => q h | exact Int32.not_le.mpr h | exact Int32.not_lt.mpr h)]; simp only [zbr]; rw [if_pos h0])
  · rw [if_neg h]
    refine zd_step (q := (t, ls, st, w)) hr hd ?_
    simp only [zI, zcmp2]
    first
      | (rw [decide_eq_true (by first | exact h | exact Int32.not_lt.mp h | exact Int32.not_le.mp h)]; simp only [zbr, zjmp]; rw [ht, if_pos (by omega)]; rfl)
      | (rw [decide_eq_false (by first | exact h | exact fun q => h q)]; simp only [zbr]; rw [if_pos h0])
theorem zd_tabIn (hr : zMs[mi]? = some r) {dflt lo hi : Int} {offs : Array Int} {len t : Nat} {off : Int} (h : ¬ (x.toInt < lo ∨ hi < x.toInt)) (ho : offs[(x.toInt - lo).toNat]? = some off) (ht : (pc : Int) + off = (t : Int)) (hd : zfind r.2.2.2.2.1 pc = some (.tableswitch dflt lo hi offs, len)) : zd scr mi pc ls (.int x :: st) w = zd scr mi t ls st w := zd_step (q := (t, ls, st, w)) hr hd (by
  simp only [zI, if_neg h, ho, zjmp]
  rw [ht, if_pos (by omega)]; rfl)
theorem zd_tabOut (hr : zMs[mi]? = some r) {dflt lo hi : Int} {offs : Array Int} {len t : Nat} (h : x.toInt < lo ∨ hi < x.toInt) (ht : (pc : Int) + dflt = (t : Int)) (hd : zfind r.2.2.2.2.1 pc = some (.tableswitch dflt lo hi offs, len)) : zd scr mi pc ls (.int x :: st) w = zd scr mi t ls st w := zd_step (q := (t, ls, st, w)) hr hd (by
  simp only [zI, if_pos h, zjmp]
  rw [ht, if_pos (by omega)]; rfl)
theorem zd_look (hr : zMs[mi]? = some r) {dflt : Int} {ps : Array (Int × Int)} {len t : Nat} {off : Int} (hp : (ps.toList.zip (ps.toList.drop 1)).all (fun (a, next) => a.1 < next.1) = true) (ho : Op.lookupswitch.offset ps.toList dflt x.toInt = off) (ht : (pc : Int) + off = (t : Int)) (hd : zfind r.2.2.2.2.1 pc = some (.lookupswitch dflt ps, len)) : zd scr mi pc ls (.int x :: st) w = zd scr mi t ls st w := zd_step (q := (t, ls, st, w)) hr hd (by
  simp only [zI, hp, ho, if_true, zjmp]
  rw [ht, if_pos (by omega)]; rfl)
theorem zd_iret (hr : zMs[mi]? = some r) (hz : zrok r.2.2.2.1 x = true) (hd : zfind r.2.2.2.2.1 pc = some (.ireturn, 1)) : zd scr mi pc ls [.int x] w = some (some (.int x), w) := zd_ret (rv := some (.int x)) hr hd (by simp only [zI, hz, if_true])
theorem zd_vret (hr : zMs[mi]? = some r) (hz : r.2.2.2.1 = none) (hd : zfind r.2.2.2.2.1 pc = some (.return_, 1)) : zd scr mi pc ls [] w = some (none, w) := zd_ret (rv := none) hr hd (by simp only [zI, hz, if_true])
/-- the cell is an object of this class -/
def zob (w : zAW) (a ci : Nat) : Bool := match w[a]? with
  | some (.inr (.inr (c, _))) => decide (c = ci)
  | _ => false
theorem zd_inv (hr : zMs[mi]? = some r) {i n mj : Nat} {rj : zRec} {as rest : List Value} {c : Nat} {fs : List Value} {rv : Option Value} {d : Instr × Nat} (hd : zfind r.2.2.2.2.1 pc = some d) (hj : zMs[mj]? = some rj) (hI : ∀ nx, zcallV r mj ls st w = some nx → zI scr mi r pc ls st w d = some nx)
    (hst : st.drop rj.2.2.2.2.2.2.2 = .ref a :: rest) (hck : rj.2.2.2.2.2.2.1 + 1 ≤ r.2.2.2.2.2.2.1 ∧ rest.length ≤ 8 ∧ mj < 154 ∧ rj.2.2.2.2.2.2.2 + 1 ≤ rj.2.2.1) (hw : zob w a rj.2.2.2.2.2.1 = true) (has : .ref a :: (st.take rj.2.2.2.2.2.2.2).reverse = as) (hc : zC scr mj as w = some (rv, w')) : zd scr mi pc ls st w = zd scr mi (pc + 3) ls (rv.toList ++ rest) w' := by
  subst has
  refine zd_call (q := (mj, .ref a :: (st.take rj.2.2.2.2.2.2.2).reverse, ls, rest)) hr hd (hI _ ?_) hc
  unfold zcallV
  rw [hj]
  dsimp only
  rw [hst]
  dsimp only
  rw [if_pos hck]
  unfold zob at hw
  split at hw
  · rename_i c1 fs1 hw1
    rw [hw1]
    dsimp only
    rw [if_pos (of_decide_eq_true hw)]
  · cases hw
theorem zd_stc (hr : zMs[mi]? = some r) {i n mj : Nat} {rj : zRec} {as rest : List Value} {rv : Option Value} {d : Instr × Nat} (hd : zfind r.2.2.2.2.1 pc = some d) (hj : zMs[mj]? = some rj) (hI : ∀ nx, zcallS r mj ls st = some nx → zI scr mi r pc ls st w d = some nx)
    (hst : st.drop rj.2.2.2.2.2.2.2 = rest) (hck : rj.2.2.2.2.2.2.1 + 1 ≤ r.2.2.2.2.2.2.1 ∧ st.length ≤ 8 + rj.2.2.2.2.2.2.2 ∧ rj.2.2.2.2.2.2.2 ≤ st.length ∧ mj < 154 ∧ rj.2.2.2.2.2.2.2 ≤ rj.2.2.1) (has : (st.take rj.2.2.2.2.2.2.2).reverse = as) (hc : zC scr mj as w = some (rv, w')) : zd scr mi pc ls st w = zd scr mi (pc + 3) ls (rv.toList ++ rest) w' := by
  subst has; subst hst
  refine zd_call (q := (mj, (st.take rj.2.2.2.2.2.2.2).reverse, ls, st.drop rj.2.2.2.2.2.2.2)) hr hd (hI _ ?_) hc
  unfold zcallS
  rw [hj]
  dsimp only
  rw [if_pos hck]
end ZL
theorem zd_invVi {scr : List Int32} {mi pc : Nat} {ls : zLs} {st : List Value} {w w' : zAW} {r : zRec} {y : Int32} {a : Nat} (hr : zMs[mi]? = some r) {i mj : Nat} {rj : zRec} {as rest : List Value} (hj : zMs[mj]? = some rj) (hf : zfind2 zCt r.2.2.2.2.2.1 i = some (0, mj))
    (hst : st.drop rj.2.2.2.2.2.2.2 = .ref a :: rest) (hck : rj.2.2.2.2.2.2.1 + 1 ≤ r.2.2.2.2.2.2.1 ∧ rest.length ≤ 8 ∧ mj < 154 ∧ rj.2.2.2.2.2.2.2 + 1 ≤ rj.2.2.1) (has : .ref a :: (st.take rj.2.2.2.2.2.2.2).reverse = as) (hw : zob w a rj.2.2.2.2.2.1 = true) (hc : zC scr mj as w = some (some (.int y), w')) (hd : zfind r.2.2.2.2.1 pc = some (.invokevirtual i, 3)) : zd scr mi pc ls st w = zd scr mi (pc + 3) ls (.int y :: rest) w' :=
  zd_inv (i := i) (n := 0) (c := 0) (fs := []) hr hd hj (fun nx h => by simp only [zI, hf]; exact h) hst hck hw has hc
theorem zd_invVv {scr : List Int32} {mi pc : Nat} {ls : zLs} {st : List Value} {w w' : zAW} {r : zRec} {a : Nat} (hr : zMs[mi]? = some r) {i mj : Nat} {rj : zRec} {as rest : List Value} (hj : zMs[mj]? = some rj) (hf : zfind2 zCt r.2.2.2.2.2.1 i = some (0, mj))
    (hst : st.drop rj.2.2.2.2.2.2.2 = .ref a :: rest) (hck : rj.2.2.2.2.2.2.1 + 1 ≤ r.2.2.2.2.2.2.1 ∧ rest.length ≤ 8 ∧ mj < 154 ∧ rj.2.2.2.2.2.2.2 + 1 ≤ rj.2.2.1) (has : .ref a :: (st.take rj.2.2.2.2.2.2.2).reverse = as) (hw : zob w a rj.2.2.2.2.2.1 = true) (hc : zC scr mj as w = some (none, w')) (hd : zfind r.2.2.2.2.1 pc = some (.invokevirtual i, 3)) : zd scr mi pc ls st w = zd scr mi (pc + 3) ls (rest) w' :=
  zd_inv (i := i) (n := 0) (c := 0) (fs := []) hr hd hj (fun nx h => by simp only [zI, hf]; exact h) hst hck hw has hc
theorem zd_invIi {scr : List Int32} {mi pc : Nat} {ls : zLs} {st : List Value} {w w' : zAW} {r : zRec} {y : Int32} {a : Nat} (hr : zMs[mi]? = some r) {i mj : Nat} {rj : zRec} {as rest : List Value} (hj : zMs[mj]? = some rj) (hf : zfind2 zCt r.2.2.2.2.2.1 i = some (2, mj))
    (hst : st.drop rj.2.2.2.2.2.2.2 = .ref a :: rest) (hck : rj.2.2.2.2.2.2.1 + 1 ≤ r.2.2.2.2.2.2.1 ∧ rest.length ≤ 8 ∧ mj < 154 ∧ rj.2.2.2.2.2.2.2 + 1 ≤ rj.2.2.1) (has : .ref a :: (st.take rj.2.2.2.2.2.2.2).reverse = as) (hw : zob w a rj.2.2.2.2.2.1 = true) (hc : zC scr mj as w = some (some (.int y), w')) (hd : zfind r.2.2.2.2.1 pc = some (.invokespecial i, 3)) : zd scr mi pc ls st w = zd scr mi (pc + 3) ls (.int y :: rest) w' :=
  zd_inv (i := i) (n := 0) (c := 0) (fs := []) hr hd hj (fun nx h => by simp only [zI, hf]; exact h) hst hck hw has hc
theorem zd_invIv {scr : List Int32} {mi pc : Nat} {ls : zLs} {st : List Value} {w w' : zAW} {r : zRec} {a : Nat} (hr : zMs[mi]? = some r) {i mj : Nat} {rj : zRec} {as rest : List Value} (hj : zMs[mj]? = some rj) (hf : zfind2 zCt r.2.2.2.2.2.1 i = some (2, mj))
    (hst : st.drop rj.2.2.2.2.2.2.2 = .ref a :: rest) (hck : rj.2.2.2.2.2.2.1 + 1 ≤ r.2.2.2.2.2.2.1 ∧ rest.length ≤ 8 ∧ mj < 154 ∧ rj.2.2.2.2.2.2.2 + 1 ≤ rj.2.2.1) (has : .ref a :: (st.take rj.2.2.2.2.2.2.2).reverse = as) (hw : zob w a rj.2.2.2.2.2.1 = true) (hc : zC scr mj as w = some (none, w')) (hd : zfind r.2.2.2.2.1 pc = some (.invokespecial i, 3)) : zd scr mi pc ls st w = zd scr mi (pc + 3) ls (rest) w' :=
  zd_inv (i := i) (n := 0) (c := 0) (fs := []) hr hd hj (fun nx h => by simp only [zI, hf]; exact h) hst hck hw has hc
theorem zd_invNi {scr : List Int32} {mi pc : Nat} {ls : zLs} {st : List Value} {w w' : zAW} {r : zRec} {y : Int32} {a : Nat} (hr : zMs[mi]? = some r) {i mj : Nat} {rj : zRec} {as rest : List Value} (hj : zMs[mj]? = some rj) (hf : zfind2 zCt r.2.2.2.2.2.1 i = some (3, mj))
    (hst : st.drop rj.2.2.2.2.2.2.2 = .ref a :: rest) (hck : rj.2.2.2.2.2.2.1 + 1 ≤ r.2.2.2.2.2.2.1 ∧ rest.length ≤ 8 ∧ mj < 154 ∧ rj.2.2.2.2.2.2.2 + 1 ≤ rj.2.2.1) (has : .ref a :: (st.take rj.2.2.2.2.2.2.2).reverse = as) (hw : zob w a rj.2.2.2.2.2.1 = true) (hc : zC scr mj as w = some (some (.int y), w')) (hd : zfind r.2.2.2.2.1 pc = some (.invokespecial i, 3)) : zd scr mi pc ls st w = zd scr mi (pc + 3) ls (.int y :: rest) w' :=
  zd_inv (i := i) (n := 0) (c := 0) (fs := []) hr hd hj (fun nx h => by simp only [zI, hf]; exact h) hst hck hw has hc
theorem zd_invNv {scr : List Int32} {mi pc : Nat} {ls : zLs} {st : List Value} {w w' : zAW} {r : zRec} {a : Nat} (hr : zMs[mi]? = some r) {i mj : Nat} {rj : zRec} {as rest : List Value} (hj : zMs[mj]? = some rj) (hf : zfind2 zCt r.2.2.2.2.2.1 i = some (3, mj))
    (hst : st.drop rj.2.2.2.2.2.2.2 = .ref a :: rest) (hck : rj.2.2.2.2.2.2.1 + 1 ≤ r.2.2.2.2.2.2.1 ∧ rest.length ≤ 8 ∧ mj < 154 ∧ rj.2.2.2.2.2.2.2 + 1 ≤ rj.2.2.1) (has : .ref a :: (st.take rj.2.2.2.2.2.2.2).reverse = as) (hw : zob w a rj.2.2.2.2.2.1 = true) (hc : zC scr mj as w = some (none, w')) (hd : zfind r.2.2.2.2.1 pc = some (.invokespecial i, 3)) : zd scr mi pc ls st w = zd scr mi (pc + 3) ls (rest) w' :=
  zd_inv (i := i) (n := 0) (c := 0) (fs := []) hr hd hj (fun nx h => by simp only [zI, hf]; exact h) hst hck hw has hc
theorem zd_invSi {scr : List Int32} {mi pc : Nat} {ls : zLs} {st : List Value} {w w' : zAW} {r : zRec} {y : Int32} (hr : zMs[mi]? = some r) {i mj : Nat} {rj : zRec} {as rest : List Value} (hj : zMs[mj]? = some rj) (hf : zfind2 zCt r.2.2.2.2.2.1 i = some (1, mj))
    (hst : st.drop rj.2.2.2.2.2.2.2 = rest) (hck : rj.2.2.2.2.2.2.1 + 1 ≤ r.2.2.2.2.2.2.1 ∧ st.length ≤ 8 + rj.2.2.2.2.2.2.2 ∧ rj.2.2.2.2.2.2.2 ≤ st.length ∧ mj < 154 ∧ rj.2.2.2.2.2.2.2 ≤ rj.2.2.1) (has : (st.take rj.2.2.2.2.2.2.2).reverse = as) (hc : zC scr mj as w = some (some (.int y), w')) (hd : zfind r.2.2.2.2.1 pc = some (.invokestatic i, 3)) : zd scr mi pc ls st w = zd scr mi (pc + 3) ls (.int y :: rest) w' :=
  zd_stc (i := i) (n := 0) hr hd hj (fun nx h => by simp only [zI, hf]; exact h) hst hck has hc
theorem zd_invSv {scr : List Int32} {mi pc : Nat} {ls : zLs} {st : List Value} {w w' : zAW} {r : zRec} (hr : zMs[mi]? = some r) {i mj : Nat} {rj : zRec} {as rest : List Value} (hj : zMs[mj]? = some rj) (hf : zfind2 zCt r.2.2.2.2.2.1 i = some (1, mj))
    (hst : st.drop rj.2.2.2.2.2.2.2 = rest) (hck : rj.2.2.2.2.2.2.1 + 1 ≤ r.2.2.2.2.2.2.1 ∧ st.length ≤ 8 + rj.2.2.2.2.2.2.2 ∧ rj.2.2.2.2.2.2.2 ≤ st.length ∧ mj < 154 ∧ rj.2.2.2.2.2.2.2 ≤ rj.2.2.1) (has : (st.take rj.2.2.2.2.2.2.2).reverse = as) (hc : zC scr mj as w = some (none, w')) (hd : zfind r.2.2.2.2.1 pc = some (.invokestatic i, 3)) : zd scr mi pc ls st w = zd scr mi (pc + 3) ls (rest) w' :=
  zd_stc (i := i) (n := 0) hr hd hj (fun nx h => by simp only [zI, hf]; exact h) hst hck has hc
theorem zd_invTi {scr : List Int32} {mi pc : Nat} {ls : zLs} {st : List Value} {w w' : zAW} {r : zRec} {y : Int32} (hr : zMs[mi]? = some r) {i mj : Nat} {rj : zRec} {as rest : List Value} (hj : zMs[mj]? = some rj) (hf : zfind2 zCt r.2.2.2.2.2.1 i = some (4, mj))
    (hst : st.drop rj.2.2.2.2.2.2.2 = rest) (hck : rj.2.2.2.2.2.2.1 + 1 ≤ r.2.2.2.2.2.2.1 ∧ st.length ≤ 8 + rj.2.2.2.2.2.2.2 ∧ rj.2.2.2.2.2.2.2 ≤ st.length ∧ mj < 154 ∧ rj.2.2.2.2.2.2.2 ≤ rj.2.2.1) (has : (st.take rj.2.2.2.2.2.2.2).reverse = as) (hc : zC scr mj as w = some (some (.int y), w')) (hd : zfind r.2.2.2.2.1 pc = some (.invokestatic i, 3)) : zd scr mi pc ls st w = zd scr mi (pc + 3) ls (.int y :: rest) w' :=
  zd_stc (i := i) (n := 0) hr hd hj (fun nx h => by simp only [zI, hf]; exact h) hst hck has hc
theorem zd_invTv {scr : List Int32} {mi pc : Nat} {ls : zLs} {st : List Value} {w w' : zAW} {r : zRec} (hr : zMs[mi]? = some r) {i mj : Nat} {rj : zRec} {as rest : List Value} (hj : zMs[mj]? = some rj) (hf : zfind2 zCt r.2.2.2.2.2.1 i = some (4, mj))
    (hst : st.drop rj.2.2.2.2.2.2.2 = rest) (hck : rj.2.2.2.2.2.2.1 + 1 ≤ r.2.2.2.2.2.2.1 ∧ st.length ≤ 8 + rj.2.2.2.2.2.2.2 ∧ rj.2.2.2.2.2.2.2 ≤ st.length ∧ mj < 154 ∧ rj.2.2.2.2.2.2.2 ≤ rj.2.2.1) (has : (st.take rj.2.2.2.2.2.2.2).reverse = as) (hc : zC scr mj as w = some (none, w')) (hd : zfind r.2.2.2.2.1 pc = some (.invokestatic i, 3)) : zd scr mi pc ls st w = zd scr mi (pc + 3) ls (rest) w' :=
  zd_stc (i := i) (n := 0) hr hd hj (fun nx h => by simp only [zI, hf]; exact h) hst hck has hc
def zr0 : zRec := (yX0_init, cX0_init, 1, none, zc0, 0, 1, 0)
theorem zh0 : zMs[0]? = some zr0 := rfl
def zr1 : zRec := (yX0_tell, cX0_tell, 2, (some .int), zc1, 0, 0, 1)
theorem zh1 : zMs[1]? = some zr1 := rfl
def zr2 : zRec := (yX0_searchIn, cX0_searchIn, 5, none, zc2, 0, 4, 1)
theorem zh2 : zMs[2]? = some zr2 := rfl
def zr3 : zRec := (yX0_searchPartners, cX0_searchPartners, 13, none, zc3, 0, 3, 3)
theorem zh3 : zMs[3]? = some zr3 := rfl
def zr4 : zRec := (yX0_one, cX0_one, 2, (some .int), zc4, 0, 0, 2)
theorem zh4 : zMs[4]? = some zr4 := rfl
def zr5 : zRec := (yX0_weigh, cX0_weigh, 9, none, zc5, 0, 2, 6)
theorem zh5 : zMs[5]? = some zr5 := rfl
def zr6 : zRec := (yX1_init, cX1_init, 1, none, zc6, 1, 1, 0)
theorem zh6 : zMs[6]? = some zr6 := rfl
def zr7 : zRec := (yX1_copyFrom, cX1_copyFrom, 2, none, zc7, 1, 1, 1)
theorem zh7 : zMs[7]? = some zr7 := rfl
def zr8 : zRec := (yX1_count, cX1_count, 2, (some .int), zc8, 1, 0, 1)
theorem zh8 : zMs[8]? = some zr8 := rfl
def zr9 : zRec := (yX1_has, cX1_has, 3, (some .boolean), zc9, 1, 1, 2)
theorem zh9 : zMs[9]? = some zr9 := rfl
def zr10 : zRec := (yX1_colour, cX1_colour, 3, (some .int), zc10, 1, 0, 2)
theorem zh10 : zMs[10]? = some zr10 := rfl
def zr11 : zRec := (yX1_value, cX1_value, 3, (some .int), zc11, 1, 0, 2)
theorem zh11 : zMs[11]? = some zr11 := rfl
def zr12 : zRec := (yX1_describe, cX1_describe, 4, (some .int), zc12, 1, 1, 3)
theorem zh12 : zMs[12]? = some zr12 := rfl
def zr13 : zRec := (yX1_sum, cX1_sum, 4, (some .int), zc13, 1, 0, 1)
theorem zh13 : zMs[13]? = some zr13 := rfl
def zr14 : zRec := (yX1_countOf, cX1_countOf, 5, (some .int), zc14, 1, 0, 2)
theorem zh14 : zMs[14]? = some zr14 := rfl
def zr15 : zRec := (yX1_hasRoom, cX1_hasRoom, 1, (some .boolean), zc15, 1, 1, 0)
theorem zh15 : zMs[15]? = some zr15 := rfl
def zr16 : zRec := (yX1_add, cX1_add, 3, (some .boolean), zc16, 1, 2, 2)
theorem zh16 : zMs[16]? = some zr16 := rfl
def zr17 : zRec := (yX1_giveFirstTo, cX1_giveFirstTo, 6, none, zc17, 1, 1, 1)
theorem zh17 : zMs[17]? = some zr17 := rfl
def zr18 : zRec := (yX1_trade, cX1_trade, 8, none, zc18, 1, 0, 4)
theorem zh18 : zMs[18]? = some zr18 := rfl
def zr19 : zRec := (yX1_removeBag, cX1_removeBag, 4, none, zc19, 1, 1, 1)
theorem zh19 : zMs[19]? = some zr19 := rfl
def zr20 : zRec := (yX2_init, cX2_init, 2, none, zc20, 2, 3, 0)
theorem zh20 : zMs[20]? = some zr20 := rfl
def zr21 : zRec := (yX2_keep, cX2_keep, 2, none, zc21, 2, 3, 1)
theorem zh21 : zMs[21]? = some zr21 := rfl
def zr22 : zRec := (yX2_discardOldest, cX2_discardOldest, 3, none, zc22, 2, 0, 0)
theorem zh22 : zMs[22]? = some zr22 := rfl
def zr23 : zRec := (yX2_takeBack, cX2_takeBack, 2, none, zc23, 2, 3, 1)
theorem zh23 : zMs[23]? = some zr23 := rfl
def zr24 : zRec := (yX3_init, cX3_init, 2, none, zc24, 3, 2, 0)
theorem zh24 : zMs[24]? = some zr24 := rfl
def zr25 : zRec := (yX3_copyFrom, cX3_copyFrom, 2, none, zc25, 3, 2, 1)
theorem zh25 : zMs[25]? = some zr25 := rfl
def zr26 : zRec := (yX3_hasHeir, cX3_hasHeir, 2, (some .boolean), zc26, 3, 0, 1)
theorem zh26 : zMs[26]? = some zr26 := rfl
def zr27 : zRec := (yX3_hasMarble, cX3_hasMarble, 3, (some .boolean), zc27, 3, 2, 2)
theorem zh27 : zMs[27]? = some zr27 := rfl
def zr28 : zRec := (yX3_addHeir, cX3_addHeir, 4, (some .int), zc28, 3, 0, 2)
theorem zh28 : zMs[28]? = some zr28 := rfl
def zr29 : zRec := (yX3_removeHeir, cX3_removeHeir, 3, none, zc29, 3, 2, 1)
theorem zh29 : zMs[29]? = some zr29 := rfl
def zr30 : zRec := (yX3_placeOf, cX3_placeOf, 3, (some .int), zc30, 3, 0, 1)
theorem zh30 : zMs[30]? = some zr30 := rfl
def zr31 : zRec := (yX3_playAllRounds, cX3_playAllRounds, 3, (some .int), zc31, 3, 4, 0)
theorem zh31 : zMs[31]? = some zr31 := rfl
def zr32 : zRec := (yX3_playRound, cX3_playRound, 3, (some .int), zc32, 3, 3, 0)
theorem zh32 : zMs[32]? = some zr32 := rfl
def zr33 : zRec := (yX3_giveInOrder, cX3_giveInOrder, 3, none, zc33, 3, 2, 1)
theorem zh33 : zMs[33]? = some zr33 := rfl
def zr34 : zRec := (yX3_giveToPoorest, cX3_giveToPoorest, 5, none, zc34, 3, 2, 1)
theorem zh34 : zMs[34]? = some zr34 := rfl
def zr35 : zRec := (yX3_poorestBut, cX3_poorestBut, 7, (some .int), zc35, 3, 1, 1)
theorem zh35 : zMs[35]? = some zr35 := rfl
def zr36 : zRec := (yX3_exchangeUnlessVetoed, cX3_exchangeUnlessVetoed, 6, (some .int), zc36, 3, 2, 4)
theorem zh36 : zMs[36]? = some zr36 := rfl
def zr37 : zRec := (yX3_exchange, cX3_exchange, 5, none, zc37, 3, 1, 4)
theorem zh37 : zMs[37]? = some zr37 := rfl
def zr38 : zRec := (yX3_vetoer, cX3_vetoer, 6, (some .int), zc38, 3, 1, 4)
theorem zh38 : zMs[38]? = some zr38 := rfl
def zr39 : zRec := (yX3_objects, cX3_objects, 3, (some .boolean), zc39, 3, 0, 2)
theorem zh39 : zMs[39]? = some zr39 := rfl
def zr40 : zRec := (yX3_about, cX3_about, 3, (some .int), zc40, 3, 1, 2)
theorem zh40 : zMs[40]? = some zr40 := rfl
def zr41 : zRec := (yX3_figure, cX3_figure, 2, (some .int), zc41, 3, 3, 1)
theorem zh41 : zMs[41]? = some zr41 := rfl
def zr42 : zRec := (yX3_overAll, cX3_overAll, 4, (some .int), zc42, 3, 2, 1)
theorem zh42 : zMs[42]? = some zr42 := rfl
def zr43 : zRec := (yX3_spread, cX3_spread, 6, (some .int), zc43, 3, 2, 1)
theorem zh43 : zMs[43]? = some zr43 := rfl
def zr44 : zRec := (yX4_init, cX4_init, 1, none, zc44, 4, 1, 0)
theorem zh44 : zMs[44]? = some zr44 := rfl
def zr45 : zRec := (yX4_add, cX4_add, 2, none, zc45, 4, 0, 1)
theorem zh45 : zMs[45]? = some zr45 := rfl
def zr46 : zRec := (yX4_firstError, cX4_firstError, 3, (some .int), zc46, 4, 3, 0)
theorem zh46 : zMs[46]? = some zr46 := rfl
def zr47 : zRec := (yX4_dropInto, cX4_dropInto, 7, (some .boolean), zc47, 4, 4, 1)
theorem zh47 : zMs[47]? = some zr47 := rfl
def zr48 : zRec := (yX4_dropEach, cX4_dropEach, 5, (some .boolean), zc48, 4, 3, 4)
theorem zh48 : zMs[48]? = some zr48 := rfl
def zr49 : zRec := (yX4_stageBehind, cX4_stageBehind, 3, (some .int), zc49, 4, 2, 2)
theorem zh49 : zMs[49]? = some zr49 := rfl
def zr50 : zRec := (yX4_isColourLetter, cX4_isColourLetter, 1, (some .boolean), zc50, 4, 1, 1)
theorem zh50 : zMs[50]? = some zr50 := rfl
def zr51 : zRec := (yX4_colourOf, cX4_colourOf, 1, (some .int), zc51, 4, 0, 1)
theorem zh51 : zMs[51]? = some zr51 := rfl
def zr52 : zRec := (yX5_init, cX5_init, 1, none, zc52, 5, 4, 0)
theorem zh52 : zMs[52]? = some zr52 := rfl
def zr53 : zRec := (yX5_come, cX5_come, 3, (some .int), zc53, 5, 4, 2)
theorem zh53 : zMs[53]? = some zr53 := rfl
def zr54 : zRec := (yX5_leave, cX5_leave, 3, (some .int), zc54, 5, 4, 1)
theorem zh54 : zMs[54]? = some zr54 := rfl
def zr55 : zRec := (yX5_wish, cX5_wish, 3, (some .int), zc55, 5, 4, 2)
theorem zh55 : zMs[55]? = some zr55 := rfl
def zr56 : zRec := (yX5_setRule, cX5_setRule, 3, (some .int), zc56, 5, 4, 1)
theorem zh56 : zMs[56]? = some zr56 := rfl
def zr57 : zRec := (yX5_setPatience, cX5_setPatience, 3, (some .int), zc57, 5, 4, 1)
theorem zh57 : zMs[57]? = some zr57 := rfl
def zr58 : zRec := (yX5_grant, cX5_grant, 4, (some .int), zc58, 5, 4, 2)
theorem zh58 : zMs[58]? = some zr58 := rfl
def zr59 : zRec := (yX5_drop, cX5_drop, 3, (some .int), zc59, 5, 4, 2)
theorem zh59 : zMs[59]? = some zr59 := rfl
def zr60 : zRec := (yX5_round, cX5_round, 1, (some .int), zc60, 5, 4, 0)
theorem zh60 : zMs[60]? = some zr60 := rfl
def zr61 : zRec := (yX5_divide, cX5_divide, 1, (some .int), zc61, 5, 5, 0)
theorem zh61 : zMs[61]? = some zr61 := rfl
def zr62 : zRec := (yX5_swap, cX5_swap, 6, (some .int), zc62, 5, 4, 4)
theorem zh62 : zMs[62]? = some zr62 := rfl
def zr63 : zRec := (yX5_settle, cX5_settle, 2, (some .int), zc63, 5, 5, 0)
theorem zh63 : zMs[63]? = some zr63 := rfl
def zr64 : zRec := (yX5_heir, cX5_heir, 3, (some .int), zc64, 5, 2, 2)
theorem zh64 : zMs[64]? = some zr64 := rfl
def zr65 : zRec := (yX5_bag, cX5_bag, 4, (some .int), zc65, 5, 3, 3)
theorem zh65 : zMs[65]? = some zr65 := rfl
def zr66 : zRec := (yX5_hopper, cX5_hopper, 3, (some .int), zc66, 5, 2, 2)
theorem zh66 : zMs[66]? = some zr66 := rfl
def zr67 : zRec := (yX5_vetoes, cX5_vetoes, 2, (some .int), zc67, 5, 1, 1)
theorem zh67 : zMs[67]? = some zr67 := rfl
def zr68 : zRec := (yX5_at, cX5_at, 2, (some .int), zc68, 5, 0, 1)
theorem zh68 : zMs[68]? = some zr68 := rfl
def zr69 : zRec := (yX5_total, cX5_total, 2, (some .int), zc69, 5, 4, 1)
theorem zh69 : zMs[69]? = some zr69 := rfl
def zr70 : zRec := (yX5_ifDivided, cX5_ifDivided, 3, (some .int), zc70, 5, 5, 2)
theorem zh70 : zMs[70]? = some zr70 := rfl
def zr71 : zRec := (yX5_fairestRule, cX5_fairestRule, 5, (some .int), zc71, 5, 6, 0)
theorem zh71 : zMs[71]? = some zr71 := rfl
def zr72 : zRec := (yX5_whoVetoes, cX5_whoVetoes, 6, (some .int), zc72, 5, 4, 4)
theorem zh72 : zMs[72]? = some zr72 := rfl
def zr73 : zRec := (yX5_bestSwap, cX5_bestSwap, 2, (some .int), zc73, 5, 5, 1)
theorem zh73 : zMs[73]? = some zr73 := rfl
def zr74 : zRec := (yX5_append, cX5_append, 2, (some .int), zc74, 5, 1, 1)
theorem zh74 : zMs[74]? = some zr74 := rfl
def zr75 : zRec := (yX5_clearText, cX5_clearText, 2, (some .int), zc75, 5, 0, 0)
theorem zh75 : zMs[75]? = some zr75 := rfl
def zr76 : zRec := (yX5_errorPosition, cX5_errorPosition, 1, (some .int), zc76, 5, 4, 0)
theorem zh76 : zMs[76]? = some zr76 := rfl
def zr77 : zRec := (yX5_pour, cX5_pour, 1, (some .int), zc77, 5, 5, 0)
theorem zh77 : zMs[77]? = some zr77 := rfl
def zr78 : zRec := (yX5_undo, cX5_undo, 1, (some .int), zc78, 5, 4, 0)
theorem zh78 : zMs[78]? = some zr78 := rfl
def zr79 : zRec := (yX5_save, cX5_save, 1, (some .int), zc79, 5, 3, 0)
theorem zh79 : zMs[79]? = some zr79 := rfl
def zr80 : zRec := (yX5_restore, cX5_restore, 1, (some .int), zc80, 5, 4, 0)
theorem zh80 : zMs[80]? = some zr80 := rfl
def zr81 : zRec := (yX5_isMother, cX5_isMother, 1, (some .boolean), zc81, 5, 0, 1)
theorem zh81 : zMs[81]? = some zr81 := rfl
def zr82 : zRec := (yX5_isColour, cX5_isColour, 1, (some .boolean), zc82, 5, 0, 1)
theorem zh82 : zMs[82]? = some zr82 := rfl
def zr83 : zRec := (yX5_moveBack, cX5_moveBack, 5, none, zc83, 5, 0, 3)
theorem zh83 : zMs[83]? = some zr83 := rfl
def zr84 : zRec := (yX5_swapError, cX5_swapError, 5, (some .int), zc84, 5, 3, 4)
theorem zh84 : zMs[84]? = some zr84 := rfl
def zr85 : zRec := (yX5_spreadUnder, cX5_spreadUnder, 2, (some .int), zc85, 5, 5, 1)
theorem zh85 : zMs[85]? = some zr85 := rfl
def zr86 : zRec := (yX6_init, cX6_init, 2, none, zc86, 6, 1, 0)
theorem zh86 : zMs[86]? = some zr86 := rfl
def zr87 : zRec := (yX6_in, cX6_in, 3, (some .boolean), zc87, 6, 0, 3)
theorem zh87 : zMs[87]? = some zr87 := rfl
def zr88 : zRec := (yX6_isHeir, cX6_isHeir, 2, (some .boolean), zc88, 6, 1, 1)
theorem zh88 : zMs[88]? = some zr88 := rfl
def zr89 : zRec := (yX6_isMother, cX6_isMother, 1, (some .boolean), zc89, 6, 1, 1)
theorem zh89 : zMs[89]? = some zr89 := rfl
def zr90 : zRec := (yX6_isColour, cX6_isColour, 1, (some .boolean), zc90, 6, 1, 1)
theorem zh90 : zMs[90]? = some zr90 := rfl
def zr91 : zRec := (yX6_of, cX6_of, 3, (some .int), zc91, 6, 0, 2)
theorem zh91 : zMs[91]? = some zr91 := rfl
def zr92 : zRec := (yX6_record, cX6_record, 2, none, zc92, 6, 0, 0)
theorem zh92 : zMs[92]? = some zr92 := rfl
def zr93 : zRec := (yX6_putAside, cX6_putAside, 2, none, zc93, 6, 0, 0)
theorem zh93 : zMs[93]? = some zr93 := rfl
def zr94 : zRec := (yX6_putBack, cX6_putBack, 2, none, zc94, 6, 0, 0)
theorem zh94 : zMs[94]? = some zr94 := rfl
def zr95 : zRec := (yX6_ownerAt, cX6_ownerAt, 2, (some .int), zc95, 6, 0, 1)
theorem zh95 : zMs[95]? = some zr95 := rfl
def zr96 : zRec := (yX6_colourAt, cX6_colourAt, 2, (some .int), zc96, 6, 0, 1)
theorem zh96 : zMs[96]? = some zr96 := rfl
def zr97 : zRec := (yX6_valueAt, cX6_valueAt, 2, (some .int), zc97, 6, 0, 1)
theorem zh97 : zMs[97]? = some zr97 := rfl
def zr98 : zRec := (yX6_inBag, cX6_inBag, 4, (some .int), zc98, 6, 1, 1)
theorem zh98 : zMs[98]? = some zr98 := rfl
def zr99 : zRec := (yX6_worth, cX6_worth, 4, (some .int), zc99, 6, 1, 1)
theorem zh99 : zMs[99]? = some zr99 := rfl
def zr100 : zRec := (yX6_ofColour, cX6_ofColour, 5, (some .int), zc100, 6, 1, 2)
theorem zh100 : zMs[100]? = some zr100 := rfl
def zr101 : zRec := (yX6_find, cX6_find, 5, (some .int), zc101, 6, 2, 2)
theorem zh101 : zMs[101]? = some zr101 := rfl
def zr102 : zRec := (yX6_wishes, cX6_wishes, 3, (some .int), zc102, 6, 1, 0)
theorem zh102 : zMs[102]? = some zr102 := rfl
def zr103 : zRec := (yX6_spread, cX6_spread, 6, (some .int), zc103, 6, 2, 1)
theorem zh103 : zMs[103]? = some zr103 := rfl
def zr104 : zRec := (yX6_gives, cX6_gives, 3, none, zc104, 6, 0, 1)
theorem zh104 : zMs[104]? = some zr104 := rfl
def zr105 : zRec := (yX6_poorest, cX6_poorest, 5, (some .int), zc105, 6, 2, 1)
theorem zh105 : zMs[105]? = some zr105 := rfl
def zr106 : zRec := (yX6_rounds, cX6_rounds, 7, (some .int), zc106, 6, 3, 0)
theorem zh106 : zMs[106]? = some zr106 := rfl
def zr107 : zRec := (yX6_divides, cX6_divides, 2, (some .int), zc107, 6, 4, 0)
theorem zh107 : zMs[107]? = some zr107 := rfl
def zr108 : zRec := (yX6_vetoer, cX6_vetoer, 6, (some .int), zc108, 6, 1, 2)
theorem zh108 : zMs[108]? = some zr108 := rfl
def zr109 : zRec := (yX6_swaps, cX6_swaps, 4, none, zc109, 6, 1, 2)
theorem zh109 : zMs[109]? = some zr109 := rfl
def zr110 : zRec := (yX6_growth, cX6_growth, 6, (some .int), zc110, 6, 1, 2)
theorem zh110 : zMs[110]? = some zr110 := rfl
def zr111 : zRec := (yX6_size, cX6_size, 1, (some .int), zc111, 6, 0, 1)
theorem zh111 : zMs[111]? = some zr111 := rfl
def zr112 : zRec := (yX6_rate, cX6_rate, 4, (some .int), zc112, 6, 2, 2)
theorem zh112 : zMs[112]? = some zr112 := rfl
def zr113 : zRec := (yX6_rankOf, cX6_rankOf, 4, (some .int), zc113, 6, 1, 1)
theorem zh113 : zMs[113]? = some zr113 := rfl
def zr114 : zRec := (yX6_layBest, cX6_layBest, 5, none, zc114, 6, 4, 0)
theorem zh114 : zMs[114]? = some zr114 := rfl
def zr115 : zRec := (yX6_tries, cX6_tries, 6, (some .int), zc115, 6, 3, 3)
theorem zh115 : zMs[115]? = some zr115 := rfl
def zr116 : zRec := (yX6_come, cX6_come, 4, (some .int), zc116, 6, 2, 2)
theorem zh116 : zMs[116]? = some zr116 := rfl
def zr117 : zRec := (yX6_goBack, cX6_goBack, 5, none, zc117, 6, 0, 1)
theorem zh117 : zMs[117]? = some zr117 := rfl
def zr118 : zRec := (yX6_leave, cX6_leave, 6, (some .int), zc118, 6, 2, 1)
theorem zh118 : zMs[118]? = some zr118 := rfl
def zr119 : zRec := (yX6_wish, cX6_wish, 3, (some .int), zc119, 6, 2, 2)
theorem zh119 : zMs[119]? = some zr119 := rfl
def zr120 : zRec := (yX6_lays, cX6_lays, 4, (some .int), zc120, 6, 1, 2)
theorem zh120 : zMs[120]? = some zr120 := rfl
def zr121 : zRec := (yX6_setRule, cX6_setRule, 2, (some .int), zc121, 6, 2, 1)
theorem zh121 : zMs[121]? = some zr121 := rfl
def zr122 : zRec := (yX6_setPatience, cX6_setPatience, 2, (some .int), zc122, 6, 2, 1)
theorem zh122 : zMs[122]? = some zr122 := rfl
def zr123 : zRec := (yX6_grant, cX6_grant, 3, (some .int), zc123, 6, 2, 2)
theorem zh123 : zMs[123]? = some zr123 := rfl
def zr124 : zRec := (yX6_hasRoom, cX6_hasRoom, 2, (some .boolean), zc124, 6, 0, 1)
theorem zh124 : zMs[124]? = some zr124 := rfl
def zr125 : zRec := (yX6_drops, cX6_drops, 3, none, zc125, 6, 0, 2)
theorem zh125 : zMs[125]? = some zr125 := rfl
def zr126 : zRec := (yX6_drop, cX6_drop, 3, (some .int), zc126, 6, 2, 2)
theorem zh126 : zMs[126]? = some zr126 := rfl
def zr127 : zRec := (yX6_round, cX6_round, 1, (some .int), zc127, 6, 4, 0)
theorem zh127 : zMs[127]? = some zr127 := rfl
def zr128 : zRec := (yX6_divide, cX6_divide, 1, (some .int), zc128, 6, 5, 0)
theorem zh128 : zMs[128]? = some zr128 := rfl
def zr129 : zRec := (yX6_wrongSwap, cX6_wrongSwap, 5, (some .int), zc129, 6, 3, 4)
theorem zh129 : zMs[129]? = some zr129 := rfl
def zr130 : zRec := (yX6_swap, cX6_swap, 9, (some .int), zc130, 6, 4, 4)
theorem zh130 : zMs[130]? = some zr130 := rfl
def zr131 : zRec := (yX6_settle, cX6_settle, 2, (some .int), zc131, 6, 5, 0)
theorem zh131 : zMs[131]? = some zr131 := rfl
def zr132 : zRec := (yX6_placeOf, cX6_placeOf, 4, (some .int), zc132, 6, 0, 1)
theorem zh132 : zMs[132]? = some zr132 := rfl
def zr133 : zRec := (yX6_heir, cX6_heir, 3, (some .int), zc133, 6, 2, 2)
theorem zh133 : zMs[133]? = some zr133 := rfl
def zr134 : zRec := (yX6_bag, cX6_bag, 5, (some .int), zc134, 6, 3, 3)
theorem zh134 : zMs[134]? = some zr134 := rfl
def zr135 : zRec := (yX6_hopper, cX6_hopper, 3, (some .int), zc135, 6, 1, 2)
theorem zh135 : zMs[135]? = some zr135 := rfl
def zr136 : zRec := (yX6_vetoes, cX6_vetoes, 2, (some .int), zc136, 6, 2, 1)
theorem zh136 : zMs[136]? = some zr136 := rfl
def zr137 : zRec := (yX6_at, cX6_at, 2, (some .int), zc137, 6, 1, 1)
theorem zh137 : zMs[137]? = some zr137 := rfl
def zr138 : zRec := (yX6_valuesIn, cX6_valuesIn, 5, (some .int), zc138, 6, 0, 2)
theorem zh138 : zMs[138]? = some zr138 := rfl
def zr139 : zRec := (yX6_total, cX6_total, 2, (some .int), zc139, 6, 3, 1)
theorem zh139 : zMs[139]? = some zr139 := rfl
def zr140 : zRec := (yX6_ifDivided, cX6_ifDivided, 5, (some .int), zc140, 6, 5, 2)
theorem zh140 : zMs[140]? = some zr140 := rfl
def zr141 : zRec := (yX6_fairestRule, cX6_fairestRule, 6, (some .int), zc141, 6, 5, 0)
theorem zh141 : zMs[141]? = some zr141 := rfl
def zr142 : zRec := (yX6_whoVetoes, cX6_whoVetoes, 6, (some .int), zc142, 6, 4, 4)
theorem zh142 : zMs[142]? = some zr142 := rfl
def zr143 : zRec := (yX6_bestSwap, cX6_bestSwap, 2, (some .int), zc143, 6, 5, 1)
theorem zh143 : zMs[143]? = some zr143 := rfl
def zr144 : zRec := (yX6_append, cX6_append, 2, (some .int), zc144, 6, 1, 1)
theorem zh144 : zMs[144]? = some zr144 := rfl
def zr145 : zRec := (yX6_clearText, cX6_clearText, 2, (some .int), zc145, 6, 0, 0)
theorem zh145 : zMs[145]? = some zr145 := rfl
def zr146 : zRec := (yX6_colourFor, cX6_colourFor, 1, (some .int), zc146, 6, 0, 1)
theorem zh146 : zMs[146]? = some zr146 := rfl
def zr147 : zRec := (yX6_next, cX6_next, 2, (some .int), zc147, 6, 0, 1)
theorem zh147 : zMs[147]? = some zr147 := rfl
def zr148 : zRec := (yX6_goes, cX6_goes, 6, (some .int), zc148, 6, 1, 1)
theorem zh148 : zMs[148]? = some zr148 := rfl
def zr149 : zRec := (yX6_errorPosition, cX6_errorPosition, 1, (some .int), zc149, 6, 2, 0)
theorem zh149 : zMs[149]? = some zr149 := rfl
def zr150 : zRec := (yX6_pour, cX6_pour, 2, (some .int), zc150, 6, 2, 0)
theorem zh150 : zMs[150]? = some zr150 := rfl
def zr151 : zRec := (yX6_undo, cX6_undo, 2, (some .int), zc151, 6, 0, 0)
theorem zh151 : zMs[151]? = some zr151 := rfl
def zr152 : zRec := (yX6_save, cX6_save, 2, (some .int), zc152, 6, 0, 0)
theorem zh152 : zMs[152]? = some zr152 := rfl
def zr153 : zRec := (yX6_restore, cX6_restore, 2, (some .int), zc153, 6, 1, 0)
theorem zh153 : zMs[153]? = some zr153 := rfl
def zr154 : zRec := (yL_law, cL_law, 4, (some .boolean), zc154, 7, 9, 1)
theorem zh154 : zMs[154]? = some zr154 := rfl
