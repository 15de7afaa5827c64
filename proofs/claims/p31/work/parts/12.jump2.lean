section ZJ2
variable {p : Program} {l : Launch} {e : Env} {R : Room} {s : State} {m : MethodId} {args : Array Value} {below : List Frame} {meth : Method} {c : Code} {H : Heap} {locs : List Loc} {Q : State → Prop}
variable {b0 b L0 S0 cI cS : Nat} {D : va_G} {r : zRec} {w : zAW}
variable {scr : List Int32} {mi pc pc' : Nat} {ls ls' : zLs} {st st' : List Value} {w' : zAW} {d : Instr × Nat} {lsA : Array Slot}
theorem zrest (b0 b : Nat) (t : List Value) : ((t.map (zcv b0 b)).map fun v => v.category).sum = t.length := by
  induction t with
  | nil => rfl
  | cons a t ih =>
    simp only [List.map_cons, List.sum_cons, zcv_cat, ih, List.length_cons]
    omega
theorem z_field {own i : Nat} {q : Nat × Nat} (h : zfind2 zFt own i = some q) : ∃ N, zcl[q.1]? = some (zcn q.1, zT q.1, N) ∧ q.2 < N ∧ Cond.fieldLink (zcn own) i (zcn q.1) (zT q.1 q.2).2.1 (zT q.1 q.2).2.2.1 ∈ zGW ∧ (∀ w ∈ u_ws (zcn q.1) (zT q.1) N, w ∈ zGW) ∧ (∀ k, k < N → parseFieldDescriptor ((zT q.1) k).2.2.1 = some (zTy q.1 k)) ∧ (∀ a, a < N → ∀ b, b < N → a ≠ b → ((zT q.1) a).2.1 ≠ ((zT q.1) b).2.1) ∧ ∀ k, ((zT q.1) k).1 = zcn q.1 := by
  obtain ⟨x, h1, h2, h3⟩ := zFt_ok _ (zfind2_mem h)
  obtain ⟨e, g1, g2, g3, g4⟩ := zcl_ok h1
  obtain ⟨C, T, N⟩ := x
  cases e
  exact ⟨N, h1, h2, h3, g1, g2, g3, g4⟩
theorem zW_set' {k : Nat} {x : va_E} {x' : zAC} (h : x = zE b0 b cI cS x') : (zW b0 b cI cS w).set k (b0 + k, x) = zW b0 b cI cS (w.set k x') := by rw [h]; exact zW_set ..
theorem z_if0 {cc : ClassFile.Cond} {off : Int} {x : Int32} {t : List Value} {nx : zNx} {cells slots : Nat} {T : List Value} (hx : p.tables.exec = Jvm.exec) {b : ByteArray} (hb : c.code = b) (hdec : decode b pc = .ok (.ifCond cc off, 3)) (h : zbr (zcmp0 cc x) pc off ls t w = some nx) : ∃ t1, nx = .inl (t1, ls, t, w) ∧ (W p l e R s m args below meth c H locs cells slots Q (F0 m t1 lsA T) → W p l e R s m args below meth c H locs cells slots Q (F0 m pc lsA (.int x :: T))) := by
  unfold zbr at h
  split at h
  · rename_i hc
    obtain ⟨tg, ht, e1⟩ := zjmp_some h
    refine ⟨tg, e1, fun k => ?_⟩
    cases cc <;> simp only [zcmp0, decide_eq_true_eq] at hc
    · exact lv_if_eq hx hb hdec ht (fun _ => k) (fun q => absurd hc q)
    · exact lv_if_ne hx hb hdec ht (fun _ => k) (fun q => absurd q hc)
    · exact lv_if_lt hx hb hdec ht (fun _ => k) (fun q => absurd hc q)
    · exact lv_if_ge hx hb hdec ht (fun _ => k) (fun q => absurd hc q)
    · exact lv_if_gt hx hb hdec ht (fun _ => k) (fun q => absurd hc q)
    · exact lv_if_le hx hb hdec ht (fun _ => k) (fun q => absurd hc q)
  · rename_i hc
    split at h
    · rename_i ht
      refine ⟨pc + 3, (Option.some.inj h).symm, fun k => ?_⟩
      have ht := (Int.toNat_of_nonneg ht).symm
      cases cc <;> simp only [zcmp0, decide_eq_false_iff_not, Decidable.not_not] at hc
      · exact lv_if_eq hx hb hdec ht (fun q => absurd q hc) (fun _ => k)
      · exact lv_if_ne hx hb hdec ht (fun q => absurd hc q) (fun _ => k)
      · exact lv_if_lt hx hb hdec ht (fun q => absurd q hc) (fun _ => k)
      · exact lv_if_ge hx hb hdec ht (fun q => absurd q hc) (fun _ => k)
      · exact lv_if_gt hx hb hdec ht (fun q => absurd q hc) (fun _ => k)
      · exact lv_if_le hx hb hdec ht (fun q => absurd q hc) (fun _ => k)
    · cases h
theorem z_if2 {cc : ClassFile.Cond} {off : Int} {x y : Int32} {t : List Value} {nx : zNx} {cells slots : Nat} {T : List Value} (hx : p.tables.exec = Jvm.exec) {b : ByteArray} (hb : c.code = b) (hdec : decode b pc = .ok (.if_icmp cc off, 3)) (h : zbr (zcmp2 cc x y) pc off ls t w = some nx) : ∃ t1, nx = .inl (t1, ls, t, w) ∧ (W p l e R s m args below meth c H locs cells slots Q (F0 m t1 lsA T) → W p l e R s m args below meth c H locs cells slots Q (F0 m pc lsA (.int y :: .int x :: T))) := by
  unfold zbr at h
  split at h
  · rename_i hc
    obtain ⟨tg, ht, e1⟩ := zjmp_some h
    refine ⟨tg, e1, fun k => ?_⟩
    cases cc <;> simp only [zcmp2, decide_eq_true_eq] at hc
    · exact lv_icmp_eq hx hb hdec ht (fun _ => k) (fun q => absurd hc q)
    · exact lv_icmp_ne hx hb hdec ht (fun _ => k) (fun q => absurd q hc)
    · exact lv_icmp_lt hx hb hdec ht (fun _ => k) (fun q => absurd hc q)
    · exact lv_icmp_ge hx hb hdec ht (fun _ => k) (fun q => absurd hc q)
    · exact lv_icmp_gt hx hb hdec ht (fun _ => k) (fun q => absurd hc q)
    · exact lv_icmp_le hx hb hdec ht (fun _ => k) (fun q => absurd hc q)
  · rename_i hc
    split at h
    · rename_i ht
      refine ⟨pc + 3, (Option.some.inj h).symm, fun k => ?_⟩
      have ht := (Int.toNat_of_nonneg ht).symm
      cases cc <;> simp only [zcmp2, decide_eq_false_iff_not, Decidable.not_not] at hc
      · exact lv_icmp_eq hx hb hdec ht (fun q => absurd q hc) (fun _ => k)
      · exact lv_icmp_ne hx hb hdec ht (fun q => absurd hc q) (fun _ => k)
      · exact lv_icmp_lt hx hb hdec ht (fun q => absurd q hc) (fun _ => k)
      · exact lv_icmp_ge hx hb hdec ht (fun q => absurd q hc) (fun _ => k)
      · exact lv_icmp_gt hx hb hdec ht (fun q => absurd q hc) (fun _ => k)
      · exact lv_icmp_le hx hb hdec ht (fun q => absurd q hc) (fun _ => k)
    · cases h
theorem zdef_map {fs : List Value} (h : (fs.all fun v => decide (v = .int 0 ∨ v = .null)) = true) : fs.map (zcv b0 b) = fs := by
  conv => rhs; rw [← List.map_id fs]
  apply List.map_congr_left
  intro v hv
  have h1 := of_decide_eq_true (List.all_eq_true.mp h v hv)
  rcases h1 with rfl | rfl <;> rfl
set_option maxHeartbeats 4000000 in
theorem zI_jump (hF : zFrm b0 b D cI cS r p s m args meth c) (hb0 : b0 + L0 = s.heap.size) (hL0 : L0 ≤ w.length) (hS0 : S0 ≤ zsz w) (hdec : decode r.2.1 pc = .ok d) (hdep : r.2.2.2.2.2.2.1 ≤ R.frames ∧ 37 * r.2.2.2.2.2.2.1 ≤ R.locals)
    (hscr : 94 < mi → zScr scr b0 b s)
    (h : zI scr mi r pc ls st w d = some (.inl (pc', ls', st', w'))) (hroom : w'.length - L0 ≤ R.cells ∧ zsz w' - S0 ≤ R.slots)
    (k : zNext p l e R s m args below meth c Q b0 b cI cS D L0 S0 r.2.2.1 pc' ls' st' w') : zNext p l e R s m args below meth c Q b0 b cI cS D L0 S0 r.2.2.1 pc ls st w := by
  intro H locs lsA hP hS hL hLen
  obtain ⟨hx, hb, hml, hown, hts, ⟨hK, hAO, hNW⟩, hname⟩ := hF
  have hbA : b < b0 → ¬ (fun q => b0 ≤ q) b := fun h q => absurd h (Nat.not_lt.mpr q)
  unfold zI at h
  split at h
  · cases h; exact lv_iconst hx hb hdec rfl (k H locs lsA hP hS hL hLen)
  · cases h; exact lv_bipush hx hb hdec rfl (k H locs lsA hP hS hL hLen)
  · cases h; exact lv_sipush hx hb hdec rfl (k H locs lsA hP hS hL hLen)
  · split at h
    · rename_i x hl
      cases h; exact lv_iload_n hx hb hdec rfl (zld_at hL hl) (k H locs lsA hP hS hL hLen)
    · cases h
  · split at h
    · rename_i x hl
      cases h; exact lv_iload hx hb hdec (zld_at hL hl) (k H locs lsA hP hS hL hLen)
    · cases h
  · split at h
    · rename_i x hl
      cases h; exact lv_aload_n hx hb hdec rfl (zld_at hL hl) (k H locs lsA hP hS hL hLen)
    · rename_i x hl
      cases h; exact lv_aload_n hx hb hdec rfl (zld_at hL hl) (k H locs lsA hP hS hL hLen)
    · cases h
  · split at h
    · rename_i x hl
      cases h; exact lv_aload hx hb hdec (zld_at hL hl) (k H locs lsA hP hS hL hLen)
    · cases h
  · split at h
    · rename_i q hq
      cases h
      exact lv_ldc hx hb hown (hts _ (zKt_ok _ (zfind2_mem hq))) hdec (k H locs lsA hP hS hL hLen)
    · cases h
  · split at h
    · split at h
      · rename_i hlt
        cases h
        exact lv_istore_n hx hb hdec rfl hL (by omega) rfl (fun ls2 h2 => k H locs ls2 hP hS (zlv_set rfl h2) (by simpa using hLen))
      · cases h
    · cases h
  · split at h
    · split at h
      · rename_i hlt
        cases h
        exact lv_istore hx hb hdec hL (by omega) rfl (fun ls2 h2 => k H locs ls2 hP hS (zlv_set rfl h2) (by simpa using hLen))
      · cases h
    · cases h
  · split at h
    · split at h
      · rename_i hlt
        cases h
        exact lv_astore_n hx hb hdec rfl hL (by omega) rfl (fun ls2 h2 => k H locs ls2 hP hS (zlv_set rfl h2) (by simpa using hLen))
      · cases h
    · cases h
  · split at h
    · split at h
      · rename_i hlt
        cases h
        exact lv_astore hx hb hdec hL (by omega) rfl (fun ls2 h2 => k H locs ls2 hP hS (zlv_set rfl h2) (by simpa using hLen))
      · cases h
    · cases h
  · split at h
    · rename_i x hl
      cases h
      obtain ⟨j, hj⟩ := zlv_idx (b0 := b0) (b := b) hl
      have := zld_lt hl
      exact lv_iinc hx hb hdec hL hj rfl (by omega) rfl (fun ls2 h2 => k H locs ls2 hP hS (zlv_set rfl h2) (by simpa using hLen))
    · cases h
  · split at h
    · cases h; exact lv_iadd hx hb hdec (k H locs lsA hP hS hL hLen)
    · cases h
  · split at h
    · cases h; exact lv_isub hx hb hdec (k H locs lsA hP hS hL hLen)
    · cases h
  · split at h
    · cases h; exact lv_imul hx hb hdec (k H locs lsA hP hS hL hLen)
    · cases h
  · split at h
    · cases h; exact lv_iand hx hb hdec (k H locs lsA hP hS hL hLen)
    · cases h
  · split at h
    · cases h; exact lv_ior hx hb hdec (k H locs lsA hP hS hL hLen)
    · cases h
  · split at h
    · cases h; exact lv_ishl hx hb hdec (k H locs lsA hP hS hL hLen)
    · cases h
  · split at h
    · cases h; exact lv_ishr hx hb hdec (k H locs lsA hP hS hL hLen)
    · cases h
  · split at h
    · split at h
      · cases h
      · rename_i hy
        cases h; exact lv_idiv hx hb hdec hy (k H locs lsA hP hS hL hLen)
    · cases h
  · split at h
    · split at h
      · cases h
      · rename_i hy
        cases h; exact lv_irem hx hb hdec hy (k H locs lsA hP hS hL hLen)
    · cases h
  · split at h
    · cases h; exact lv_ineg hx hb hdec (k H locs lsA hP hS hL hLen)
    · cases h
  · split at h
    · cases h; exact lv_dup hx hb hdec (zcv_cat _ _ _) (k H locs lsA hP hS hL hLen)
    · cases h
  · split at h
    · cases h; exact lv_dup2_11 hx hb hdec (zcv_cat _ _ _) (zcv_cat _ _ _) (k H locs lsA hP hS hL hLen)
    · cases h
  · split at h
    · cases h; exact lv_pop hx hb hdec (zcv_cat _ _ _) (k H locs lsA hP hS hL hLen)
    · cases h
  · split at h
    · obtain ⟨t1, e1, hk⟩ := z_if0 hx hb hdec h
      cases e1; exact hk (k H locs lsA hP hS hL hLen)
    · cases h
  · split at h
    · obtain ⟨t1, e1, hk⟩ := z_if2 hx hb hdec h
      cases e1; exact hk (k H locs lsA hP hS hL hLen)
    · cases h
  · obtain ⟨t1, ht, e1⟩ := zjmp_some h
    cases e1; exact lv_goto hx hb hdec ht (k H locs lsA hP hS hL hLen)
  · split at h
    · split at h
      · split at h
        · rename_i q hq _ v hv
          cases h
          obtain ⟨N, f1, f2, f3, f4, f5, f6, f7⟩ := z_field hq
          obtain ⟨fs, g1, g2⟩ := zgf_some hv
          exact va_get hx hb hts f4 hown hK hP _ (zW_get g1) f1 q.2 f2 (hts _ f3) (fun y hy => by rw [← f7 q.2]; exact hy) (v := zcv b0 b v) (by show (fs.map _)[q.2]? = _; rw [List.getElem?_map, g2]; rfl) hdec (k H locs lsA hP hS hL hLen)
        · cases h
      · cases h
    · cases h
  · split at h
    · split at h
      · split at h
        · split at h
          · rename_i v a t _ q hq hok _ w1 hw1
            cases h
            obtain ⟨N, f1, f2, f3, f4, f5, f6, f7⟩ := z_field hq
            obtain ⟨fs, g1, g2, rfl⟩ := zpf_some hw1
            simp only [zpok, Bool.and_eq_true, Bool.or_eq_true, Bool.not_eq_true', decide_eq_true_eq] at hok
            obtain ⟨hv, hfin⟩ := hok
            obtain ⟨v1, v2⟩ := zvfit_ok b0 b hv
            have e1 : ((zW b0 b cI cS w).set a (b0 + a, Sum.inr (q.1, (fs.map (zcv b0 b)).set q.2 (zcv b0 b v)))) = zW b0 b cI cS (w.set a (.inr (.inr (q.1, fs.set q.2 v)))) := zW_set' (by simp [zE, List.map_set])
            have hl2 : q.2 < (fs.map (zcv b0 b)).length := by simpa using g2
            have hsz : zsz (w.set a (.inr (.inr (q.1, fs.set q.2 v)))) = zsz w := zsz_set g1 (by simp [zc1s])
            rcases hfin with hfin | ⟨hi, ho⟩
            · exact va_put hx hb hts f4 (zTy q.1) f5 f6 hown hK hP (zW_D b0 b cI cS w) hS _ (zW_get g1) f1 q.2 f2 (hts _ f3) (fun y hy => by rw [← f7 q.2]; exact hy) hfin (f5 q.2 f2) v1 v2 hl2 hdec (fun H1 locs1 hP1 _ hS1 => by
                rw [e1] at hP1
                have := k H1 locs1 lsA hP1 hS1 hL hLen
                rw [hsz, List.length_set] at this
                exact this)
            · by_cases hfin : (zT q.1 q.2).2.2.2 = true
              · exact va_putF hx hb hts f4 (zTy q.1) f5 f6 hown hK hP (zW_D b0 b cI cS w) hS _ (zW_get g1) f1 q.2 f2 (hts _ f3) (fun y hy => by rw [← f7 q.2]; exact hy) hfin (hname hi) (by rw [f7 q.2, ho]) (f5 q.2 f2) v1 v2 hl2 hdec (fun H1 locs1 hP1 _ hS1 => by
                rw [e1] at hP1
                have := k H1 locs1 lsA hP1 hS1 hL hLen
                rw [hsz, List.length_set] at this
                exact this)
              · exact va_put hx hb hts f4 (zTy q.1) f5 f6 hown hK hP (zW_D b0 b cI cS w) hS _ (zW_get g1) f1 q.2 f2 (hts _ f3) (fun y hy => by rw [← f7 q.2]; exact hy) (by simpa using hfin) (f5 q.2 f2) v1 v2 hl2 hdec (fun H1 locs1 hP1 _ hS1 => by
                rw [e1] at hP1
                have := k H1 locs1 lsA hP1 hS1 hL hLen
                rw [hsz, List.length_set] at this
                exact this)
          · cases h
        · cases h
      · cases h
    · cases h
  · split at h
    · split at h
      · rename_i x hx1
        cases h
        obtain ⟨f, g1, g2, g3⟩ := zal_some hx1
        have hlt := (List.getElem?_eq_some_iff.mp g3).1
        refine va_iald hx hb hK hP _ 0 (zW_get g1) rfl (zvp_in g2 hlt) hdec ?_
        simp only [List.getD_eq_getElem?_getD, g3, Option.getD_some]
        exact k H locs lsA hP hS hL hLen
      · cases h
    · split at h
      · split at h
        · rename_i hmi _ x hx1
          cases h
          obtain ⟨xs, hX, hbl, hxs⟩ := hscr hmi.1
          have hlt := (List.getElem?_eq_some_iff.mp hx1).1
          refine va_sld hx hb hX (by omega) (hbA hbl) hS (zvp_in hmi.2 hlt) hdec ?_
          rw [hxs _ _ hx1]
          exact k H locs lsA hP hS hL hLen
        · cases h
      · cases h
    · cases h
  · split at h
    · split at h
      · rename_i hmi
        cases h
        obtain ⟨xs, hX, hbl, hxs⟩ := hscr hmi
        exact va_slen hx hb hX (by omega) (hbA hbl) hS hdec (k H locs lsA hP hS hL hLen)
      · cases h
    · cases h
  · split at h
    · split at h
      · rename_i x i a t _ w1 hw1
        cases h
        obtain ⟨f, g1, g2, g3, rfl⟩ := zas_some hw1
        refine va_iast hx hb hK hP (zW_D b0 b cI cS w) hS _ 0 (zW_get g1) rfl (zvp_in g2 g3) hdec (fun H1 locs1 hP1 _ hS1 => ?_)
        rw [zW_set' (x' := .inl (f.set i.toNatClampNeg x)) (by simp only [zE, zgetD_set g3, List.length_set])] at hP1
        have := k H1 locs1 lsA hP1 hS1 hL hLen
        rw [zsz_set g1 (by simp [zc1s]), List.length_set] at this
        exact this
      · cases h
    · cases h
  · split at h
    · split at h
      · rename_i x hx1
        cases h
        obtain ⟨f, g1, g2, g3⟩ := zql_some hx1
        have hlt := (List.getElem?_eq_some_iff.mp g3).1
        refine va_aldq hx hb hK hP _ 1 (zW_get g1) rfl (zvp_in g2 hlt) hdec ?_
        simp only [List.getD_eq_getElem?_getD, g3, Option.getD_some]
        exact k H locs lsA hP hS hL hLen
      · cases h
    · cases h
  · split at h
    · split at h
      · rename_i x i a t _ w1 hw1
        cases h
        obtain ⟨f, fs, g1, g2, g3, g4, rfl⟩ := zqs_some hw1
        refine va_astq hx hb hK hP (zW_D b0 b cI cS w) hS _ 1 _ 3 (r := (RX3, TX3, 11)) (zW_get g1) rfl (zW_get g4) rfl (zvp_in g2 g3) hdec (fun H1 locs1 hP1 _ hS1 => ?_)
        have e2 : va_up (fun i => (f.getD i none).map (fun a => b0 + a)) i.toNatClampNeg (some (b0 + x)) = fun j => ((f.set i.toNatClampNeg (some x)).getD j none).map (fun a => b0 + a) := by
          funext j
          simp only [va_up, List.getD_eq_getElem?_getD, List.getElem?_set]
          by_cases hj : j = i.toNatClampNeg
          · subst hj; simp [g3]
          · simp [hj, Ne.symm hj]
        rw [zW_set' (x' := .inr (.inl (f.set i.toNatClampNeg (some x)))) (by simp only [zE, e2, List.length_set])] at hP1
        have := k H1 locs1 lsA hP1 hS1 hL hLen
        rw [zsz_set g1 (by simp [zc1s]), List.length_set] at this
        exact this
      · cases h
    · cases h
  · split at h
    · split at h
      · rename_i _ q hq _ fs hfs
        cases h
        obtain ⟨qv, h1, h2, h3, h4, h5, fs', h6, h7, h8, h9⟩ := zNt_ok _ (zfind2_mem hq)
        obtain ⟨e, g1, g2, g3, g4⟩ := zcl_ok h1
        obtain ⟨C, T, N⟩ := qv
        cases e
        cases hfs.symm.trans h6
        have hmap : fs.map (zcv b0 b) = fs := zdef_map h8
        dsimp only at h2
        subst h2
        have hN : q.2 = fs.length := h7.symm
        have hlen : (w ++ [Sum.inr (Sum.inr (q.1, fs))]).length - L0 = w.length - L0 + 1 := by simp; omega
        have hszz : zsz (w ++ [Sum.inr (Sum.inr (q.1, fs))]) - S0 = zsz w - S0 + q.2 := by rw [zsz_app]; simp only [zc1s]; omega
        rw [hlen, hszz] at hroom
        refine va_new hx hb hts g1 (zTy q.1) g2 hown (hts _ h3) (hts _ h4) (hts _ h5) hK hP (zW_D b0 b cI cS w) hS (fun q h => by omega) h1 h9 hroom.1 hroom.2 hdec (fun qa H1 hP1 hD1 hS1 => ?_)
        refine z_sz fun hsz => ?_
        have hqa := z_new_at hb0 hL0 hP1 hD1 hsz
        subst hqa
        have hP2 : va_P D zcl (zW b0 b cI cS (w ++ [Sum.inr (Sum.inr (q.1, fs))])) H1 := by
          rw [zW_app]
          simp only [zE, hmap]
          exact hP1
        have := k H1 locs lsA hP2 hS1 hL hLen
        rw [hlen, hszz] at this
        exact this
      · cases h
    · cases h
  · split at h
    · split at h
      · rename_i n t hn
        cases h
        have hlen : (w ++ [Sum.inl (List.replicate n.toNatClampNeg 0)] : zAW).length - L0 = w.length - L0 + 1 := by simp; omega
        have hszz : zsz (w ++ [Sum.inl (List.replicate n.toNatClampNeg 0)]) - S0 = zsz w - S0 + n.toNatClampNeg := by rw [zsz_app]; simp only [zc1s, List.length_replicate]; omega
        rw [hlen, hszz] at hroom
        refine va_newa hx hb (atype := .int) (hts _ zarrc) rfl hK hP (zW_D b0 b cI cS w) hS (fun q h => by omega) (a0 := (n.toNatClampNeg, .inl (fun _ => 0))) (N' := n.toNatClampNeg) (fun cA => by rw [vp_cell_i]; rfl) hn.1 rfl (by show _ * 4 ≤ _; omega) hroom.1 hroom.2 hdec (fun qa cA H1 hK1 hP1 hD1 hS1 => ?_)
        refine z_sz fun hsz => ?_
        have hqa := z_new_at hb0 hL0 hP1 hD1 hsz
        subst hqa
        have hcA : cA = cI := by
          have h1 : s.vm.findClass _ = some cI := (hK.2 0 _ rfl).2
          have h2 : s.vm.findClass _ = some cA := (hK1.2 2 _ rfl).2
          exact Option.some.inj (h2.symm.trans h1)
        subst hcA
        have hP2 : va_P D zcl (zW b0 b cA cS (w ++ [Sum.inl (List.replicate n.toNatClampNeg 0)])) H1 := by
          rw [zW_app]
          have e1 : (fun i => (List.replicate n.toNatClampNeg (0 : Int32)).getD i 0) = fun _ => 0 := by
            funext j
            rw [List.getD_eq_getElem?_getD, List.getElem?_replicate]
            split <;> rfl
          simp only [zE, e1, List.length_replicate]
          exact hP1
        have := k H1 locs lsA hP2 hS1 hL hLen
        rw [hlen, hszz] at this
        exact this
      · cases h
    · cases h
  · split at h
    · split at h
      · rename_i n t _ u hq
        split at h
        · rename_i hn
          cases h
          obtain ⟨qv, h1, h2, h3, h4, h5, -⟩ := zNt_ok _ (zfind2_mem hq)
          have hlen : (w ++ [Sum.inr (Sum.inl (List.replicate n.toNatClampNeg none))] : zAW).length - L0 = w.length - L0 + 1 := by simp; omega
          have hszz : zsz (w ++ [Sum.inr (Sum.inl (List.replicate n.toNatClampNeg none))]) - S0 = zsz w - S0 + n.toNatClampNeg := by rw [zsz_app]; simp only [zc1s, List.length_replicate]; omega
          rw [hlen, hszz] at hroom
          refine va_newq hx hb hown (hts _ h3) hAO hK hP (zW_D b0 b cI cS w) hS (fun q h => by omega) (N' := n.toNatClampNeg) hn.1 rfl (by omega) hroom.1 hroom.2 hdec (fun qa cA H1 hK1 hP1 hD1 hS1 => ?_)
          refine z_sz fun hsz => ?_
          have hqa := z_new_at hb0 hL0 hP1 hD1 hsz
          subst hqa
          have hcA : cA = cS := by
            obtain ⟨_, _, _, _, _, h1⟩ := (hK.2 1 _ rfl).2
            obtain ⟨_, _, _, _, _, h2⟩ := (hK1.2 2 _ rfl).2
            exact Option.some.inj (h2.symm.trans h1)
          subst hcA
          have hP2 : va_P D zcl (zW b0 b cI cA (w ++ [Sum.inr (Sum.inl (List.replicate n.toNatClampNeg none))])) H1 := by
            rw [zW_app]
            have e1 : (fun i => ((List.replicate n.toNatClampNeg (none : Option Nat)).getD i none).map (fun a => b0 + a)) = fun _ => none := by
              funext j
              rw [List.getD_eq_getElem?_getD, List.getElem?_replicate]
              split <;> rfl
            simp only [zE, e1, List.length_replicate]
            exact hP1
          have := k H1 locs lsA hP2 hS1 hL hLen
          rw [hlen, hszz] at this
          exact this
        · cases h
      · cases h
    · cases h
  · split at h
    · obtain ⟨rj, a, rest, fs, -, -, -, -, -, -, -, e1⟩ := zcallV_some h
      cases e1
    · cases h
  · split at h
    · obtain ⟨rj, a, rest, fs, -, -, -, -, -, -, -, e1⟩ := zcallV_some h
      cases e1
    · obtain ⟨rj, a, rest, fs, -, -, -, -, -, -, -, e1⟩ := zcallV_some h
      cases e1
    · split at h
      · split at h
        · rename_i hq _ _ _ hn
          cases h
          have hk := zCt_ok _ (zfind2_mem hq)
          refine W.objInit hx hb hown (hts _ hk) (hts _ zobj.1) (hts _ zobj.2) rfl (hL.1.trans hml.symm) rfl hdec (by omega) ?_ (k H locs lsA hP hS hL hLen)
          show 2 * 0 + _ + 12 ≤ _
          rw [zrest]
          omega
        · cases h
      · cases h
    · cases h
  · split at h
    · obtain ⟨rj, -, -, -, -, -, -, e1⟩ := zcallS_some h
      cases e1
    · obtain ⟨rj, -, -, -, -, -, -, e1⟩ := zcallS_some h
      cases e1
    · rename_i hq
      have hk := zCt_ok _ (zfind2_mem hq)
      split at h
      · split at h
        · split at h
          · rename_i n dp a1 sp a0 t hn _ w1 hw1
            cases h
            obtain ⟨l0, l1, g0, g1, g2, g3, g4, g5, g6, rfl⟩ := zcp_some hw1
            refine va_copyi hx hb (hml.trans hL.1.symm) hown (hts _ hk) (hts _ zcopy.1) (hts _ zcopy.2.1) (hts _ zcopy.2.2) hK hP (zW_D b0 b cI cS w) hS _ _ 0 0 (zW_get g0) (zW_get g1) rfl rfl rfl g2 g3 g4 g5 g6 (fun _ _ => rfl) (by omega) ?_ hdec (fun H1 locs1 hP1 _ hS1 => ?_)
            · rw [zrest, show nativeFrameWords "java/lang/System" "arraycopy" 5 = 7 from rfl]
              omega
            · rw [zcpl_getD g5 g6, zW_set' (x' := .inl (zcpl l0 l1 sp.toNatClampNeg dp.toNatClampNeg n.toNatClampNeg)) (by simp only [zE, zcpl_len g5 g6])] at hP1
              have := k H1 locs1 lsA hP1 hS1 hL hLen
              rw [zsz_set g1 (by simp only [zc1s, zcpl_len g5 g6]), List.length_set] at this
              exact this
          · cases h
        · cases h
      · cases h
    · rename_i hq
      have hk := zCt_ok _ (zfind2_mem hq)
      split at h
      · split at h
        · rename_i hn
          cases h
          refine va_mmax hx hb (hml.trans hL.1.symm) hown (hts _ hk) (hts _ zmath_max.1) (hts _ zmath_max.2.1) (hts _ zmath_max.2.2) (by omega) ?_ ?_ ?_ hdec (k H locs lsA hP hS hL hLen)
          · rw [zrest]; omega
          · exact hroom.1
          · exact hroom.2
        · cases h
      · cases h
    · rename_i hq
      have hk := zCt_ok _ (zfind2_mem hq)
      split at h
      · split at h
        · rename_i hn
          cases h
          refine va_mmin hx hb (hml.trans hL.1.symm) hown (hts _ hk) (hts _ zmath_min.1) (hts _ zmath_min.2.1) (hts _ zmath_min.2.2) (by omega) ?_ ?_ ?_ hdec (k H locs lsA hP hS hL hLen)
          · rw [zrest]; omega
          · exact hroom.1
          · exact hroom.2
        · cases h
      · cases h
    · rename_i hq
      have hk := zCt_ok _ (zfind2_mem hq)
      split at h
      · split at h
        · rename_i hn
          cases h
          refine va_mabs hx hb (hml.trans hL.1.symm) hown (hts _ hk) (hts _ zmath_abs.1) (hts _ zmath_abs.2.1) (hts _ zmath_abs.2.2) (by omega) ?_ ?_ ?_ hdec (k H locs lsA hP hS hL hLen)
          · rw [zrest]; omega
          · exact hroom.1
          · exact hroom.2
        · cases h
      · cases h
    · cases h
  · split at h
    · split at h <;> cases h
    · cases h
  · split at h
    · split at h <;> cases h
    · cases h
  · split at h
    · rename_i x t
      split at h
      · rename_i hxx
        obtain ⟨t1, ht, e1⟩ := zjmp_some h
        cases e1
        exact lv_tableOut hx hb hdec hxx ht (k H locs lsA hP hS hL hLen)
      · rename_i hxx
        simp only [not_or] at hxx
        split at h
        · rename_i off ho
          obtain ⟨t1, ht, e1⟩ := zjmp_some h
          cases e1
          exact lv_tableIn hx hb hdec hxx.1 hxx.2 ho ht (k H locs lsA hP hS hL hLen)
        · cases h
    · cases h
  · split at h
    · split at h
      · rename_i hp
        obtain ⟨t1, ht, e1⟩ := zjmp_some h
        cases e1
        exact lv_lookup hx hb hdec hp rfl ht (k H locs lsA hP hS hL hLen)
      · cases h
    · cases h
  · cases h
end ZJ2
