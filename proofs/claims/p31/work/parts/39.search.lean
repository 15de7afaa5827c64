section SR
variable {A B : Nat → Nat → Nat} {p q h : Nat} {scr : List Int32}
theorem zsm9_m (hp : zsb p) (h9 : zsm9 A B) (h i g j : Nat) : mcol B p h i = mcol A p h i ∧ mval B p h i = mval A p h i ∧ gpl B p h i g j = gpl A p h i g j ∧ gmi B p h i g j = gmi A p h i g j := by
  have hp69 : p + 7 < 69 := by unfold zsb at hp; omega
  have e : ∀ c k, c ≠ 69 → B c k = A c k := h9.1
  have e2 : ∀ h i, mcol B p h i = mcol A p h i := fun h i => by
    unfold mcol
    rw [e (p + 3) h (by omega), e _ _ (by omega)]
  refine ⟨e2 h i, ?_, ?_, ?_⟩
  · unfold mval
    rw [e (p + 3) h (by omega), e _ _ (by omega)]
  · unfold gpl
    rw [e2, e2, e _ _ (by omega), e _ _ (by omega)]
  · unfold gmi
    rw [e2, e2, e _ _ (by omega), e _ _ (by omega)]
theorem b_partners {i : Nat} (hp : zsb p) (ho : cOk A p) (h4 : A 69 4 ≤ 2) (h5 : A 69 5 < 10) (hh : h < A p 1) (hi : i < zcnt A p h) : zC scr 3 [.ref 69, .ref p, .int (nI h), .int (nI i)] (wd A) = some (none, wd (itG A p h i (A p 1 - (h + 1)))) := by
  have hn := ho.2.2.1
  have ri := in_row ho.1 (by omega) hi
  have hp69 : p + 7 < 69 := by unfold zsb at hp; omega
  have e1 := ho.2.1 _ ri
  have hwh := ho.2.2.2.1 h hh
  have hcol : ∀ (x y : Nat), mcol A p x y = A (p + 2) (A (p + 3) x + y) / 10 := fun _ _ => rfl
  have cl : ∀ g j, g < A p 1 → j < zcnt A p g → mcol A p g j < 100 := fun g j hg hj => by
    have := ho.2.1 _ (in_row ho.1 (by omega) hj)
    rw [hcol]
    omega
  have c1l := cl h i hh hi
  rw [zC_of zh3]
  refine (b3_0 (f2 := nI (mcol A p h i)) (o_gf (o_st hp) rfl) (o_ob (o_mb hp)) (m_colour hp (by omega) ri (by omega)) (o_gf (o_st hp) rfl) (w_al (zw5 hp) (by omega) (by omega))).trans ?_
  rw [n_add]
  -- one partner heir
  have hone : ∀ k B, zsm9 A B → k < A p 1 - (h + 1) → ∀ v7 v8 v9 v10 v11 v12, ∃ u7 u8 u9 u10 u11 u12, zd scr 3 24 [some (.ref 69), some (.ref p), some (.int (nI h)), some (.int (nI i)), some (.int (nI (mcol A p h i))), some (.int (nI (A (p + 5) h))), some (.int (nI (h + 1 + k))), v7, v8, v9, v10, v11, v12] [] (wd B) = zd scr 3 24 [some (.ref 69), some (.ref p), some (.int (nI h)), some (.int (nI i)), some (.int (nI (mcol A p h i))), some (.int (nI (A (p + 5) h))), some (.int (nI (h + 1 + (k + 1)))), u7, u8, u9, u10, u11, u12] [] (wd (itJ B p h i (h + 1 + k) (zcnt A p (h + 1 + k)))) := by
    intro k B h9 hk v7 v8 v9 v10 v11 v12
    obtain ⟨hob, hB1, hBc⟩ := zsm9_ok hp h9 ho
    have hg : h + 1 + k < A p 1 := by omega
    have hwg := ho.2.2.2.1 (h + 1 + k) hg
    have eB : ∀ c k, c ≠ 69 → B c k = A c k := h9.1
    have o1 := one1_le (mcol A p h i) (A (p + 5) (h + 1 + k))
    have o2 := one1_le (mcol A p h i) (A (p + 5) h)
    refine ⟨some (.int (nI (A (p + 5) (h + 1 + k)))), some (.int (nI (one1 (mcol A p h i) (A (p + 5) (h + 1 + k))) - nI (one1 (mcol A p h i) (A (p + 5) h)))), ?_⟩
    -- the loop over the marbles of that heir
    have hin : ∀ (N : Nat), N ≤ zcnt A p (h + 1 + k) → ∀ x9 : Nat, x9 = zcnt A p (h + 1 + k) → ∀ v11 v12, ∃ u11 u12, zd scr 3 92 [some (.ref 69), some (.ref p), some (.int (nI h)), some (.int (nI i)), some (.int (nI (mcol A p h i))), some (.int (nI (A (p + 5) h))), some (.int (nI (h + 1 + k))), some (.int (nI (A (p + 5) (h + 1 + k)))), some (.int (nI (one1 (mcol A p h i) (A (p + 5) (h + 1 + k))) - nI (one1 (mcol A p h i) (A (p + 5) h)))), some (.int (nI x9)), some (.int (nI 0)), v11, v12] [] (wd B) =
        zd scr 3 92 [some (.ref 69), some (.ref p), some (.int (nI h)), some (.int (nI i)), some (.int (nI (mcol A p h i))), some (.int (nI (A (p + 5) h))), some (.int (nI (h + 1 + k))), some (.int (nI (A (p + 5) (h + 1 + k)))), some (.int (nI (one1 (mcol A p h i) (A (p + 5) (h + 1 + k))) - nI (one1 (mcol A p h i) (A (p + 5) h)))), some (.int (nI x9)), some (.int (nI N)), u11, u12] [] (wd (itJ B p h i (h + 1 + k) N)) := by
      intro N
      induction N with
      | zero => intro _ x9 _ v11 v12; exact ⟨v11, v12, rfl⟩
      | succ N ih =>
        intro hN x9 hx9 v11 v12
        obtain ⟨u11, u12, hu⟩ := ih (by omega) x9 hx9 v11 v12
        have h9j : zsm9 A (itJ B p h i (h + 1 + k) N) := h9.trans (itJ_ok h9.2.1 h9.2.2 N)
        obtain ⟨hoj, hJ1, hJc⟩ := zsm9_ok hp h9j ho
        have hzl := zcnt_le ho.1 (h := h + 1 + k) (by omega)
        have c2l := cl (h + 1 + k) N hg (by omega)
        have hm9 := zsm9_m hp h9j h i (h + 1 + k) N
        have o3 := one1_le (mcol A p (h + 1 + k) N) (A (p + 5) h)
        have o4 := one1_le (mcol A p (h + 1 + k) N) (A (p + 5) (h + 1 + k))
        have hb4 := bits4 _ (show one1 (mcol A p h i) (A (p + 5) (h + 1 + k)) < 2 by omega) _ (show one1 (mcol A p h i) (A (p + 5) h) < 2 by omega) _ (show one1 (mcol A p (h + 1 + k) N) (A (p + 5) h) < 2 by omega) _ (show one1 (mcol A p (h + 1 + k) N) (A (p + 5) (h + 1 + k)) < 2 by omega)
        have hb5 := bits5 _ (show one1 (mcol A p h i) (A (p + 5) (h + 1 + k)) < 2 by omega) _ (show one1 (mcol A p h i) (A (p + 5) h) < 2 by omega) _ (show one1 (mcol A p (h + 1 + k) N) (A (p + 5) h) < 2 by omega) _ (show one1 (mcol A p (h + 1 + k) N) (A (p + 5) (h + 1 + k)) < 2 by omega)
        have hgp : gpl A p h i (h + 1 + k) N = one1 (mcol A p h i) (A (p + 5) (h + 1 + k)) + one1 (mcol A p (h + 1 + k) N) (A (p + 5) h) := rfl
        have hgm : gmi A p h i (h + 1 + k) N = one1 (mcol A p h i) (A (p + 5) h) + one1 (mcol A p (h + 1 + k) N) (A (p + 5) (h + 1 + k)) := rfl
        rw [← hgp, ← hgm] at hb4 hb5
        have rj := in_row hoj.1 (g := h + 1 + k) (j := N) (by omega) (by rw [hJc]; omega)
        have ecol : zC scr 10 [.ref (p + 1), .int (nI (h + 1 + k)), .int (nI N)] (wd (itJ B p h i (h + 1 + k) N)) = some (some (.int (nI (mcol A p (h + 1 + k) N))), wd (itJ B p h i (h + 1 + k) N)) := by
          have := m_colour (scr := scr) hp (by omega) rj (by have := hoj.2.1 _ rj; omega)
          rw [show itJ B p h i (h + 1 + k) N (p + 2) (itJ B p h i (h + 1 + k) N (p + 3) (h + 1 + k) + N) / 10 = mcol A p (h + 1 + k) N from (zsm9_m hp h9j (h + 1 + k) N 0 0).1] at this
          exact this
        refine ⟨some (.int (nI (mcol A p (h + 1 + k) N))), some (.int (((nI (one1 (mcol A p h i) (A (p + 5) (h + 1 + k))) - nI (one1 (mcol A p h i) (A (p + 5) h))) + nI (one1 (mcol A p (h + 1 + k) N) (A (p + 5) h))) - nI (one1 (mcol A p (h + 1 + k) N) (A (p + 5) (h + 1 + k))))), hu.trans ?_⟩
        refine b3_92.trans ?_
        rw [i_lt (by omega) (by omega)]
        refine (b3_99 (o_gf (o_st hp) rfl) (o_ob (o_mb hp)) ecol (b_one (by omega) (by omega)) (b_one (by omega) (by omega))).trans ?_
        rw [show itJ B p h i (h + 1 + k) (N + 1) = cdA (itJ B p h i (h + 1 + k) N) p h i (h + 1 + k) N from rfl]
        unfold cdA
        rw [hm9.2.2.1, hm9.2.2.2]
        by_cases k1 : gmi A p h i (h + 1 + k) N < gpl A p h i (h + 1 + k) N
        · rw [if_pos (hb4.mpr k1)]
          have k2 := hb5.resolve_left (by omega)
          rw [k2]
          refine (b3_137 (b_gf 4 (by omega))).trans ?_
          by_cases k3 : itJ B p h i (h + 1 + k) N 69 4 ≤ gpl A p h i (h + 1 + k) N - gmi A p h i (h + 1 + k) N
          · rw [i_nlt (by omega) (by omega), if_pos ⟨k1, k3⟩]
            refine (b3_146 (o_ob o_69) (b_weigh hp hoj (by omega) (by omega) (by rw [hJc]; omega) (by rw [hJc]; omega) (by omega) (by have := h9j.2.1; omega) (by have := h9j.2.2; omega))).trans ?_
            rw [n_add]
          · rw [i_lt (by omega) (by have := h9j.2.1; omega), if_neg (fun q => k3 q.2)]
            refine b3_159.trans ?_
            rw [n_add]
        · rw [if_neg (fun q => k1 (hb4.mp q)), if_neg (fun q => k1 q.1)]
          refine b3_159.trans ?_
          rw [n_add]
    refine' Exists.imp (fun u9 => Exists.imp (fun u10 => Exists.imp (fun u11 => Exists.imp (fun u12 hu => Eq.trans (b3_24 (f1 := nI (A p 1)) (by rw [s_gf 1 hp (by omega), hB1])) ((i_lt hg (by omega)).trans (Eq.trans (b3_33 (f2 := nI (A (p + 5) (h + 1 + k))) (o_gf (o_st hp) rfl) (by rw [w_al (zw5 hp) (by omega) (by omega), eB _ _ (by omega)]) (b_one (by omega) (by omega)) (b_one (by omega) (by omega)) (b_gf 4 (by omega))) hu)))))) ?_
    have hb3 := bits3 _ (show one1 (mcol A p h i) (A (p + 5) (h + 1 + k)) < 2 by omega) _ (show one1 (mcol A p h i) (A (p + 5) h) < 2 by omega) _ (show B 69 4 < 3 by have := h9.2.1; omega)
    by_cases k1 : one1 (mcol A p h i) (A (p + 5) (h + 1 + k)) + 1 < one1 (mcol A p h i) (A (p + 5) h) + (if B 69 4 < 1 then 1 else B 69 4)
    · have hJ : ∀ N, itJ B p h i (h + 1 + k) N = B := by
        intro N
        induction N with
        | zero => rfl
        | succ N ih =>
          rw [show itJ B p h i (h + 1 + k) (N + 1) = cdA (itJ B p h i (h + 1 + k) N) p h i (h + 1 + k) N from rfl, ih]
          have o3 := one1_le (mcol A p (h + 1 + k) N) (A (p + 5) h)
          have hm9 := zsm9_m hp h9 h i (h + 1 + k) N
          have hgp : gpl A p h i (h + 1 + k) N = one1 (mcol A p h i) (A (p + 5) (h + 1 + k)) + one1 (mcol A p (h + 1 + k) N) (A (p + 5) h) := rfl
          have hgm : gmi A p h i (h + 1 + k) N = one1 (mcol A p h i) (A (p + 5) h) + one1 (mcol A p (h + 1 + k) N) (A (p + 5) (h + 1 + k)) := rfl
          unfold cdA
          rw [hm9.2.2.1, hm9.2.2.2]
          split at k1
          · rw [if_neg (by omega)]
          · rw [if_neg (by omega)]
      refine ⟨some (.int (nI 0)), some (.int (nI 0)), v11, v12, ?_⟩
      rw [if_pos (hb3.mpr k1), hJ]
      refine b3_74.trans (b3_92.trans ((i_nlt (by omega) (by omega)).trans (b3_165.trans ?_)))
      rw [n_add, Nat.add_assoc (h + 1) k 1]
    · obtain ⟨u11, u12, hu⟩ := hin (zcnt A p (h + 1 + k)) (Nat.le_refl _) _ rfl v11 v12
      refine ⟨some (.int (nI (zcnt A p (h + 1 + k)))), some (.int (nI (zcnt A p (h + 1 + k)))), u11, u12, ?_⟩
      have hzl := zcnt_le ho.1 (h := h + 1 + k) (by omega)
      rw [if_neg (fun q => k1 (hb3.mp q))]
      refine (b3_78 (o_gf (o_st hp) rfl) (o_ob (o_mb hp)) ((m_count hp hob.1 (by omega)).trans (by rw [hBc]))).trans (hu.trans (b3_92.trans ((i_nlt (by omega) (by omega)).trans (b3_165.trans ?_))))
      rw [n_add, Nat.add_assoc (h + 1) k 1]
  have hall : ∀ N, N ≤ A p 1 - (h + 1) → ∃ u7 u8 u9 u10 u11 u12, zd scr 3 24 [some (.ref 69), some (.ref p), some (.int (nI h)), some (.int (nI i)), some (.int (nI (mcol A p h i))), some (.int (nI (A (p + 5) h))), some (.int (nI (h + 1))), none, none, none, none, none, none] [] (wd A) = zd scr 3 24 [some (.ref 69), some (.ref p), some (.int (nI h)), some (.int (nI i)), some (.int (nI (mcol A p h i))), some (.int (nI (A (p + 5) h))), some (.int (nI (h + 1 + N))), u7, u8, u9, u10, u11, u12] [] (wd (itG A p h i N)) := by
    intro N
    induction N with
    | zero => intro _; exact ⟨none, none, none, none, none, none, rfl⟩
    | succ N ih =>
      intro hN
      obtain ⟨u7, u8, u9, u10, u11, u12, hu⟩ := ih (by omega)
      have h9 : zsm9 A (itG A p h i N) := itG_ok h4 h5 N
      obtain ⟨w7, w8, w9, w10, w11, w12, hw⟩ := hone N _ h9 (by omega) u7 u8 u9 u10 u11 u12
      exact ⟨w7, w8, w9, w10, w11, w12, hu.trans hw⟩
  obtain ⟨u7, u8, u9, u10, u11, u12, hu⟩ := hall _ (Nat.le_refl _)
  have h9 : zsm9 A (itG A p h i (A p 1 - (h + 1))) := itG_ok h4 h5 _
  obtain ⟨hob, hB1, hBc⟩ := zsm9_ok hp h9 ho
  refine hu.trans ((b3_24 (f1 := nI (A p 1)) (by rw [s_gf 1 hp (by omega), hB1])).trans ((i_nlt (by omega) (by omega)).trans b3_171))
theorem b_searchIn (hp : zsb p) (ho : cOk A p) : zC scr 2 [.ref 69, .ref p] (wd A) = some (none, wd (srA A p)) := by
  have hn := ho.2.2.1
  rw [zC_of zh2]
  refine (b2_0 (b_pf 4 0 (by omega)) (b_pf 5 0 (by omega))).trans ?_
  have h90 : zsm9 A (up (up A 69 4 0) 69 5 0) := ⟨fun c k hc => by simp only [up]; rw [if_neg (by omega), if_neg (by omega)], by simp [up], by simp [up]⟩
  have hB : ∀ h B, zsm9 A B → h < A p 1 → ∀ v3 v4, ∃ u3 u4, zd scr 2 12 [some (.ref 69), some (.ref p), some (.int (nI h)), v3, v4] [] (wd B) = zd scr 2 12 [some (.ref 69), some (.ref p), some (.int (nI (h + 1))), u3, u4] [] (wd (itI B p h (zcnt A p h))) := by
    intro h B h9 hh v3 v4
    obtain ⟨hob, hB1, hBc⟩ := zsm9_ok hp h9 ho
    have hzl := zcnt_le ho.1 (h := h) (by omega)
    have hin : ∀ N, N ≤ zcnt A p h → zd scr 2 32 [some (.ref 69), some (.ref p), some (.int (nI h)), some (.int (nI (zcnt A p h))), some (.int (nI 0))] [] (wd B) = zd scr 2 32 [some (.ref 69), some (.ref p), some (.int (nI h)), some (.int (nI (zcnt A p h))), some (.int (nI N))] [] (wd (itI B p h N)) := by
      intro N
      induction N with
      | zero => intro _; rfl
      | succ N ih =>
        intro hN
        refine (ih (by omega)).trans ?_
        have h9i : zsm9 B (itI B p h N) := itI_ok h9.2.1 h9.2.2 N
        obtain ⟨hoi, hi1, hic⟩ := zsm9_ok hp (h9.trans h9i) ho
        refine b2_32.trans ((i_lt (by omega) (by omega)).trans ((b2_38 (o_ob o_69) (b_partners hp hoi h9i.2.1 h9i.2.2 (by omega) (by rw [hic]; omega))).trans ?_))
        rw [n_add, hi1, ← hB1]
        rfl
    refine ⟨some (.int (nI (zcnt A p h))), some (.int (nI (zcnt A p h))), ?_⟩
    refine (b2_12 (f1 := nI (A p 1)) (by rw [s_gf 1 hp (by omega), hB1])).trans ((i_lt hh (by omega)).trans ((b2_20 (o_gf (o_st hp) rfl) (o_ob (o_mb hp)) ((m_count hp hob.1 (by omega)).trans (by rw [hBc]))).trans ((hin _ (Nat.le_refl _)).trans (b2_32.trans ((i_nlt (by omega) (by omega)).trans (b2_52.trans ?_))))))
    rw [n_add]
  have hall : ∀ N, N ≤ A p 1 → ∃ u3 u4, zd scr 2 12 [some (.ref 69), some (.ref p), some (.int (nI 0)), none, none] [] (wd (up (up A 69 4 0) 69 5 0)) = zd scr 2 12 [some (.ref 69), some (.ref p), some (.int (nI N)), u3, u4] [] (wd (itH (up (up A 69 4 0) 69 5 0) p N)) := by
    intro N
    induction N with
    | zero => intro _; exact ⟨none, none, rfl⟩
    | succ N ih =>
      intro hN
      obtain ⟨u3, u4, hu⟩ := ih (by omega)
      have h9i : zsm9 (up (up A 69 4 0) 69 5 0) (itH (up (up A 69 4 0) 69 5 0) p N) := itH_ok h90.2.1 h90.2.2 N
      obtain ⟨w3, w4, hw⟩ := hB N _ (h90.trans h9i) (by omega) u3 u4
      refine ⟨w3, w4, hu.trans (hw.trans ?_)⟩
      have e : zcnt (up (up A 69 4 0) 69 5 0) p N = zcnt A p N := (zsm9_ok hp h90 ho).2.2 N
      rw [show itH (up (up A 69 4 0) 69 5 0) p (N + 1) = itI (itH (up (up A 69 4 0) 69 5 0) p N) p N (zcnt (up (up A 69 4 0) 69 5 0) p N) from rfl, e]
  obtain ⟨u3, u4, hu⟩ := hall _ (Nat.le_refl _)
  have h9i : zsm9 (up (up A 69 4 0) 69 5 0) (itH (up (up A 69 4 0) 69 5 0) p (A p 1)) := itH_ok h90.2.1 h90.2.2 _
  obtain ⟨hob, hB1, hBc⟩ := zsm9_ok hp (h90.trans h9i) ho
  exact hu.trans ((b2_12 (f1 := nI (A p 1)) (by rw [s_gf 1 hp (by omega), hB1])).trans ((i_nlt (by omega) (by omega)).trans b2_58))
theorem srA_ok (hp : zsb p) (ho : cOk A p) : zsm9 A (srA A p) := by
  have h90 : zsm9 A (up (up A 69 4 0) 69 5 0) := ⟨fun c k hc => by simp only [up]; rw [if_neg (by omega), if_neg (by omega)], by simp [up], by simp [up]⟩
  exact h90.trans (itH_ok h90.2.1 h90.2.2 _)
theorem b_tell (h4 : A 69 4 ≤ 2) {k : Nat} (hk : k < 5) : zC scr 1 [.ref 69, .int (nI k)] (wd A) = some (some (.int (if A 69 4 = 0 then -6 else nI (A 69 k))), wd A) := by
  rw [zC_of zh1]
  refine (b1_0 (b_gf 4 (by omega))).trans ?_
  by_cases c : A 69 4 = 0
  · rw [i_eq0 c, if_pos c]; exact b1_7
  · rw [i_ne0 c (by omega), if_neg c]
    rcases (show k = 0 ∨ k = 1 ∨ k = 2 ∨ k = 3 ∨ k = 4 by omega) with rfl | rfl | rfl | rfl | rfl
    · exact (b1_10_c0 rfl).trans (b1_40 (b_gf 0 (by omega)))
    · exact (b1_10_c1 rfl).trans (b1_45 (b_gf 1 (by omega)))
    · exact (b1_10_c2 rfl).trans (b1_50 (b_gf 2 (by omega)))
    · exact (b1_10_c3 rfl).trans (b1_55 (b_gf 3 (by omega)))
    · exact (b1_10_d (Or.inr (by decide))).trans (b1_60 (b_gf 4 (by omega)))
end SR
