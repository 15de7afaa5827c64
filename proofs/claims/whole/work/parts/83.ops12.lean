/-! the calls, on both sides: fairestRule -/
def frS (S : Nat → Nat) : Nat → Nat × Nat
  | 0 => (0, S 0)
  | k + 1 => if S (k + 1) < (frS S k).2 then (k + 1, S (k + 1)) else frS S k
section OM
variable {A B T W U : Nat → Nat → Nat} {b c : Nat → Nat} {p q h k g n m i j t r : Nat} {scr : List Int32}
theorem frS_le {S : Nat → Nat} (hS : ∀ r, r < 3 → S r ≤ 1080) : ∀ k, k < 3 → (frS S k).2 ≤ 1080
  | 0, _ => hS 0 (by omega)
  | k + 1, h => by
    rw [frS]
    by_cases e : S (k + 1) < (frS S k).2
    · rw [if_pos e]; exact hS _ h
    · rw [if_neg e]; exact frS_le hS k (by omega)
theorem op_fairestRule : zOP scr 71 141 [] := by
  intro A hi
  have hr := hi.1
  have h0 := hr.2.1.1
  have s1 := rr_n hr
  by_cases hz : A 71 0 = 0
  · refine ⟨-6, A, ovA A 72 0 71 0 190, ?_, ?_, ⟨zRR_move (fun t i ht => ov_ne (by omega)) (fun i _ => ov_ne (by omega)) hr, ir_of (fun c i hc => ov_ne (by omega)) hi.2⟩⟩
    · rw [zC_of zh71]
      exact (b71_0 (o_gf o_0 rfl) (s_gf 1 z1 (by omega))).trans ((i_eq0 (by omega)).trans b71_10)
    · rw [zC_of zh141]
      refine (b141_0 oR r_putAside).trans (b141_11.trans ((i_lt (by omega) (by omega)).trans ((b141_16 (f2 := nI (A 71 0)) gR0 (by rw [aR (by omega), ov_ne (by omega)])).trans ((i_npos hz).trans b141_88))))
  have hn : 0 < A 71 0 := by omega
  have hS : ∀ r, r < 3 → spU (A 71) r ≤ 1080 := fun r hr3 => (spU_eq hr hr hn hr3).2
  have hle := frS_le hS
  have ck : ∀ k, k < 3 → ∃ V v4, (∀ c i, (c ≤ 8 ∨ 17 ≤ c) → V c i = A c i) ∧ zC scr 71 [.ref 0] (wd A) = zd scr 71 23 [some (.ref 0), some (.int (nI (frS (spU (A 71)) k).1)), some (.int (nI (frS (spU (A 71)) k).2)), some (.int (nI (k + 1))), v4] [] (wd V) := by
    intro k
    induction k with
    | zero =>
      intro _
      obtain ⟨V, v1, -, v3⟩ := c_under (scr := scr) hr hn (show 0 < 3 by omega)
      refine ⟨V, none, v1, ?_⟩
      rw [zC_of zh71]
      exact (b71_0 (o_gf o_0 rfl) (s_gf 1 z1 (by omega))).trans ((i_ne0 (by omega) (by omega)).trans (b71_13 (o_ob o_0) v3))
    | succ k ih =>
      intro hk
      obtain ⟨W, v4, w1, w2⟩ := ih (by omega)
      have hW : zRR W 1 (A 71) := zRR_move (fun t i ht => w1 _ _ (by omega)) (fun _ _ => rfl) hr
      obtain ⟨V, v1, -, v3⟩ := c_under (scr := scr) hW hn (show k + 1 < 3 by omega)
      have l1 := hS (k + 1) hk
      have l2 := hle k (by omega)
      refine ⟨V, some (.int (nI (spU (A 71) (k + 1)))), fun c i hc => by rw [v1 c i hc, w1 c i hc], w2.trans (b71_23.trans ((i_le (by omega) (by omega)).trans ((b71_28 (o_ob o_0) v3).trans ?_)))⟩
      rw [frS]
      by_cases e : spU (A 71) (k + 1) < (frS (spU (A 71)) k).2
      · rw [i_lt e (by omega), if_pos e]
        exact b71_41.trans (by rw [n_add])
      · rw [i_nlt e (by omega), if_neg e]
        exact b71_46.trans (by rw [n_add])
  obtain ⟨V, v4, v1, v2⟩ := ck 2 (by omega)
  have hV : zIV V := iv_of16 v1 hi
  have V71 : V 71 = A 71 := funext fun i => v1 _ _ (by omega)
  have rk3 : ∀ k, k < 3 → ∃ U v4 v5, zRR U 1 (U 71) ∧ (∀ i, i < 190 → U 72 i = U 71 i) ∧ (∀ i, i < 190 → U 71 i = A 71 i) ∧ (∀ c i, c ≠ 71 → c ≠ 72 → U c i = V c i) ∧ zC scr 141 [.ref 70] (wd V) = zd scr 141 11 [some (.ref 70), some (.int (nI (frS (spU (A 71)) k).1)), some (.int (nI (frS (spU (A 71)) k).2)), some (.int (nI (k + 1))), v4, v5] [] (wd U) := by
    have one : ∀ (U : Nat → Nat → Nat) k x1 x2 v4 v5, k < 3 → zRR U 1 (U 71) → (∀ i, i < 190 → U 72 i = U 71 i) → (∀ i, i < 190 → U 71 i = A 71 i) → ∃ U' x, zRR U' 1 (U' 71) ∧ (∀ i, i < 190 → U' 72 i = U' 71 i) ∧ (∀ i, i < 190 → U' 71 i = A 71 i) ∧ (∀ c i, c ≠ 71 → U' c i = U c i) ∧ ∃ w, zob w 70 6 = true ∧ zC scr 94 [.ref 70] w = some (none, wd U') ∧ zd scr 141 11 [some (.ref 70), some (.int x1), some (.int x2), some (.int (nI k)), v4, v5] [] (wd U) = if nI k = 0 then zd scr 141 55 [some (.ref 70), some (.int x1), some (.int x2), some (.int (nI k)), some (.int x), some (.int (nI (spU (A 71) k)))] [] w else zd scr 141 49 [some (.ref 70), some (.int x1), some (.int x2), some (.int (nI k)), some (.int x), some (.int (nI (spU (A 71) k)))] [] w := by
      intro U k x1 x2 v4 v5 hk hU hU2 hU3
      have hUA : zRR U 1 (A 71) := zRR_move (fun _ _ _ => rfl) (fun i hi => (hU3 i hi).symm) hU
      have en := hU3 0 (by omega)
      obtain ⟨U', x, u1, u2, u3, u4, w1, w2, q1, q2, q3, q4, q5, q6⟩ := r_under (scr := scr) hU hU2 (by omega) hk
      rw [(spU_eq hU hUA (by omega) hk).1] at q5
      refine ⟨U', x, u1, u2, fun i hi => by rw [u3 i hi, hU3 i hi], u4, w2, q4, q6, ?_⟩
      exact b141_11.trans ((i_lt (show k < 3 from hk) (by omega)).trans ((b141_16 gR0 (aR (by omega))).trans ((i_pos (by omega) (by omega)).trans (b141_25 gR0 q1 q2 q3 q4 q5))))
    intro k
    induction k with
    | zero =>
      intro _
      have a1 : ∀ c i, c ≠ 72 → ovA V 72 0 71 0 190 c i = V c i := fun c i hc => ov_ne hc
      have a2 : ∀ i, i < 190 → ovA V 72 0 71 0 190 72 i = V 71 i := fun i hi => by
        unfold ovA
        rw [if_pos (by omega)]
        exact congrArg (V 71) (by omega)
      obtain ⟨U', x, u1, u2, u3, u4, w, q0, q1, q2⟩ := one (ovA V 72 0 71 0 190) 0 (-6) (nI 0) none none (by omega) (zRR_move (fun t i ht => a1 _ _ (by omega)) (fun i _ => a1 _ _ (by omega)) hV.1) (fun i hi => by rw [a2 i hi, a1 71 i (by omega)]) (fun i hi => by rw [a1 71 i (by omega), V71])
      refine ⟨U', some (.int x), some (.int (nI (spU (A 71) 0))), u1, u2, u3, fun c i h1 h2 => by rw [u4 c i h1, a1 c i h2], ?_⟩
      rw [zC_of zh141]
      refine (b141_0 oR r_putAside).trans (q2.trans ?_)
      rw [if_pos (by decide)]
      refine b141_55.trans ((if_pos (by decide)).trans ((b141_71 q0 q1).trans ?_))
      rw [n_add]; rfl
    | succ k ih =>
      intro hk
      obtain ⟨U, v4, v5, t1, t2, t3, t4, t5⟩ := ih (by omega)
      obtain ⟨U', x, u1, u2, u3, u4, w, q0, q1, q2⟩ := one U (k + 1) (nI (frS (spU (A 71)) k).1) (nI (frS (spU (A 71)) k).2) v4 v5 hk t1 t2 t3
      have l1 := hS (k + 1) hk
      have l2 := hle k (by omega)
      refine ⟨U', some (.int x), some (.int (nI (spU (A 71) (k + 1)))), u1, u2, u3, fun c i h1 h2 => by rw [u4 c i h1, t4 c i h1 h2], t5.trans (q2.trans ?_)⟩
      rw [i_ne0 (by omega) (by omega)]
      refine b141_49.trans ?_
      rw [frS]
      by_cases e : spU (A 71) (k + 1) < (frS (spU (A 71)) k).2
      · rw [i_lt e (by omega), if_pos e]
        refine b141_55.trans ((i_ne0 (by omega) (by omega)).trans (b141_65.trans ((i_lt e (by omega)).trans ((b141_71 q0 q1).trans ?_))))
        rw [n_add]
      · rw [i_nlt e (by omega), if_neg e]
        refine b141_59.trans ((i_ne0 (by omega) (by omega)).trans (b141_65.trans ((i_nlt e (by omega)).trans ((b141_76 q0 q1).trans ?_))))
        rw [n_add]
  obtain ⟨U, u4, u5, t1, t2, t3, t4, t5⟩ := rk3 2 (by omega)
  refine ⟨nI (frS (spU (A 71)) 2).1, V, U, v2.trans (b71_23.trans ((i_nle (by omega) (by omega)).trans b71_52)), t5.trans (b141_11.trans ((i_nlt (by omega) (by omega)).trans b141_88)), ⟨t1, ir_of (fun c i hc => t4 c i (by omega) (by omega)) hV.2⟩⟩
end OM
