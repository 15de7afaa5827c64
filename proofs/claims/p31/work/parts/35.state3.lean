/-! State: swaps, leaving, rounds -/
section S3
variable {A B : Nat → Nat → Nat} {p q h : Nat} {scr : List Int32}
def exA (A : Nat → Nat → Nat) (p one two : Nat) : Nat → Nat → Nat := up (trA A p one two) p 9 (A p 9 + 1)
theorem s_exchange {i g j : Nat} (hp : zsb p) (hh : h < 7) (hg : g < 7) (hi : A (p + 3) h + i < 120) (hj : A (p + 3) g + j < 120) : zC scr 37 [.ref p, .int (nI h), .int (nI i), .int (nI g), .int (nI j)] (wd A) = some (none, wd (exA A p (A (p + 3) h + i) (A (p + 3) g + j))) := by
  rw [zC_of zh37]
  refine b37_0 (f2 := nI (A p 9)) (o_gf (o_st hp) rfl) (o_ob (o_mb hp)) (m_trade hp hh hg hi hj) ?_ (by rw [n_add]; exact s_pf 9 _ hp (by omega))
  rw [s_gf 9 hp (by omega)]
  simp only [trA, up]
  repeat rw [if_neg (by omega)]
def vtA (A : Nat → Nat → Nat) (p m : Nat) : Nat → Nat → Nat := up (up A (p + 7) m (A (p + 7) m - 1)) p 10 (A p 10 + 1)
theorem s_exch0 {i g j : Nat} (hp : zsb p) (ho : cOk A p) (hh : h < A p 1) (hg : g < A p 1) (hi : A (p + 3) h + i < 120) (hj : A (p + 3) g + j < 120)
    (hv : vto (A p 7) (A (p + 2) (A (p + 3) h + i) % 10) (A (p + 2) (A (p + 3) g + j) % 10) (A (p + 4) h) (A (p + 4) g) (A (p + 7) (A (p + 4) h)) (A (p + 7) (A (p + 4) g)) = -6) :
    zC scr 36 [.ref p, .int (nI h), .int (nI i), .int (nI g), .int (nI j)] (wd A) = some (some (.int (-6)), wd (exA A p (A (p + 3) h + i) (A (p + 3) g + j))) := by
  have hn := ho.2.2.1
  rw [zC_of zh36]
  refine (b36_0 (o_ob (o_st hp)) ((s_vetoer hp ho hh hg hi hj).trans (by rw [hv]))).trans ?_
  rw [if_pos rfl]
  exact b36_18 (o_ob (o_st hp)) (s_exchange hp (by omega) (by omega) hi hj)
theorem s_exch1 {i g j m : Nat} (hp : zsb p) (ho : cOk A p) (hh : h < A p 1) (hg : g < A p 1) (hi : A (p + 3) h + i < 120) (hj : A (p + 3) g + j < 120) (hm : m < 4) (ht : 0 < A (p + 7) m)
    (hv : vto (A p 7) (A (p + 2) (A (p + 3) h + i) % 10) (A (p + 2) (A (p + 3) g + j) % 10) (A (p + 4) h) (A (p + 4) g) (A (p + 7) (A (p + 4) h)) (A (p + 7) (A (p + 4) g)) = nI m) :
    zC scr 36 [.ref p, .int (nI h), .int (nI i), .int (nI g), .int (nI j)] (wd A) = some (some (.int (nI m)), wd (vtA A p m)) := by
  rw [zC_of zh36]
  refine (b36_0 (o_ob (o_st hp)) ((s_vetoer hp ho hh hg hi hj).trans (by rw [hv]))).trans ?_
  rw [if_neg (by rcases (show m = 0 ∨ m = 1 ∨ m = 2 ∨ m = 3 by omega) with rfl | rfl | rfl | rfl <;> decide)]
  refine b36_30 (f3 := nI (A p 10)) (o_gf (o_st hp) rfl) (w_al (zw7 hp) hm (by omega)) (by rw [n_sub (by omega)]; exact w_as _ (zw7 hp) hm (by omega)) ?_ (by rw [n_add]; exact s_pf 10 _ hp (by omega))
  rw [s_gf 10 hp (by omega)]
  simp only [up]
  rw [if_neg (by omega)]
/-- what does not change -/
theorem gv_off {c i : Nat} (h2 : c ≠ p + 2) (h3 : c ≠ p + 3) : gvA A p h c i = A c i := by
  simp only [gvA]
  repeat rw [if_neg (by omega)]
theorem gv_st {i : Nat} : gvA A p h (p + 3) i = if h < i ∧ i ≤ 6 then A (p + 3) i + 1 else A (p + 3) i := by
  simp only [gvA, true_and]
  rw [if_neg (by omega), if_neg (by omega)]
theorem gv_mo (hm : zmo A p) (hh : h < 6) (hne : 0 < zcnt A p 6) : zmo (gvA A p h) p := by
  have hc : zcnt A p 6 = A (p + 3) 7 - A (p + 3) 6 := rfl
  refine ⟨fun j hj => ?_, ?_⟩
  · have h1 := hm.1 j hj
    rw [gv_st, gv_st]
    (repeat' split) <;> first | omega | (have e1 : A (p + 3) (j + 1) = A (p + 3) 7 := by rw [show j + 1 = 7 by omega]
                                         have e2 : A (p + 3) j = A (p + 3) 6 := by rw [show j = 6 by omega]
                                         omega)
  · rw [gv_st, if_neg (by omega)]; exact hm.2
theorem gv_cnt (hh : h < 6) : zcnt (gvA A p h) p 6 = zcnt A p 6 - 1 := by
  show gvA A p h (p + 3) 7 - gvA A p h (p + 3) 6 = A (p + 3) 7 - A (p + 3) 6 - 1
  rw [gv_st, gv_st, if_neg (by omega), if_pos (by omega)]
  omega
theorem gv_sm (hs : zsm A p) (hm : zmo A p) (hh : h < 6) (hne : 0 < zcnt A p 6) : zsm (gvA A p h) p := by
  have hc : zcnt A p 6 = A (p + 3) 7 - A (p + 3) 6 := rfl
  have h7 := hm.2
  intro i hi
  simp only [gvA, true_and]
  (repeat' split) <;> first | exact hs _ (by omega) | (exfalso; omega)
theorem gv_ok (ho : cOk A p) (hh : h < 6) (hne : 0 < zcnt A p 6) : cOk (gvA A p h) p := by
  obtain ⟨hm, hs, hn, hw, hr, hpa, hv⟩ := ho
  refine ⟨gv_mo hm hh hne, gv_sm hs hm hh hne, ?_, ?_, ?_, ?_, ?_⟩
  · rw [gv_off (by omega) (by omega)]; exact hn
  · intro j hj
    rw [gv_off (by omega) (by omega)] at hj
    rw [gv_off (by omega) (by omega), gv_off (by omega) (by omega), gv_off (by omega) (by omega), gv_off (by omega) (by omega)]
    exact hw j hj
  · rw [gv_off (by omega) (by omega)]; exact hr
  · rw [gv_off (by omega) (by omega)]; exact hpa
  · intro m hm2
    rw [gv_off (by omega) (by omega)]; exact hv m hm2
/-- marbles for the heirs in their order -/
def gvO (A : Nat → Nat → Nat) (p : Nat) : Nat → Nat → Nat → Nat
  | 0 => A
  | k + 1 => gvA (gvO A p k) p (A (p + 6) k)
theorem gvO_off {c i : Nat} (h2 : c ≠ p + 2) (h3 : c ≠ p + 3) : ∀ k, gvO A p k c i = A c i
  | 0 => rfl
  | k + 1 => by rw [gvO, gv_off h2 h3, gvO_off h2 h3 k]
theorem gvO_ok (ho : cOk A p) : ∀ k, k ≤ A p 1 → k ≤ zcnt A p 6 → cOk (gvO A p k) p ∧ zcnt (gvO A p k) p 6 = zcnt A p 6 - k
  | 0, _, _ => ⟨ho, rfl⟩
  | k + 1, h1, h2 => by
    have ih := gvO_ok ho k (by omega) (by omega)
    have hw := ho.2.2.2.1 k (by omega)
    have hn := ho.2.2.1
    exact ⟨gv_ok ih.1 (by omega) (by omega), by rw [gvO, gv_cnt (by omega), ih.2]; omega⟩
theorem s_giveInOrder (hp : zsb p) (ho : cOk A p) {m : Nat} (h1 : m ≤ A p 1) (h2 : m ≤ zcnt A p 6) : zC scr 33 [.ref p, .int (nI m)] (wd A) = some (none, wd (gvO A p m)) := by
  have hn := ho.2.2.1
  rw [zC_of zh33]
  refine b33_0.trans ?_
  refine (zloopA (scr := scr) (mi := 33) (pc := 2) (st := []) (L := fun j => [some (.ref p), some (.int (nI m)), some (.int (nI j))]) (W := gvO A p) m rfl (fun j hj => ?_)).trans ?_
  · have hk := gvO_ok ho j (by omega) (by omega)
    have hw := ho.2.2.2.1 j (by omega)
    have e : gvO A p j (p + 6) j = A (p + 6) j := gvO_off (by omega) (by omega) j
    refine b33_2.trans ?_
    rw [i_lt hj (by omega)]
    refine (b33_7 (f3 := nI (A (p + 6) j)) (o_gf (o_st hp) rfl) (o_gf (o_st hp) rfl) (by rw [w_al (zw6 hp) (by show j < 6; omega) (by show 6 < _; omega), e]) (o_ob (o_mb hp)) (m_give hp hk.1.1 (by omega) (by omega))).trans ?_
    rw [n_add]
    rfl
  · refine b33_2.trans ?_
    rw [i_nlt (by omega) (by omega)]
    exact b33_26
/-! bits of a small set -/
def bset (s h : Nat) : Nat := if s / 2 ^ h % 2 = 0 then s + 2 ^ h else s
theorem bit_test : ∀ s, s < 64 → ∀ h, h < 6 → (((nI s >>> (nI h &&& 31)) &&& nI 1 = 0) ↔ s / 2 ^ h % 2 = 0) := by decide +kernel
theorem bit_set : ∀ s, s < 64 → ∀ h, h < 6 → nI s ||| (nI 1 <<< (nI h &&& 31)) = nI (bset s h) ∧ bset s h < 64 := by decide +kernel
theorem bit_has : ∀ s, s < 64 → ∀ h, h < 6 → ∀ g, g < 6 → (bset s h / 2 ^ g % 2 = 0 ↔ (g ≠ h ∧ s / 2 ^ g % 2 = 0)) := by decide +kernel
/-- the poorest of those without a bit: who, and how much -/
def prs (A : Nat → Nat → Nat) (p s : Nat) : Nat → Nat × Nat
  | 0 => (0, 1081)
  | t + 1 => if s / 2 ^ A (p + 6) t % 2 = 0 ∧ zval A p (A (p + 6) t) < (prs A p s t).2 then (A (p + 6) t, zval A p (A (p + 6) t)) else prs A p s t
theorem prs_lt (ho : cOk A p) (s : Nat) : ∀ t, t ≤ A p 1 → (prs A p s t).2 ≤ 1081 ∧ ((prs A p s t).1 < A p 1 ∨ ((prs A p s t).1 = 0))
  | 0, _ => ⟨Nat.le_refl _, Or.inr rfl⟩
  | t + 1, ht => by
    have ih := prs_lt ho s t (by omega)
    have hw := ho.2.2.2.1 t (by omega)
    have hn := ho.2.2.1
    have hv := zval_le ho.1 (h := A (p + 6) t) (by omega)
    unfold prs
    split
    · exact ⟨by dsimp only; omega, Or.inl hw.2.2⟩
    · exact ih
theorem m_sumV (hp : zsb p) (hm : zmo A p) (hs : zsm A p) (hh : h < 7) : zC scr 13 [.ref (p + 1), .int (nI h)] (wd A) = some (some (.int (nI (zval A p h))), wd A) := m_sum hp hm hs hh
theorem s_poorestBut (hp : zsb p) (ho : cOk A p) {s : Nat} (hs : s < 64) : zC scr 35 [.ref p, .int (nI s)] (wd A) = some (some (.int (nI (prs A p s (A p 1)).1)), wd A) := by
  have hn := ho.2.2.1
  rw [zC_of zh35]
  refine b35_0.trans ?_
  have key : ∀ N, N ≤ A p 1 → ∀ v5 v6 : Option Value, ∃ v5' v6', zd scr 35 9 [some (.ref p), some (.int (nI s)), some (.int (nI 0)), some (.int (nI 1081)), some (.int (nI 0)), v5, v6] [] (wd A) = zd scr 35 9 [some (.ref p), some (.int (nI s)), some (.int (nI (prs A p s N).1)), some (.int (nI (prs A p s N).2)), some (.int (nI N)), v5', v6'] [] (wd A) := by
    intro N
    induction N with
    | zero => intro _ v5 v6; exact ⟨v5, v6, rfl⟩
    | succ N ih =>
      intro hN v5 v6
      obtain ⟨v, v', hv⟩ := ih (by omega) v5 v6
      have hw := ho.2.2.2.1 N (by omega)
      have hl := prs_lt ho s N (by omega)
      have hz := zval_le ho.1 (h := A (p + 6) N) (by omega)
      refine ⟨some (.int (nI (A (p + 6) N))), some (.int (nI (zval A p (A (p + 6) N)))), hv.trans ?_⟩
      refine (b35_9 (o_gf (o_st hp) rfl)).trans ?_
      rw [i_lt (by omega) (by omega)]
      refine (b35_18 (o_gf (o_st hp) rfl) (w_al (zw6 hp) (by omega) (by omega)) (o_gf (o_st hp) rfl) (o_ob (o_mb hp)) (m_sumV hp ho.1 ho.2.1 (by omega))).trans ?_
      have hb := bit_test s hs (A (p + 6) N) (by omega)
      rw [show prs A p s (N + 1) = if s / 2 ^ A (p + 6) N % 2 = 0 ∧ zval A p (A (p + 6) N) < (prs A p s N).2 then (A (p + 6) N, zval A p (A (p + 6) N)) else prs A p s N from rfl]
      by_cases c1 : s / 2 ^ A (p + 6) N % 2 = 0
      · rw [if_pos (hb.mpr c1)]
        refine b35_47.trans ?_
        by_cases c2 : zval A p (A (p + 6) N) < (prs A p s N).2
        · refine (i_lt c2 (by omega)).trans ?_
          rw [if_pos ⟨c1, c2⟩]
          refine b35_53.trans ?_
          rw [n_add]
        · refine (i_nlt c2 (by omega)).trans ?_
          rw [if_neg (fun q => c2 q.2)]
          refine b35_59.trans ?_
          rw [n_add]
      · rw [if_neg (fun q => c1 (hb.mp q)), if_neg (fun q => c1 q.1)]
        refine b35_59.trans ?_
        rw [n_add]
  obtain ⟨v, v', hv⟩ := key (A p 1) (Nat.le_refl _) none none
  refine hv.trans ?_
  refine (b35_9 (o_gf (o_st hp) rfl)).trans ?_
  rw [i_nlt (by omega) (by omega)]
  exact b35_65
/-- marbles for the poorest ones -/
def gvP (A : Nat → Nat → Nat) (p : Nat) : Nat → (Nat → Nat → Nat) × Nat
  | 0 => (A, 0)
  | k + 1 => (gvA (gvP A p k).1 p (prs (gvP A p k).1 p (gvP A p k).2 (A p 1)).1, bset (gvP A p k).2 (prs (gvP A p k).1 p (gvP A p k).2 (A p 1)).1)
theorem gvP_off {c i : Nat} (h2 : c ≠ p + 2) (h3 : c ≠ p + 3) : ∀ k, (gvP A p k).1 c i = A c i
  | 0 => rfl
  | k + 1 => by rw [gvP]; dsimp only; rw [gv_off h2 h3, gvP_off h2 h3 k]
theorem gvP_ok (ho : cOk A p) (hpos : 0 < A p 1) : ∀ k, k ≤ zcnt A p 6 → cOk (gvP A p k).1 p ∧ zcnt (gvP A p k).1 p 6 = zcnt A p 6 - k ∧ (gvP A p k).2 < 64 ∧ (prs (gvP A p k).1 p (gvP A p k).2 (A p 1)).1 < A p 1
  | 0, _ => by
    refine ⟨ho, rfl, (by show 0 < 64; omega), ?_⟩
    have := prs_lt ho 0 (A p 1) (Nat.le_refl _)
    show (prs A p 0 (A p 1)).1 < A p 1
    omega
  | k + 1, h2 => by
    have ih := gvP_ok ho hpos k (by omega)
    have hn := ho.2.2.1
    have h1 : cOk (gvP A p (k + 1)).1 p := gv_ok ih.1 (by omega) (by omega)
    have e : (gvP A p (k + 1)).1 p 1 = A p 1 := gvP_off (by omega) (by omega) (k + 1)
    refine ⟨h1, by rw [gvP]; dsimp only; rw [gv_cnt (by omega), ih.2.1]; omega, (bit_set _ ih.2.2.1 _ (by omega)).2, ?_⟩
    have := prs_lt h1 (gvP A p (k + 1)).2 (A p 1) (by omega)
    rw [e] at this
    omega
theorem s_giveToPoorest (hp : zsb p) (ho : cOk A p) (hpos : 0 < A p 1) {m : Nat} (h2 : m ≤ zcnt A p 6) : zC scr 34 [.ref p, .int (nI m)] (wd A) = some (none, wd (gvP A p m).1) := by
  have hn := ho.2.2.1
  have hcl := zcnt_le ho.1 (h := 6) (by omega)
  rw [zC_of zh34]
  refine b34_0.trans ?_
  have key : ∀ N, N ≤ m → ∀ v4 : Option Value, ∃ v4', zd scr 34 4 [some (.ref p), some (.int (nI m)), some (.int (nI 0)), some (.int (nI 0)), v4] [] (wd A) = zd scr 34 4 [some (.ref p), some (.int (nI m)), some (.int (nI (gvP A p N).2)), some (.int (nI N)), v4'] [] (wd (gvP A p N).1) := by
    intro N
    induction N with
    | zero => intro _ v4; exact ⟨v4, rfl⟩
    | succ N ih =>
      intro hN v4
      obtain ⟨v, hv⟩ := ih (by omega) v4
      have hk := gvP_ok ho hpos N (by omega)
      have e : (gvP A p N).1 p 1 = A p 1 := gvP_off (by omega) (by omega) N
      refine ⟨some (.int (nI (prs (gvP A p N).1 p (gvP A p N).2 (A p 1)).1)), hv.trans ?_⟩
      refine b34_4.trans ?_
      rw [i_lt (by omega) (by omega)]
      have hpb := s_poorestBut (scr := scr) hp hk.1 hk.2.2.1
      rw [e] at hpb
      refine (b34_9 (o_ob (o_st hp)) hpb (o_gf (o_st hp) rfl) (o_ob (o_mb hp)) (m_give hp hk.1.1 (by omega) (by omega))).trans ?_
      rw [(bit_set _ hk.2.2.1 _ (by omega)).1, n_add]
      rfl
  obtain ⟨v, hv⟩ := key m (Nat.le_refl _) none
  refine hv.trans ?_
  refine b34_4.trans ?_
  rw [i_nlt (by omega) (by omega)]
  exact b34_38
end S3
