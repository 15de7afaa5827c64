/-! State: a round, all rounds, an heir who leaves -/
section S4
variable {A B : Nat → Nat → Nat} {p q h : Nat} {scr : List Int32}
/-- how many marbles there are for a round -/
def rdN (A : Nat → Nat → Nat) (p : Nat) : Nat := if zcnt A p 6 < A p 1 then zcnt A p 6 else A p 1
def rdG (A : Nat → Nat → Nat) (p : Nat) : Nat → Nat → Nat := if rdN A p < A p 1 ∧ A p 6 = 1 then (gvP A p (rdN A p)).1 else gvO A p (rdN A p)
/-- a round: how many are given, and the heap behind it -/
def rdR (A : Nat → Nat → Nat) (p : Nat) : Nat := if rdN A p < A p 1 ∧ A p 6 = 2 then 0 else rdN A p
def rdA (A : Nat → Nat → Nat) (p : Nat) : Nat → Nat → Nat := if rdR A p = 0 then A else up (mvA (rdG A p) (p + 6) 0 (A p 1 - 1)) p 8 (A p 8 + 1)
theorem rdG_off {c i : Nat} (h2 : c ≠ p + 2) (h3 : c ≠ p + 3) : rdG A p c i = A c i := by
  unfold rdG
  split
  · exact gvP_off h2 h3 _
  · exact gvO_off h2 h3 _
theorem rdA_off {c i : Nat} (h : ¬ (p ≤ c ∧ c < p + 8)) : rdA A p c i = A c i := by
  unfold rdA
  split
  · rfl
  · simp only [up, mvA]
    rw [if_neg (by omega), if_neg (by omega), if_neg (by omega)]
    exact rdG_off (by omega) (by omega)
theorem rdN_le (A : Nat → Nat → Nat) (p : Nat) : rdN A p ≤ A p 1 ∧ rdN A p ≤ zcnt A p 6 := by
  unfold rdN
  split <;> omega
theorem s_playRound (hp : zsb p) (ho : cOk A p) (hpos : 0 < A p 1) : zC scr 32 [.ref p] (wd A) = some (some (.int (nI (rdR A p))), wd (rdA A p)) := by
  have hn := ho.2.2.1
  have hr := ho.2.2.2.2.1
  have hcl := zcnt_le ho.1 (h := 6) (by omega)
  have hN := rdN_le A p
  have hmn : (if nI (zcnt A p 6) < nI (A p 1) then nI (zcnt A p 6) else nI (A p 1)) = nI (rdN A p) := by
    unfold rdN
    by_cases c : zcnt A p 6 < A p 1
    · rw [i_lt c (by omega), if_pos c]
    · rw [i_nlt c (by omega), if_neg c]
  rw [zC_of zh32]
  refine (b32_0 (o_gf (o_st hp) rfl) (o_gf (o_st hp) rfl) (o_ob (o_mb hp)) (m_count hp ho.1 (by omega)) (o_gf (o_st hp) rfl)).trans ?_
  rw [hmn]
  -- behind the giving
  have hend : ∀ (x2 : Int32), rdR A p = rdN A p → (0 < rdN A p → zd scr 32 74 [some (.ref p), some (.int (nI (rdN A p))), some (.int x2)] [] (wd (rdG A p)) = some (some (.int (nI (rdR A p))), wd (rdA A p))) ∧ (rdN A p = 0 → zd scr 32 98 [some (.ref p), some (.int (nI (rdN A p))), some (.int x2)] [] (wd (rdG A p)) = some (some (.int (nI (rdR A p))), wd (rdA A p))) := by
    intro x2 hR
    refine ⟨fun h0 => ?_, fun h0 => ?_⟩
    · have e1 : rdG A p p 1 = A p 1 := rdG_off (by omega) (by omega)
      have e8 : rdG A p p 8 = A p 8 := rdG_off (by omega) (by omega)
      have e8' : mvA (rdG A p) (p + 6) 0 (A p 1 - 1) p 8 = A p 8 := by
        simp only [mvA]
        rw [if_neg (by omega), if_neg (by omega), e8]
      have hA : rdA A p = up (mvA (rdG A p) (p + 6) 0 (A p 1 - 1)) p 8 (A p 8 + 1) := by
        unfold rdA
        rw [if_neg (by omega)]
      rw [hA, hR]
      exact b32_74 (f2 := nI (A p 1)) (f3 := nI (A p 8)) (o_gf (o_st hp) rfl) (by rw [s_gf 1 hp (by omega), e1]) (by rw [n_sub (by omega)]; exact m_moveBack (fr := 0) (zw6 hp) (by show 6 < _; omega) (by omega) (by show _ < 6; omega)) (by rw [s_gf 8 hp (by omega), e8']) (by rw [n_add]; exact s_pf 8 _ hp (by omega))
    · have hG : rdG A p = A := by
        unfold rdG
        rw [h0]
        split <;> rfl
      have hA : rdA A p = A := by
        unfold rdA
        rw [if_pos (by omega)]
      rw [hA, hR, hG]
      exact b32_98
  have hord : ∀ (x2 : Int32), rdR A p = rdN A p → ¬ (rdN A p < A p 1 ∧ A p 6 = 1) → zd scr 32 65 [some (.ref p), some (.int (nI (rdN A p))), some (.int x2)] [] (wd A) = some (some (.int (nI (rdR A p))), wd (rdA A p)) := by
    intro x2 hR hne
    have hG : rdG A p = gvO A p (rdN A p) := by
      unfold rdG
      rw [if_neg hne]
    have he := hend x2 hR
    rw [hG] at he
    refine (b32_65 (o_ob (o_st hp)) (s_giveInOrder hp ho hN.1 hN.2)).trans ?_
    by_cases h0 : 0 < rdN A p
    · rw [i_pos h0 (by omega)]; exact he.1 h0
    · rw [i_npos (by omega)]; exact he.2 (by omega)
  by_cases c1 : rdN A p < A p 1
  · rw [i_lt c1 (by omega)]
    refine b32_25.trans ?_
    rw [if_neg (by decide)]
    refine (b32_35 (o_gf (o_st hp) rfl)).trans ?_
    by_cases c2 : A p 6 = 2
    · rw [i_eq c2]
      have hR : rdR A p = 0 := by
        unfold rdR
        rw [if_pos ⟨c1, c2⟩]
      have hA : rdA A p = A := by
        unfold rdA
        rw [if_pos hR]
      rw [hR, hA]
      exact b32_43
    · rw [i_ne c2 (by omega) (by omega)]
      have hR : rdR A p = rdN A p := by
        unfold rdR
        rw [if_neg (fun q => c2 q.2)]
      refine b32_45.trans ?_
      rw [if_neg (by decide)]
      refine (b32_49 (o_gf (o_st hp) rfl)).trans ?_
      by_cases c3 : A p 6 = 1
      · rw [i_eq c3]
        have hG : rdG A p = (gvP A p (rdN A p)).1 := by
          unfold rdG
          rw [if_pos ⟨c1, c3⟩]
        have he := hend (nI 1) hR
        rw [hG] at he
        refine (b32_57 (o_ob (o_st hp)) (s_giveToPoorest hp ho hpos hN.2)).trans ?_
        by_cases h0 : 0 < rdN A p
        · rw [i_pos h0 (by omega)]; exact he.1 h0
        · rw [i_npos (by omega)]; exact he.2 (by omega)
      · rw [i_ne c3 (by omega) (by omega)]
        exact hord (nI 1) hR (fun q => c3 q.2)
  · rw [i_nlt c1 (by omega)]
    have hR : rdR A p = rdN A p := by
      unfold rdR
      rw [if_neg (fun q => c1 q.1)]
    refine b32_29.trans ?_
    rw [if_pos (by decide)]
    refine b32_45.trans ?_
    rw [if_pos (by decide)]
    exact hord (nI 0) hR (fun q => c1 q.1)
theorem rdG_ok (ho : cOk A p) (hpos : 0 < A p 1) : cOk (rdG A p) p ∧ zcnt (rdG A p) p 6 = zcnt A p 6 - rdN A p := by
  have hN := rdN_le A p
  unfold rdG
  split
  · have := gvP_ok ho hpos (rdN A p) hN.2
    exact ⟨this.1, this.2.1⟩
  · exact gvO_ok ho (rdN A p) hN.1 hN.2
theorem rdA_ok (ho : cOk A p) (hpos : 0 < A p 1) : cOk (rdA A p) p ∧ zcnt (rdA A p) p 6 = zcnt A p 6 - rdR A p ∧ rdA A p p 1 = A p 1 := by
  unfold rdA
  by_cases h0 : rdR A p = 0
  · rw [if_pos h0]
    exact ⟨ho, by rw [h0]; rfl, rfl⟩
  · rw [if_neg h0]
    have hR : rdR A p = rdN A p := by
      unfold rdR at h0 ⊢
      split
      · rename_i hc; rw [if_pos hc] at h0; exact absurd rfl h0
      · rfl
    have hG := rdG_ok ho hpos
    obtain ⟨⟨hm, hs, hn, hw, hr, hpa, hv⟩, hc⟩ := hG
    have e1 : rdG A p p 1 = A p 1 := rdG_off (by omega) (by omega)
    have off : ∀ c i, c ≠ p + 6 → ¬ (c = p ∧ i = 8) → up (mvA (rdG A p) (p + 6) 0 (A p 1 - 1)) p 8 (A p 8 + 1) c i = rdG A p c i := by
      intro c i h1 h2
      simp only [up, mvA]
      rw [if_neg h2, if_neg (fun q => h1 q.1), if_neg (fun q => h1 q.1)]
    have e1' : up (mvA (rdG A p) (p + 6) 0 (A p 1 - 1)) p 8 (A p 8 + 1) p 1 = A p 1 := by rw [off _ _ (by omega) (by omega), e1]
    refine ⟨⟨⟨fun j hj => ?_, ?_⟩, fun i hi => ?_, ?_, fun j hj => ?_, ?_, ?_, fun m hm2 => ?_⟩, ?_, e1'⟩
    · rw [off _ _ (by omega) (by omega), off _ _ (by omega) (by omega)]; exact hm.1 j hj
    · rw [off _ _ (by omega) (by omega)]; exact hm.2
    · rw [off _ _ (by omega) (by omega)]; exact hs i hi
    · rw [e1']; exact e1 ▸ hn
    · rw [e1'] at hj
      have hwj := hw j (by omega)
      rw [off _ _ (by omega) (by omega), off _ _ (by omega) (by omega), e1']
      refine ⟨hwj.1, hwj.2.1, ?_⟩
      simp only [up, mvA, true_and]
      rw [if_neg (by omega)]
      rw [e1] at hw
      split
      · exact (hw (j + 1) (by omega)).2.2
      · split
        · exact (hw 0 (by omega)).2.2
        · exact (hw j (by omega)).2.2
    · rw [off _ _ (by omega) (by omega)]; exact hr
    · rw [off _ _ (by omega) (by omega)]; exact hpa
    · rw [off _ _ (by omega) (by omega)]; exact hv m hm2
    · unfold zcnt at hc ⊢
      rw [off _ _ (by omega) (by omega), off _ _ (by omega) (by omega), hR]
      exact hc
/-- rounds till none is given, at most so many -/
def dvN (p : Nat) : Nat → (Nat → Nat → Nat) → Nat × (Nat → Nat → Nat)
  | 0, A => (0, A)
  | n + 1, A => if rdR A p = 0 then (0, rdA A p) else ((dvN p n (rdA A p)).1 + 1, (dvN p n (rdA A p)).2)
theorem s_playAll (hp : zsb p) (ho : cOk A p) (hpos : 0 < A p 1) : zC scr 31 [.ref p] (wd A) = some (some (.int (nI (dvN p (zcnt A p 6) A).1)), wd (dvN p (zcnt A p 6) A).2) := by
  rw [zC_of zh31]
  refine (b31_0 (o_gf (o_st hp) rfl) (o_ob (o_mb hp)) (m_count hp ho.1 (by omega))).trans ?_
  have hcl := zcnt_le ho.1 (h := 6) (by omega)
  have key : ∀ n x B, n ≤ 120 → cOk B p → 0 < B p 1 → zd scr 31 12 [some (.ref p), some (.int (nI x)), some (.int (nI n))] [] (wd B) = some (some (.int (nI (x + (dvN p n B).1))), wd (dvN p n B).2) := by
    intro n
    induction n with
    | zero =>
      intro x B _ _ _
      refine b31_12.trans ?_
      rw [i_npos rfl]
      exact b31_32
    | succ n ih =>
      intro x B hn hob hpo
      have hok := rdA_ok hob hpo
      have hRl : rdR B p ≤ 120 := by
        have := rdN_le B p
        have := zcnt_le hob.1 (h := 6) (by omega)
        unfold rdR
        split <;> omega
      refine b31_12.trans ?_
      rw [i_pos (by omega) (by omega)]
      refine (b31_16 (o_ob (o_st hp)) (s_playRound hp hob hpo)).trans ?_
      unfold dvN
      by_cases h0 : rdR B p = 0
      · rw [i_npos h0, if_pos h0]
        exact b31_32
      · rw [i_pos (by omega) (by omega), if_neg h0]
        refine b31_23.trans ?_
        rw [n_add, n_sub (by omega), Nat.add_sub_cancel]
        refine (ih (x + 1) (rdA B p) (by omega) hok.1 (by omega)).trans ?_
        rw [show x + 1 + (dvN p n (rdA B p)).1 = x + ((dvN p n (rdA B p)).1 + 1) by omega]
  have := key (zcnt A p 6) 0 A (by omega) ho hpos
  rw [Nat.zero_add] at this
  exact this
/-- an heir leaves -/
def rhA (A : Nat → Nat → Nat) (p h : Nat) : Nat → Nat → Nat := fun c i =>
  if c = p ∧ i = 1 then A p 1 - 1
  else if c = p + 6 ∧ i < A p 1 - 1 then (if h < (if plc A p h (A p 1 - 1) 0 ≤ i then A (p + 6) (i + 1) else A (p + 6) i) then (if plc A p h (A p 1 - 1) 0 ≤ i then A (p + 6) (i + 1) else A (p + 6) i) - 1 else (if plc A p h (A p 1 - 1) 0 ≤ i then A (p + 6) (i + 1) else A (p + 6) i))
  else if c = p + 6 ∧ i = A p 1 - 1 then A (p + 6) (plc A p h (A p 1 - 1) 0)
  else if (c = p + 4 ∨ c = p + 5) ∧ h ≤ i ∧ i < A p 1 - 1 then A c (i + 1)
  else if (c = p + 4 ∨ c = p + 5) ∧ i = A p 1 - 1 then A c h
  else rbA A p h c i
theorem plc_congr {x : Nat} (hB : ∀ i, B (p + 6) i = A (p + 6) i) : ∀ n t, plc B p x n t = plc A p x n t
  | 0, _ => rfl
  | n + 1, t => by
    unfold plc
    rw [hB, plc_congr hB n (t + 1)]
end S4
