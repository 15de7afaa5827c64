/-! what the law counts -/
section FA
variable {A B C : Nat → Nat → Nat} {b c : Nat → Nat} {p q h k g n m i j t r : Nat} {scr : List Int32}
theorem zsum_split (f : Nat → Nat) (a m : Nat) : ∀ k, zsum f a (m + k) = zsum f a m + zsum f (a + m) k
  | 0 => rfl
  | k + 1 => by
    show zsum f a (m + k) + f (a + (m + k)) = zsum f a m + (zsum f (a + m) k + f (a + m + k))
    rw [zsum_split f a m k, Nat.add_assoc a m k]
    omega
theorem zsum_ext {f f' : Nat → Nat} {m : Nat} (h0 : zsum f' 0 m = zsum f 0 m) (h : ∀ i, m ≤ i → f' i = f i) {n : Nat} (hn : m ≤ n) : zsum f' 0 n = zsum f 0 n := by
  obtain ⟨k, rfl⟩ : ∃ k, n = m + k := ⟨n - m, by omega⟩
  rw [zsum_split, zsum_split, h0]
  congr 1
  exact zsum_congr (fun i _ => h _ (by omega))
/-- borders -/
theorem cnt_tel (hm : zmo A 1) : ∀ n, n ≤ 7 → A 4 0 + zsum (fun h => zcnt A 1 h) 0 n = A 4 n
  | 0, _ => rfl
  | n + 1, hn => by
    have h1 := cnt_tel hm n (by omega)
    have h2 : A 4 n ≤ A 4 (n + 1) := hm.1 n (by omega)
    show A 4 0 + (zsum (fun h => zcnt A 1 h) 0 n + zcnt A 1 (0 + n)) = A 4 (n + 1)
    have e : zcnt A 1 (0 + n) = A 4 (n + 1) - A 4 n := by rw [Nat.zero_add]; rfl
    omega
theorem st_facts (hr : zRR A 1 b) : A 4 0 = 0 ∧ A 4 (A 1 1) = A 4 6 ∧ A 4 6 = b 7 ∧ A 4 7 = b 6 + b 7 := by
  have h0 := hr.2.1.1
  have s1 := rr_n hr
  have hm := hr.1.1
  obtain ⟨z1, z2, z3, -⟩ := hr.2.2.2.1
  have m6 : A 4 6 ≤ A 4 7 := hm.1 6 (by omega)
  have e6 : zcnt A 1 6 = A 4 7 - A 4 6 := rfl
  have z3' : A 4 7 = b 6 + b 7 := z3
  have hs : ∀ n, b 0 ≤ n → n ≤ 6 → zsum (fun h => zcnt A 1 h) 0 n = b 7 := fun n h1 h2 => by
    have e : zsum (fun h => zcnt A 1 h) 0 n = zsum (fun h => rsm b (fun _ => 1) h (b 7)) 0 n := zsum_congr (fun i hi => by rw [z1 _ (by omega)]; rfl)
    rw [e, sum_ex (fun _ _ => 1) (b 7) (fun g hg => by have := (bO_g hr.2.1 hg).1; omega), zsum_1]
  have t6 := cnt_tel hm 6 (by omega)
  have tn := cnt_tel hm (b 0) (by omega)
  rw [hs 6 (by omega) (Nat.le_refl _)] at t6
  rw [hs (b 0) (Nat.le_refl _) (by omega)] at tn
  rw [s1]
  omega
theorem cnt_0 (hr : zRR A 1 b) (h1 : A 1 1 ≤ h) (h2 : h < 6) : zcnt A 1 h = 0 := by
  obtain ⟨-, e, -⟩ := st_facts hr
  have a1 : A 4 (A 1 1) ≤ A 4 h := zmo_le hr.1.1 h1 (by omega)
  have a2 : A 4 (h + 1) ≤ A 4 6 := zmo_le hr.1.1 (by omega) (by omega)
  show A 4 (h + 1) - A 4 h = 0
  omega
theorem val_tel (hm : zmo A 1) (h0 : A 4 0 = 0) : ∀ n, n ≤ 7 → zsum (fun h => zval A 1 h) 0 n = zsum (fun i => A 3 i % 10) 0 (A 4 n)
  | 0, _ => by rw [h0]; rfl
  | n + 1, hn => by
    have h2 : A 4 n ≤ A 4 (n + 1) := hm.1 n (by omega)
    show zsum (fun h => zval A 1 h) 0 n + zval A 1 (0 + n) = _
    rw [val_tel hm h0 n (by omega), Nat.zero_add]
    obtain ⟨k, hk⟩ : ∃ k, A 4 (n + 1) = A 4 n + k := ⟨A 4 (n + 1) - A 4 n, by omega⟩
    have e : zval A 1 n = zsum (fun i => A 3 i % 10) (A 4 n) (A 4 (n + 1) - A 4 n) := rfl
    rw [e, hk, zsum_split, Nat.zero_add, Nat.add_sub_cancel_left]
/-- how many marbles there are, and their worth -/
theorem many_is (hr : zRR A 1 b) : fig A 1 1 + fig A 1 2 = A 4 7 := by
  obtain ⟨e0, en, e6, e7⟩ := st_facts hr
  have h0 := hr.1.2.2.1
  have tn := cnt_tel hr.1.1 (A 1 1) (by omega)
  have m6 : A 4 6 ≤ A 4 7 := hr.1.1.1 6 (by omega)
  have e1 : fig A 1 1 = A 4 7 - A 4 6 := rfl
  have e2 : fig A 1 2 = zsum (fun h => zcnt A 1 h) 0 (A 1 1) := rfl
  omega
theorem worth_is (hr : zRR A 1 b) : fig A 1 3 + fig A 1 4 = WA A := by
  obtain ⟨e0, en, e6, e7⟩ := st_facts hr
  have h0 := hr.1.2.2.1
  have tn := val_tel hr.1.1 e0 (A 1 1) (by omega)
  have m6 : A 4 6 ≤ A 4 7 := hr.1.1.1 6 (by omega)
  have e3 : fig A 1 3 = zsum (fun i => A 3 i % 10) (A 4 6) (A 4 7 - A 4 6) := rfl
  have e4 : fig A 1 4 = zsum (fun h => zval A 1 h) 0 (A 1 1) := rfl
  have e5 : WA A = zsum (fun i => A 3 i % 10) 0 (A 4 6 + (A 4 7 - A 4 6)) := by rw [Nat.add_sub_cancel' m6]; rfl
  rw [e3, e4, tn, en, e5, zsum_split, Nat.zero_add]
  omega
theorem fig8 (hr : zRR A 1 b) : fig A 1 8 = wsh b (b 7) := by
  have s1 := rr_n hr
  have e : fig A 1 8 = zsum (fun h => rsm b (fun x => if x / 10 = b (13 + 2 * h) then 1 else 0) h (b 7)) 0 (b 0) := by
    show zsum (fun h => abt A 1 h 4) 0 (A 1 1) = _
    rw [s1]
    exact zsum_congr (fun i hi => (abt_n hr (h := 0 + i) (by omega)).2.2)
  rw [e, sum_ex (fun h x => if x / 10 = b (13 + 2 * h) then 1 else 0) (b 7) (fun g hg => (bO_g hr.2.1 hg).1)]
  unfold wsh
  refine zsum_congr (fun i _ => ?_)
  by_cases e : b (13 + 2 * own b (0 + i)) = cod b (0 + i) / 10
  · rw [if_pos e, if_pos e.symm]
  · rw [if_neg e, if_neg (fun q => e q.symm)]
/-! the order -/
theorem ord_at (hr : zRR A 1 b) (ht : t < A 1 1) : A 7 t = b (24 + t) ∧ A 7 t < A 1 1 := by
  have s1 := rr_n hr
  exact ⟨(hr.2.2.2.2.2.2.2.2.2.2.2 t (by omega)).2.2, (hr.1.2.2.2.1 t ht).2.2⟩
theorem plc_at (hr : zRR A 1 b) (hh : h < A 1 1) : abt A 1 h 5 < A 1 1 ∧ A 7 (abt A 1 h 5) = h := by
  have s1 := rr_n hr
  obtain ⟨t, ht, e⟩ := hr.2.2.1.2 h (by omega)
  have h1 : abt A 1 h 5 = t := rr_plc hr ht e
  rw [h1]
  exact ⟨by omega, by rw [(ord_at hr (t := t) (by omega)).1, e]⟩
def orS (A : Nat → Nat → Nat) : Nat → Nat
  | 0 => 0
  | t + 1 => bset (orS A t) (A 7 t)
theorem orS_lt (hr : zRR A 1 b) : ∀ t, t ≤ A 1 1 → orS A t < 64
  | 0, _ => by show 0 < 64; omega
  | t + 1, ht => by
    have h0 := hr.1.2.2.1
    have := (ord_at hr (t := t) (by omega)).2
    exact (bit_set _ (orS_lt hr t (by omega)) _ (by omega)).2
theorem orS_bit (hr : zRR A 1 b) (hg : g < 6) : ∀ t, t ≤ A 1 1 → (orS A t / 2 ^ g % 2 = 0 ↔ ∀ i, i < t → A 7 i ≠ g)
  | 0, _ => by
    show 0 / 2 ^ g % 2 = 0 ↔ _
    rw [Nat.zero_div]
    exact ⟨fun _ i hi => absurd hi (Nat.not_lt_zero i), fun _ => rfl⟩
  | t + 1, ht => by
    have h0 := hr.1.2.2.1
    have h1 := (ord_at hr (t := t) (by omega)).2
    show bset (orS A t) (A 7 t) / 2 ^ g % 2 = 0 ↔ _
    rw [bit_has _ (orS_lt hr t (by omega)) _ (by omega) g hg, orS_bit hr hg t (by omega)]
    constructor
    · rintro ⟨q1, q2⟩ i hi
      by_cases e : i = t
      · rw [e]; exact fun q => q1 q.symm
      · exact q2 i (by omega)
    · intro q
      exact ⟨fun e => q t (by omega) e.symm, fun i hi => q i (by omega)⟩
set_option maxRecDepth 20000 in
theorem bits_full : ∀ s, s < 64 → ∀ n, n < 7 → (∀ g, g < 6 → (s / 2 ^ g % 2 = 0 ↔ n ≤ g)) → s = 2 ^ n - 1 := by decide +kernel
theorem orS_all (hr : zRR A 1 b) : orS A (A 1 1) = 2 ^ (A 1 1) - 1 := by
  have h0 := hr.1.2.2.1
  have s1 := rr_n hr
  refine bits_full _ (orS_lt hr _ (Nat.le_refl _)) _ (by omega) (fun g hg => ?_)
  rw [orS_bit hr hg _ (Nat.le_refl _)]
  constructor
  · intro q
    by_cases c : A 1 1 ≤ g
    · exact c
    · obtain ⟨t, ht, e⟩ := hr.2.2.1.2 g (by omega)
      exact absurd ((ord_at hr (t := t) (by omega)).1.trans e) (q t (by omega))
  · intro c i hi e
    have := (ord_at hr (t := i) hi).2
    omega
theorem shl_n : ∀ n, n < 7 → (nI 1 <<< (nI n &&& 31)) - nI 1 = nI (2 ^ n - 1) := by decide +kernel
/-! what keeps the worth -/
theorem WA_of (h3 : ∀ i, B 3 i = A 3 i) (h4 : B 4 7 = A 4 7) : WA B = WA A := by
  unfold WA
  rw [h4]
  exact zsum_congr (fun i _ => by rw [h3])
theorem WA_gv (hm : zmo A 1) (hh : h < 6) (hne : 0 < zcnt A 1 6) : WA (gvA A 1 h) = WA A ∧ gvA A 1 h 4 7 = A 4 7 := by
  have h1 : A 4 (h + 1) ≤ A 4 6 := zmo_le hm (by omega) (by omega)
  have h2 : A 4 6 < A 4 7 := by
    have : zcnt A 1 6 = A 4 7 - A 4 6 := rfl
    omega
  have e4 : gvA A 1 h 4 7 = A 4 7 := by
    show gvA A 1 h (1 + 3) 7 = _
    rw [gv_st, if_neg (by omega)]
  refine ⟨?_, e4⟩
  have r1 : gvA A 1 h 3 (A 4 (h + 1)) = A 3 (A 4 6) := by
    unfold gvA
    rw [if_pos ⟨rfl, rfl⟩]
  have r2 : ∀ i, A 4 (h + 1) < i → i ≤ A 4 6 → gvA A 1 h 3 i = A 3 (i - 1) := fun i a1 a2 => by
    unfold gvA
    rw [if_neg (fun q => by have : i = A 4 (h + 1) := q.2; omega), if_pos ⟨rfl, a1, a2⟩]
  have r3 : ∀ i, ¬ (A 4 (h + 1) ≤ i ∧ i ≤ A 4 6) → gvA A 1 h 3 i = A 3 i := fun i a => by
    unfold gvA
    rw [if_neg (fun q => by have : i = A 4 (h + 1) := q.2; omega), if_neg (fun q => by have a1 : A 4 (h + 1) < i := q.2.1; have a2 : i ≤ A 4 6 := q.2.2; omega), if_neg (by omega)]
  unfold WA
  rw [e4]
  have key : ∀ d, A 4 (h + 1) + d ≤ A 4 6 → zsum (fun i => gvA A 1 h 3 i % 10) 0 (A 4 (h + 1) + d + 1) = zsum (fun i => A 3 i % 10) 0 (A 4 (h + 1) + d) + A 3 (A 4 6) % 10 := by
    intro d
    induction d with
    | zero =>
      intro _
      show zsum (fun i => gvA A 1 h 3 i % 10) 0 (A 4 (h + 1)) + gvA A 1 h 3 (0 + A 4 (h + 1)) % 10 = zsum (fun i => A 3 i % 10) 0 (A 4 (h + 1)) + A 3 (A 4 6) % 10
      rw [Nat.zero_add, r1]
      congr 1
      exact zsum_congr (fun i hi => by rw [r3 _ (by omega)])
    | succ d ih =>
      intro hd
      show zsum (fun i => gvA A 1 h 3 i % 10) 0 (A 4 (h + 1) + d + 1) + gvA A 1 h 3 (0 + (A 4 (h + 1) + d + 1)) % 10 = zsum (fun i => A 3 i % 10) 0 (A 4 (h + 1) + d) + A 3 (0 + (A 4 (h + 1) + d)) % 10 + A 3 (A 4 6) % 10
      rw [ih (by omega), Nat.zero_add, Nat.zero_add, r2 _ (by omega) (by omega), Nat.add_sub_cancel]
      omega
  obtain ⟨d, hd⟩ : ∃ d, A 4 6 = A 4 (h + 1) + d := ⟨A 4 6 - A 4 (h + 1), by omega⟩
  have k1 := key d (by omega)
  rw [← hd] at k1
  refine zsum_ext (m := A 4 6 + 1) ?_ (fun i hi => by show gvA A 1 h 3 i % 10 = A 3 i % 10; rw [r3 _ (by omega)]) (by omega)
  rw [k1]
  show _ = zsum (fun i => A 3 i % 10) 0 (A 4 6) + A 3 (0 + A 4 6) % 10
  rw [Nat.zero_add]
theorem WA_gvO (ho : cOk A 1) : ∀ k, k ≤ A 1 1 → k ≤ zcnt A 1 6 → WA (gvO A 1 k) = WA A ∧ gvO A 1 k 4 7 = A 4 7
  | 0, _, _ => ⟨rfl, rfl⟩
  | k + 1, h1, h2 => by
    have ih := WA_gvO ho k (by omega) (by omega)
    have h3 := gvO_ok ho k (by omega) (by omega)
    have h4 := (ho.2.2.2.1 k (by omega)).2.2
    have h5 := ho.2.2.1
    have := WA_gv (A := gvO A 1 k) (h := A (1 + 6) k) h3.1.1 (by omega) (by omega)
    show WA (gvA (gvO A 1 k) 1 (A (1 + 6) k)) = _ ∧ gvA (gvO A 1 k) 1 (A (1 + 6) k) 4 7 = _
    exact ⟨this.1.trans ih.1, this.2.trans ih.2⟩
theorem WA_gvP (ho : cOk A 1) (hpos : 0 < A 1 1) : ∀ k, k ≤ zcnt A 1 6 → WA (gvP A 1 k).1 = WA A ∧ (gvP A 1 k).1 4 7 = A 4 7
  | 0, _ => ⟨rfl, rfl⟩
  | k + 1, h2 => by
    have ih := WA_gvP ho hpos k (by omega)
    have h3 := gvP_ok ho hpos k (by omega)
    have h5 := ho.2.2.1
    have := WA_gv (A := (gvP A 1 k).1) (h := (prs (gvP A 1 k).1 1 (gvP A 1 k).2 (A 1 1)).1) h3.1.1 (by omega) (by omega)
    rw [gvP]
    exact ⟨this.1.trans ih.1, this.2.trans ih.2⟩
theorem WA_rd (ho : cOk A 1) (hpos : 0 < A 1 1) : WA (rdA A 1) = WA A ∧ rdA A 1 4 7 = A 4 7 := by
  have hl := rdN_le A 1
  unfold rdA
  by_cases e : rdR A 1 = 0
  · rw [if_pos e]; exact ⟨rfl, rfl⟩
  · rw [if_neg e]
    have o : ∀ c i, c ≠ 7 → c ≠ 1 → up (mvA (rdG A 1) (1 + 6) 0 (A 1 1 - 1)) 1 8 (A 1 8 + 1) c i = rdG A 1 c i := fun c i h7 h1 => by
      rw [up_ne (by omega)]
      unfold mvA
      rw [if_neg (by omega), if_neg (by omega)]
    have hG : WA (rdG A 1) = WA A ∧ rdG A 1 4 7 = A 4 7 := by
      unfold rdG
      by_cases c : rdN A 1 < A 1 1 ∧ A 1 6 = 1
      · rw [if_pos c]; exact WA_gvP ho hpos _ hl.2
      · rw [if_neg c]; exact WA_gvO ho _ hl.1 hl.2
    exact ⟨(WA_of (fun i => o _ _ (by omega) (by omega)) (o _ _ (by omega) (by omega))).trans hG.1, (o _ _ (by omega) (by omega)).trans hG.2⟩
theorem WA_dv : ∀ n (A : Nat → Nat → Nat), cOk A 1 → 0 < A 1 1 → WA (dvN 1 n A).2 = WA A ∧ (dvN 1 n A).2 4 7 = A 4 7
  | 0, _, _, _ => ⟨rfl, rfl⟩
  | n + 1, A, ho, hpos => by
    have h1 := WA_rd ho hpos
    have h2 := rdA_ok ho hpos
    rw [dvN]
    by_cases e : rdR A 1 = 0
    · rw [if_pos e]; exact h1
    · rw [if_neg e]
      have ih := WA_dv n (rdA A 1) h2.1 (by rw [h2.2.2]; exact hpos)
      exact ⟨ih.1.trans h1.1, ih.2.trans h1.2⟩
theorem WA_rb (hm : zmo A 1) (hh : h < 6) : WA (rbA A 1 h) = WA A ∧ rbA A 1 h 4 7 = A 4 7 ∧ rbA A 1 h 4 6 = A 4 6 - zcnt A 1 h := by
  have e4 : rbA A 1 h 4 7 = A 4 7 := by
    unfold rbA
    rw [if_neg (by omega), if_neg (by omega), if_neg (by omega)]
  have e6 : rbA A 1 h 4 6 = A 4 6 - zcnt A 1 h := by
    unfold rbA
    rw [if_neg (by omega), if_neg (by omega), if_pos (by omega)]
  refine ⟨?_, e4, e6⟩
  have h0 : A 4 h ≤ A 4 (h + 1) := hm.1 h (by omega)
  have h1 : A 4 (h + 1) ≤ A 4 7 := zmo_le hm (by omega) (by omega)
  have ec : zcnt A 1 h = A 4 (h + 1) - A 4 h := rfl
  obtain ⟨m, hm2⟩ : ∃ m, A 4 7 = A 4 h + (zcnt A 1 h + m) := ⟨A 4 7 - A 4 (h + 1), by omega⟩
  have r1 : ∀ i, i < A 4 h → rbA A 1 h 3 i = A 3 i := fun i hi => by
    unfold rbA
    rw [if_neg (fun q => by have : A 4 h ≤ i := q.2.1; omega), if_neg (by omega), if_neg (by omega)]
  have r2 : ∀ i, i < m → rbA A 1 h 3 (A 4 h + i) = A 3 (A 4 h + zcnt A 1 h + i) := fun i hi => by
    unfold rbA
    rw [if_pos ⟨rfl, by show A 4 h ≤ _; omega, by show _ < A 4 7; omega⟩, if_pos (by show _ < A 4 7; omega)]
    exact zAe rfl (by omega)
  have r3 : ∀ i, i < zcnt A 1 h → rbA A 1 h 3 (A 4 h + m + i) = A 3 (A 4 h + i) := fun i hi => by
    unfold rbA
    rw [if_pos ⟨rfl, by show A 4 h ≤ _; omega, by show _ < A 4 7; omega⟩, if_neg (by show ¬ _ < A 4 7; omega)]
    refine zAe rfl ?_
    show A 4 h + (A 4 h + m + i + zcnt A 1 h - A 4 7) = _
    omega
  unfold WA
  rw [e4, hm2]
  rw [show A 4 h + (zcnt A 1 h + m) = A 4 h + (m + zcnt A 1 h) by omega, zsum_split, zsum_split, show A 4 h + (m + zcnt A 1 h) = A 4 h + (zcnt A 1 h + m) by omega, zsum_split, zsum_split, Nat.zero_add]
  have q1 : zsum (fun i => rbA A 1 h 3 i % 10) 0 (A 4 h) = zsum (fun i => A 3 i % 10) 0 (A 4 h) := zsum_congr (fun i hi => by rw [r1 _ (by omega)])
  have q2 : zsum (fun i => rbA A 1 h 3 i % 10) (A 4 h) m = zsum (fun i => A 3 i % 10) (A 4 h + zcnt A 1 h) m := zsum_congr (fun i hi => by rw [r2 i hi])
  have q3 : zsum (fun i => rbA A 1 h 3 i % 10) (A 4 h + m) (zcnt A 1 h) = zsum (fun i => A 3 i % 10) (A 4 h) (zcnt A 1 h) := zsum_congr (fun i hi => by rw [r3 i hi])
  rw [q1, q2, q3]
  omega
theorem rh_34 {x : Nat} (hc : x = 3 ∨ x = 4) : rhA A 1 h x i = rbA A 1 h x i := by
  unfold rhA
  rw [if_neg (by omega), if_neg (by omega), if_neg (by omega), if_neg (by omega), if_neg (by omega)]
/-! a round: the first marble -/
def mk (A : Nat → Nat → Nat) (h i : Nat) : Nat := A 3 (A 4 h + i)
theorem gv_cnt2 (hg : g < 6) (hm : zmo A 1) : zcnt (gvA A 1 h) 1 g = zcnt A 1 g + if g = h then 1 else 0 := by
  have h1 : A (1 + 3) g ≤ A (1 + 3) (g + 1) := hm.1 g (by omega)
  unfold zcnt
  rw [gv_st, gv_st]
  by_cases e : g = h
  · rw [if_pos e, if_pos (by omega), if_neg (by omega)]; omega
  · rw [if_neg e]
    by_cases e2 : h < g
    · rw [if_pos (by omega), if_pos (by omega)]; omega
    · rw [if_neg (by omega), if_neg (by omega)]; rfl
theorem gv_mk (hm : zmo A 1) (hg : g < 6) (hh : h < 6) (hi : i < zcnt A 1 g) : mk (gvA A 1 h) g i = mk A g i := by
  have ec : zcnt A 1 g = A 4 (g + 1) - A 4 g := rfl
  have h1 : A 4 (g + 1) ≤ A 4 6 := zmo_le hm (by omega) (by omega)
  have st : gvA A 1 h 4 g = if h < g ∧ g ≤ 6 then A 4 g + 1 else A 4 g := gv_st
  unfold mk
  rw [st]
  by_cases e2 : h < g
  · have h2 : A 4 (h + 1) ≤ A 4 g := zmo_le hm (by omega) (by omega)
    rw [if_pos (by omega)]
    unfold gvA
    rw [if_neg (fun q => by have : A 4 g + 1 + i = A 4 (h + 1) := q.2; omega), if_pos ⟨rfl, by show A 4 (h + 1) < _; omega, by show _ ≤ A 4 6; omega⟩]
    exact zAe rfl (by omega)
  · have h2 : A 4 (g + 1) ≤ A 4 (h + 1) := zmo_le hm (by omega) (by omega)
    rw [if_neg (by omega)]
    unfold gvA
    rw [if_neg (fun q => by have : A 4 g + i = A 4 (h + 1) := q.2; omega), if_neg (fun q => by have : A 4 (h + 1) < A 4 g + i := q.2.1; omega), if_neg (by omega)]
theorem gv_mk0 (hm : zmo A 1) (hh : h < 6) : mk (gvA A 1 h) h (zcnt A 1 h) = mk A 6 0 := by
  have ec : zcnt A 1 h = A 4 (h + 1) - A 4 h := rfl
  have h0 : A 4 h ≤ A 4 (h + 1) := hm.1 h (by omega)
  have st : gvA A 1 h 4 h = if h < h ∧ h ≤ 6 then A 4 h + 1 else A 4 h := gv_st
  unfold mk
  rw [st, if_neg (by omega)]
  unfold gvA
  rw [if_pos ⟨rfl, by show A 4 h + _ = A 4 (h + 1); omega⟩]
  rfl
theorem gvO_first (ho : cOk A 1) : ∀ k, k + 1 ≤ A 1 1 → k + 1 ≤ zcnt A 1 6 → zcnt A 1 (A 7 0) < zcnt (gvO A 1 (k + 1)) 1 (A 7 0) ∧ mk (gvO A 1 (k + 1)) (A 7 0) (zcnt A 1 (A 7 0)) = mk A 6 0
  | 0, h1, h2 => by
    have h5 := ho.2.2.1
    have h4 : A 7 0 < A 1 1 := (ho.2.2.2.1 0 (by omega)).2.2
    show zcnt A 1 (A 7 0) < zcnt (gvA A 1 (A 7 0)) 1 (A 7 0) ∧ mk (gvA A 1 (A 7 0)) (A 7 0) (zcnt A 1 (A 7 0)) = mk A 6 0
    refine ⟨?_, gv_mk0 ho.1 (by omega)⟩
    rw [gv_cnt2 (by omega) ho.1, if_pos rfl]
    omega
  | k + 1, h1, h2 => by
    have h5 := ho.2.2.1
    have h4 : A 7 0 < A 1 1 := (ho.2.2.2.1 0 (by omega)).2.2
    have h6 : A 7 (k + 1) < A 1 1 := (ho.2.2.2.1 (k + 1) (by omega)).2.2
    have ih := gvO_first ho k (by omega) (by omega)
    have h3 := gvO_ok ho (k + 1) (by omega) (by omega)
    show zcnt A 1 (A 7 0) < zcnt (gvA (gvO A 1 (k + 1)) 1 (A 7 (k + 1))) 1 (A 7 0) ∧ mk (gvA (gvO A 1 (k + 1)) 1 (A 7 (k + 1))) (A 7 0) (zcnt A 1 (A 7 0)) = mk A 6 0
    refine ⟨?_, (gv_mk h3.1.1 (by omega) (by omega) ih.1).trans ih.2⟩
    rw [gv_cnt2 (by omega) h3.1.1]
    omega
/-! all rounds -/
theorem rdB_3 (ho : bOk b) (hp : bPm b) (h : ¬ mny b = 0) : rdB b 3 = b 3 + 1 := by
  have hm := mny_le b
  have := (gvS_ok ho hp (byw b) (mny b) hm.1 hm.2).2.2.1 3 (by omega) (by omega) (by omega)
  unfold rdB
  rw [if_neg h]
  unfold roB
  rw [if_neg (by omega), if_neg (by omega), if_pos rfl, this]
theorem dvB_is : ∀ N (b : Nat → Nat), bOk b → bPm b → 0 < b 0 → b 6 ≤ N → (dvB N b).1 = (b 6 + (if b 1 = 2 then 0 else b 0 - 1)) / b 0 ∧ (dvB N b).2 6 = (if b 1 = 2 then b 6 % b 0 else 0) ∧ (dvB N b).2 3 = b 3 + (dvB N b).1 ∧ mny (dvB N b).2 = 0
  | 0, b, ho, hp, hn, h6 => by
    have e6 : b 6 = 0 := by omega
    show 0 = _ ∧ b 6 = _ ∧ b 3 = b 3 + 0 ∧ mny b = 0
    refine ⟨?_, ?_, rfl, mny_0 e6⟩
    · rw [e6]
      split
      · rw [Nat.zero_add, Nat.zero_div]
      · rw [Nat.div_eq_of_lt (by omega)]
    · rw [e6]
      split
      · rw [Nat.zero_mod]
      · rfl
  | N + 1, b, ho, hp, hn, h6 => by
    obtain ⟨o1, o2, o3, o4, o5⟩ := rdB_ok ho hp hn
    have e1 := o5 1 (by omega) (by omega) (by omega) (by omega)
    rw [dvB]
    by_cases e : mny b = 0
    · rw [if_pos e]
      dsimp only
      unfold mny at e
      by_cases c : b 0 ≤ b 6
      · rw [if_pos c] at e; omega
      · rw [if_neg c] at e
        refine ⟨?_, ?_, rfl, by unfold mny; rw [if_neg c]; exact e⟩
        · by_cases c2 : b 1 = 2
          · rw [if_pos c2, Nat.div_eq_of_lt (by omega)]
          · rw [if_neg c2] at e
            rw [if_neg c2, Nat.div_eq_of_lt (by omega)]
        · by_cases c2 : b 1 = 2
          · rw [if_pos c2, Nat.mod_eq_of_lt (by omega)]
          · rw [if_neg c2] at e
            rw [if_neg c2, e]
    · rw [if_neg e]
      dsimp only
      have hle := mny_le b
      obtain ⟨i1, i2, i3, i4⟩ := dvB_is N (rdB b) o1 o2 (by rw [o3]; exact hn) (by rw [o4]; omega)
      rw [o3, o4, e1] at i1 i2
      rw [rdB_3 ho hp e] at i3
      refine ⟨?_, ?_, by omega, i4⟩
      · rw [i1]
        unfold mny at e ⊢
        by_cases c : b 0 ≤ b 6
        · rw [if_pos c]
          have : b 6 + (if b 1 = 2 then 0 else b 0 - 1) = (b 6 - b 0 + (if b 1 = 2 then 0 else b 0 - 1)) + b 0 := by omega
          rw [this, Nat.add_div_right _ hn]
        · rw [if_neg c] at e ⊢
          by_cases c2 : b 1 = 2
          · rw [if_pos c2] at e; omega
          · rw [if_neg c2] at e
            rw [if_neg c2, if_neg c2, Nat.sub_self, Nat.zero_add, Nat.div_eq_of_lt (by omega)]
            have : b 6 + (b 0 - 1) = (b 6 - 1) + b 0 := by omega
            rw [this, Nat.add_div_right _ hn, Nat.div_eq_of_lt (by omega)]
      · rw [i2]
        unfold mny at e ⊢
        by_cases c2 : b 1 = 2
        · rw [if_pos c2, if_pos c2]
          by_cases c : b 0 ≤ b 6
          · rw [if_pos c, ← Nat.mod_eq_sub_mod c, if_pos c2]
          · rw [if_neg c, if_pos c2] at e; omega
        · rw [if_neg c2, if_neg c2]
end FA
