/-! the calls, on both sides: pour -/
section OH
variable {A B X : Nat → Nat → Nat} {b c : Nat → Nat} {p q h k g n m i j t : Nat} {scr : List Int32}
theorem iv_of16 (h : ∀ c i, (c ≤ 8 ∨ 17 ≤ c) → B c i = A c i) (hi : zIV A) : zIV B := ⟨zRR_move (fun t i ht => h _ _ (by omega)) (fun i _ => h _ _ (by omega)) hi.1, ir_of (fun c i hc => h c i (by omega)) hi.2⟩
theorem iv_clear (hi : zIV X) (h : ∀ c i, ¬ (c = 67 ∧ i = 1) → ¬ (c = 70 ∧ (i = 7 ∨ i = 9)) → B c i = X c i) (h1 : B 67 1 = 0) (h2 : B 70 7 = 0) : zIV B := by
  refine ⟨zRR_move (fun t i ht => h _ _ (by omega) (by omega)) (fun i _ => h _ _ (by omega) (by omega)) hi.1, ir_tx (fun c i hc => h c i (by omega) (by omega)) ⟨⟨by omega, fun i hi2 => by omega⟩, by omega, fun i hi2 => by omega⟩ hi.2⟩
theorem deA_o16 {x c i : Nat} (hc : c ≤ 8 ∨ 17 ≤ c) : ∀ n, deA A 9 x n c i = A c i := fun n => deA_off (by omega) (by omega) n
theorem dpN_o16 : ∀ N i (B : Nat → Nat → Nat) c j, (c ≤ 8 ∨ 17 ≤ c) → dpN A 9 N i B c j = B c j
  | 0, _, _, _, _, _ => rfl
  | N + 1, i, B, c, j, hc => by
    rw [dpN]
    by_cases e : i = A 67 1
    · rw [if_pos e]
    · rw [if_neg e, dpN_o16 N _ _ c j hc, deA_o16 hc]
theorem goesB0 (ho : txOk A) (hB : zTB A B) (hL : 0 < A 67 1) (hf : feN A (A 67 1) 0 0 = -6) : zC scr 148 [.ref 70, .int (nI 0)] (wd B) = some (some (.int (-6)), wd (up B 70 9 (ttl A (A 67 1) 0))) := by
  have hl := ho.1
  have hB' : ∀ y, zTB A (up B 70 9 y) := fun y => ⟨by rw [up_ne (by omega)]; exact hB.1, fun i hi => by rw [up_ne (by omega)]; exact hB.2 i hi⟩
  obtain ⟨y, h1, h2⟩ := goes0 (scr := scr) ho hB' (A 67 1) (A 67 1) 0 0 none none none (by omega) (Nat.le_refl _) (Or.inl hL)
  have e := h2 hf
  rw [Nat.zero_add] at e
  rw [hf, e] at h1
  rw [zC_of zh148]
  exact (b148_0 (pR 9 0 (by omega))).trans h1
theorem goesB1 (ho : txOk A) (hB : zTB A B) (hL : 0 < A 67 1) (hv : vtx A (A 67 1) 0) (h40 : B 71 6 + ttl A (A 67 1) 0 ≤ 40) : ∃ y, zC scr 148 [.ref 70, .int (nI 1)] (wd B) = some (some (.int (-6)), wd (sb (up B 70 9 y) (itB A (A 67 1) 0 (B 71)))) := by
  have hB' : ∀ y b, zTB A (sb (up B 70 9 y) b) := fun y b => ⟨by rw [sb_off (by omega), up_ne (by omega)]; exact hB.1, fun i hi => by rw [sb_off (by omega), up_ne (by omega)]; exact hB.2 i hi⟩
  obtain ⟨y, h1⟩ := goes1 (scr := scr) ho hB' (A 67 1) 0 0 (B 71) none none none hv hL (Or.inl hL) h40
  refine ⟨y, ?_⟩
  rw [zC_of zh148]
  refine (b148_0 (pR 9 0 (by omega))).trans ?_
  have e : sb (up B 70 9 0) (B 71) = up B 70 9 0 := by
    funext c i
    unfold sb
    by_cases f : c = 71
    · rw [if_pos f, f, up_ne (by omega)]
    · rw [if_neg f]
  rw [e] at h1
  exact h1
theorem itB_6 : ∀ N i (b : Nat → Nat), itB A N i b 6 = b 6 + ttl A N i
  | 0, _, _ => rfl
  | N + 1, i, b => by
    rw [itB, ttl]
    by_cases e : i = A 67 1
    · rw [if_pos e, if_pos e]; rfl
    · rw [if_neg e, if_neg e, itB_6 N, drN_6]; omega
theorem ttl_le : ∀ N i, ttl A N i ≤ 9 * N
  | 0, _ => Nat.le_refl _
  | N + 1, i => by
    rw [ttl]
    have := ttl_le N (i + itd A i + 2)
    have := (itm_ok (A := A) (i := i)).2
    split <;> omega
theorem op_pour : zOP scr 77 150 [] := by
  intro A hi
  obtain ⟨hr, hir⟩ := id hi
  obtain ⟨-, -, ⟨ho, t3, t4⟩⟩ := id hir
  have hl := ho.1
  have htl := ttl_le (A := A) (A 67 1) 0
  have h67 := hr.2.1.2.2.2.2.1
  have h6 := hr.2.1.2.2.2.1
  obtain ⟨y, g1, g2⟩ := r_goes0 (scr := scr) hir.2.2
  by_cases hf : feN A (A 67 1) 0 0 = -6
  case neg =>
    refine ⟨-5, A, up A 70 9 y, ?_, ?_, ⟨zRR_move (fun t i ht => up_ne (by omega)) (fun i _ => up_ne (by omega)) hr, ir_of (fun c i hc => up_ne (by omega)) hir⟩⟩
    · rw [zC_of zh77]
      refine (b77_0 (o_gf o_0 rfl) (o_ob o_67) (t_firstError ho)).trans ?_
      rw [if_neg hf]; exact b77_12
    · rw [zC_of zh150]
      refine (b150_0 oR g1).trans ?_
      rw [if_neg hf]; exact b150_10
  obtain ⟨-, hv, hL⟩ := g2 hf
  -- the trial
  have hT0 : zRR (cpS A 1 9) 9 (A 71) := zRR_move (fun t i ht => by
    unfold cpS
    rw [if_pos (by omega)]
    exact zAe (by omega) rfl) (fun _ _ => rfl) hr
  have o16 : ∀ c i, (c ≤ 8 ∨ 17 ≤ c) → cpS A 1 9 c i = A c i := fun c i hc => by
    unfold cpS
    rw [if_neg (by omega)]
  have c6 := rr_6 hT0
  have c7 := hT0.2.2.2.1.2.2.1
  obtain ⟨d1, d2⟩ := t_dropInto (scr := scr) ho z9 (by omega) (A 67 1) 0 (cpS A 1 9) (nI 0) none (fun k j hk => o16 k j (by omega)) hv hT0.1.1 (by omega)
  have ec : ∀ f C, zd scr 47 10 [some (.ref 67), some (.ref (9 + 1)), some (.int (nI 0)), some (.int (nI 1)), some (.int (nI 0)), some (.int (nI 0)), none] [] (wd (cpS A 1 9)) = some (some (.int f), wd C) → zC scr 77 [.ref 0] (wd A) = if f = 0 then zd scr 77 43 [some (.ref 0)] [] (wd C) else zd scr 77 46 [some (.ref 0)] [] (wd C) := fun f C hC => by
    rw [zC_of zh77]
    refine (b77_0 (o_gf o_0 rfl) (o_ob o_67) (t_firstError ho)).trans ?_
    rw [if_pos hf]
    exact b77_15 (o_gf o_0 rfl) (o_gf o_0 rfl) (o_ob (o_st z9)) (s_copyFrom z9 z1 (by omega)) (o_gf o_0 rfl) (o_gf o_0 rfl) (o_gf (o_st z9) rfl) (o_ob o_67) (by rw [zC_of zh47]; exact b47_0.trans hC)
  by_cases hroom : A 71 6 + ttl A (A 67 1) 0 ≤ 40 ∧ A 71 6 + A 71 7 + ttl A (A 67 1) 0 ≤ 120
  case neg =>
    obtain ⟨C, e1, e2⟩ := d2 (by rw [c6, c7]; omega)
    have hC : zIV C := iv_of16 (fun c i hc => by rw [e2 c i (by omega) (by omega), o16 c i hc]) hi
    have oC : ∀ c i, (c ≤ 8 ∨ 17 ≤ c) → C c i = A c i := fun c i hc => by rw [e2 c i (by omega) (by omega), o16 c i hc]
    have h71 : C 71 = A 71 := funext fun i => oC _ _ (by omega)
    have hgo := goesB0 (scr := scr) (B := C) ho ⟨by rw [oC _ _ (by omega)]; exact t3, fun i hi2 => by rw [oC _ _ (by omega)]; exact t4 i hi2⟩ hL hf
    refine ⟨-4, C, up C 70 9 (ttl A (A 67 1) 0), (ec _ _ e1).trans ?_, ?_, ⟨zRR_move (fun t i ht => up_ne (by omega)) (fun i _ => up_ne (by omega)) hC.1, ir_of (fun c i hc => up_ne (by omega)) hC.2⟩⟩
    · rw [if_pos (by decide)]; exact b77_43
    · rw [zC_of zh150]
      refine (b150_0 oR hgo).trans ?_
      rw [if_pos rfl]
      have hrm := r_hasRoom (scr := scr) (A := up C 70 9 (ttl A (A 67 1) 0)) (x := ttl A (A 67 1) 0) (by rw [show up C 70 9 (ttl A (A 67 1) 0) 71 = A 71 from h71]; exact hr.2.1) (by omega)
      rw [show up C 70 9 (ttl A (A 67 1) 0) 71 = A 71 from h71, if_neg hroom] at hrm
      refine (b150_13 (f1 := nI (ttl A (A 67 1) 0)) (by rw [gR9, up_eq]) oR hrm).trans ?_
      rw [if_pos (by decide)]; exact b150_24
  have e1 := d1 (by rw [c6, c7]; omega)
  obtain ⟨T, hTd⟩ : ∃ T, T = dpN A 9 (A 67 1) 0 (cpS A 1 9) := ⟨_, rfl⟩
  rw [← hTd] at e1
  have hTR : zRR T 9 (itB A (A 67 1) 0 (A 71)) := by rw [hTd]; exact rr_pour (A 67 1) 0 _ _ hv hT0 (by omega) (by omega)
  have oT : ∀ c i, (c ≤ 8 ∨ 17 ≤ c) → T c i = A c i := fun c i hc => by rw [hTd, dpN_o16 _ _ _ c i hc, o16 c i hc]
  have hT : zIV T := iv_of16 oT hi
  have hop := hT.2.2.1.1
  have hF : ∀ c i, (c = 0 ∨ (17 ≤ c ∧ c ≠ 69)) → cpS (kpA T 1) 9 1 c i = kpA T 1 c i := fun c i hc => by
    unfold cpS
    rw [if_neg (by omega)]
  obtain ⟨f1, f2, f3⟩ := iv_b hT hF
  have T71 : T 71 = A 71 := funext fun i => oT _ _ (by omega)
  rw [T71] at f1 f2
  have hF1 : zRR (cpS (kpA T 1) 9 1) 1 (itB A (A 67 1) 0 (A 71)) := zRR_move (fun t i ht => by
    unfold cpS
    rw [if_pos (by omega), kp_off hop (by omega)]
    exact zAe (by omega) rfl) (fun _ _ => rfl) hTR
  have hX := iv_rec hT hF hF1
  obtain ⟨G, hG⟩ : ∃ G, G = cpS (kpA T 1) 9 1 := ⟨_, rfl⟩
  rw [← hG] at f1 f2 f3 hF hF1 hX
  have G_off : ∀ c i, (c = 0 ∨ (17 ≤ c ∧ c ≠ 69)) → ¬ (25 ≤ c ∧ c < 67) → G c i = A c i := fun c i h1 h2 => by rw [hF c i h1, kp_off hop h2, oT c i (by omega)]
  have hU : zTB A (up G 67 1 0) := ⟨by rw [up_ne (by omega), G_off _ _ (by omega) (by omega)]; exact t3, fun i hi2 => by rw [up_ne (by omega), G_off _ _ (by omega) (by omega)]; exact t4 i hi2⟩
  have hgo := goesB0 (scr := scr) (B := up G 67 1 0) ho hU hL hf
  have u71 : up (up G 67 1 0) 70 9 (ttl A (A 67 1) 0) 71 = A 71 := f1
  have r71 : rcA (up (up G 67 1 0) 70 9 (ttl A (A 67 1) 0)) 71 = A 71 := by
    funext i
    rw [rc_off (by omega) (by omega), u71]
  have hV : zTB A (rcA (up (up G 67 1 0) 70 9 (ttl A (A 67 1) 0))) := ⟨by rw [rc_off (by omega) (by omega), up_ne (by omega)]; exact hU.1, fun i hi2 => by rw [rc_off (by omega) (by omega), up_ne (by omega)]; exact hU.2 i hi2⟩
  obtain ⟨y2, hgo1⟩ := goesB1 (scr := scr) (B := rcA (up (up G 67 1 0) 70 9 (ttl A (A 67 1) 0))) ho hV hL hv (by rw [r71]; omega)
  rw [r71] at hgo1
  have bsm := itB_6 (A := A) (A 67 1) 0 (A 71)
  have rcK_eq : rcK (up (up G 67 1 0) 70 9 (ttl A (A 67 1) 0)) = rcK G := by
    unfold rcK
    rw [up_ne (by omega), up_ne (by omega)]
  have rcz : ∀ c i, ¬ (c = 67 ∧ i = 1) → ¬ (c = 70 ∧ (i = 7 ∨ i = 9)) → rcA (up (up G 67 1 0) 70 9 (ttl A (A 67 1) 0)) c i = rcA G c i := fun c i q1 q2 => by
    unfold rcA
    rw [rcK_eq]
    by_cases e : c = 73
    · rw [if_pos e, if_pos e, up_ne (by omega), up_ne (by omega)]
      unfold rc0
      rw [up_ne (by omega), up_ne (by omega), up_ne (by omega), up_ne (by omega), up_ne (by omega), up_ne (by omega)]
    · rw [if_neg e, if_neg e]
      by_cases e2 : c = 70 ∧ i = 3
      · rw [if_pos e2, if_pos e2]
      · rw [if_neg e2, if_neg e2, up_ne (by omega), up_ne q1]
  refine ⟨nI (itB A (A 67 1) 0 (A 71) 6), up G 67 1 0, up (sb (up (rcA (up (up G 67 1 0) 70 9 (ttl A (A 67 1) 0))) 70 9 y2) (itB A (A 67 1) 0 (A 71))) 70 7 0, (ec _ _ e1).trans ?_, ?_, iv_clear hX (fun c i q1 q2 => ?_) ?_ up_eq⟩
  · rw [if_neg (by decide)]
    have hcnt := m_count (scr := scr) (A := up G 67 1 0) (p := 1) (h := 6) z1 (by
      refine ⟨fun j hj => ?_, ?_⟩
      · rw [up_ne (by omega), up_ne (by omega)]; exact hF1.1.1.1 j hj
      · rw [up_ne (by omega)]; exact hF1.1.1.2) (by omega)
    have ez : zcnt (up G 67 1 0) 1 6 = itB A (A 67 1) 0 (A 71) 6 := rr_6 hF1
    rw [ez] at hcnt
    exact b77_46 (o_gf o_0 rfl) (o_gf o_0 rfl) (o_ob o_25) (keep1 hT) (o_gf o_0 rfl) (o_gf o_0 rfl) (o_ob (o_st z1)) (s_copyFrom z1 z9 (by omega)) (o_gf o_0 rfl) (by rw [← hG]; exact t_pf 0) (o_gf o_0 rfl) (o_gf (o_st z1) rfl) (o_ob (o_mb z1)) hcnt
  · rw [zC_of zh150]
    refine (b150_0 oR hgo).trans ?_
    rw [if_pos rfl]
    have hrm := r_hasRoom (scr := scr) (A := up (up G 67 1 0) 70 9 (ttl A (A 67 1) 0)) (x := ttl A (A 67 1) 0) (by rw [u71]; exact hr.2.1) (by omega)
    rw [u71, if_pos hroom] at hrm
    refine (b150_13 (f1 := nI (ttl A (A 67 1) 0)) (by rw [gR9, up_eq]) oR hrm).trans ?_
    rw [if_neg (by decide)]
    exact b150_27 oR (r_record (by rw [up_ne (by omega), up_ne (by omega)]; exact f3)) oR hgo1 (pR 7 0 (by omega)) gR0 (by rw [aR (by omega), up_ne (by omega)]; rfl)
  · rw [up_ne (by omega)]
    unfold sb
    by_cases e : c = 71
    · rw [if_pos e, if_pos e]
    · rw [if_neg e, if_neg e, up_ne (by omega), rcz c i q1 q2]
  · rw [up_ne (by omega), sb_off (by omega), up_ne (by omega), rc_off (by omega) (by omega), up_ne (by omega), up_eq]
end OH
