theorem nI_ne6 {a : Nat} (ha : a < 1000) : ¬ nI a = -6 := by
  intro h
  have h1 := congrArg Int32.toInt h
  rw [n_toInt (by omega)] at h1
  have e : Int32.toInt (-6) = -6 := by decide
  omega
/-! a run on a heap is a run on a longer one, if it makes no cell -/
section FR
variable {scr : List Int32} {mi pc pc' a ci k : Nat} {r : zRec} {ls ls' : zLs} {st st' : List Value} {w w' w1 G : zAW} {d : Instr × Nat} {v : Value}
theorem app_get {c : zAC} (h : w[a]? = some c) : (w ++ G)[a]? = some c := by
  rw [List.getElem?_append_left (List.getElem?_eq_some_iff.mp h).1, h]
theorem app_set {c c' : zAC} (h : w[a]? = some c) : (w ++ G).set a c' = w.set a c' ++ G := List.set_append_left _ _ (List.getElem?_eq_some_iff.mp h).1
theorem zgf_app (h : zgf w a ci k = some v) : zgf (w ++ G) a ci k = some v := by
  obtain ⟨fs, h1, h2⟩ := zgf_some h
  unfold zgf
  rw [app_get h1]
  dsimp only
  rw [if_pos rfl, h2]
theorem zpf_app (h : zpf w a ci k v = some w1) : zpf (w ++ G) a ci k v = some (w1 ++ G) := by
  obtain ⟨fs, h1, h2, rfl⟩ := zpf_some h
  unfold zpf
  rw [app_get h1]
  dsimp only
  rw [if_pos ⟨rfl, h2⟩, app_set h1]
theorem zal_app {i x : Int32} (h : zal w a i = some x) : zal (w ++ G) a i = some x := by
  obtain ⟨f, h1, h2, h3⟩ := zal_some h
  unfold zal
  rw [app_get h1]
  dsimp only
  rw [if_neg h2, h3]
theorem zas_app {i x : Int32} (h : zas w a i x = some w1) : zas (w ++ G) a i x = some (w1 ++ G) := by
  obtain ⟨f, h1, h2, h3, rfl⟩ := zas_some h
  unfold zas
  rw [app_get h1]
  dsimp only
  rw [if_neg (fun q => q.elim h2 (fun q => by omega)), app_set h1]
theorem zql_app {i : Int32} {x : Nat} (h : zql w a i = some x) : zql (w ++ G) a i = some x := by
  obtain ⟨f, h1, h2, h3⟩ := zql_some h
  unfold zql
  rw [app_get h1]
  dsimp only
  rw [if_neg h2, h3]
theorem zqs_app {i : Int32} {x : Nat} (h : zqs w a i x = some w1) : zqs (w ++ G) a i x = some (w1 ++ G) := by
  obtain ⟨f, fs, h1, h2, h3, h4, rfl⟩ := zqs_some h
  unfold zqs
  rw [app_get h1]
  dsimp only
  rw [if_neg (fun q => q.elim h2 (fun q => by omega)), app_get h4]
  show some _ = _
  rw [app_set h1]
theorem zcp_app {a1 : Nat} {sp dp n : Int32} (h : zcp w a sp a1 dp n = some w1) : zcp (w ++ G) a sp a1 dp n = some (w1 ++ G) := by
  obtain ⟨l0, l1, h1, h2, h3, h4, h5, h6, h7, rfl⟩ := zcp_some h
  unfold zcp
  rw [app_get h1, app_get h2]
  try dsimp only
  rw [if_neg (fun q => q.elim h3 (fun q => q.elim h4 (fun q => q.elim h5 (fun q => q.elim (fun q => by omega) (fun q => by omega))))), app_set h2]
theorem zob_app (h : zob w a ci = true) : zob (w ++ G) a ci = true := by
  unfold zob at h
  split at h
  · rename_i c fs hw
    unfold zob
    rw [app_get hw]
    exact h
  · cases h
theorem zcallV_app {mj : Nat} {nx : zNx} (h : zcallV r mj ls st w = some nx) : zcallV r mj ls st (w ++ G) = some nx := by
  obtain ⟨rj, a, rest, fs, h1, h2, h3, h4, h5, h6, h7, rfl⟩ := zcallV_some h
  unfold zcallV
  rw [h1]
  dsimp only
  rw [h2]
  dsimp only
  rw [if_pos ⟨h3, h4, h5, h6⟩, app_get h7]
  dsimp only
  rw [if_pos rfl]
theorem zjmp_app {off : Int} {q : Nat × zLs × List Value × zAW} (h : zjmp pc off ls st w = some (.inl q)) : zjmp pc off ls st (w ++ G) = some (.inl (q.1, q.2.1, q.2.2.1, q.2.2.2 ++ G)) := by
  unfold zjmp at h ⊢
  split at h
  · rename_i h0
    cases h
    rw [if_pos h0]
  · cases h
theorem zbr_app {b : Bool} {off : Int} {q : Nat × zLs × List Value × zAW} (h : zbr b pc off ls st w = some (.inl q)) : zbr b pc off ls st (w ++ G) = some (.inl (q.1, q.2.1, q.2.2.1, q.2.2.2 ++ G)) := by
  cases b
  · unfold zbr at h ⊢
    dsimp only at h ⊢
    split at h
    · rename_i h0
      cases h
      rw [if_pos h0]
    · cases h
  · exact zjmp_app h
set_option maxHeartbeats 4000000 in
theorem zI_appL {q : Nat × zLs × List Value × zAW} (h : zI scr mi r pc ls st w d = some (.inl q)) (hl : q.2.2.2.length = w.length) : zI scr mi r pc ls st (w ++ G) d = some (.inl (q.1, q.2.1, q.2.2.1, q.2.2.2 ++ G)) := by
  unfold zI at h
  repeat' split at h
  all_goals first
    | (cases h; done)
    | (cases h; simp only [zI]; done)
    | (exact zbr_app h)
    | (exact zjmp_app h)
    | (exfalso; obtain ⟨rj, a, rest, fs, -, -, -, -, -, -, -, e⟩ := zcallV_some h; cases e)
    | (exfalso; obtain ⟨rj, -, -, -, -, -, -, e⟩ := zcallS_some h; cases e)
    | (cases h; rename_i h1; simp only [zI, h1]; done)
    | (cases h; rename_i h1; simp only [zI, h1, if_true]; done)
    | (cases h; rename_i h1; simp only [zI]; rw [if_pos h1]; done)
    | (cases h; rename_i h1; simp only [zI]; rw [if_neg h1]; done)
    | (cases h; rename_i h1 _ _ h2; simp only [zI, h1, zgf_app h2]; done)
    | (cases h; rename_i h1 h2 _ _ h3; simp only [zI, h1, h2, if_true, zpf_app h3]; done)
    | (cases h; rename_i h1; simp only [zI, zal_app h1]; done)
    | (cases h; rename_i h1; simp only [zI, zas_app h1]; done)
    | (cases h; rename_i h1; simp only [zI, zql_app h1]; done)
    | (cases h; rename_i h1; simp only [zI, zqs_app h1]; done)
    | (cases h; exfalso; dsimp only at hl; rw [List.length_append] at hl; simp at hl; done)
    | skip
  · rename_i h1 _ _ h2
    cases h
    simp only [zI, h2]
    rw [if_pos h1]
  · rename_i h1 _ _ _ h2
    cases h
    simp only [zI, h1]
    rw [if_pos h2]
  · rename_i h1 _ _ _ _ _ _ _ h2 _ _ h3
    cases h
    simp only [zI, h1, zcp_app h3]
    rw [if_pos h2]
  · rename_i h1 _ _ _ _ h2 h3
    cases h
    simp only [zI, h1]
    rw [if_pos h2, if_pos h3]
  · rename_i h1 _ _ _ _ h2 h3
    cases h
    simp only [zI, h1]
    rw [if_pos h2, if_neg h3]
  · rename_i h1 _ _ _ _ h2 h3
    cases h
    simp only [zI, h1]
    rw [if_pos h2, if_pos h3]
  · rename_i h1 _ _ _ _ h2 h3
    cases h
    simp only [zI, h1]
    rw [if_pos h2, if_neg h3]
  · rename_i h1 _ _ _ h2 h3
    cases h
    simp only [zI, h1]
    rw [if_pos h2, if_pos h3]
  · rename_i h1 _ _ _ h2 h3
    cases h
    simp only [zI, h1]
    rw [if_pos h2, if_neg h3]
  · rename_i h1
    simp only [zI]
    rw [if_pos h1]
    exact zjmp_app h
  · rename_i h1 _ _ h2
    simp only [zI, h2]
    rw [if_neg h1]
    exact zjmp_app h
  · rename_i h1
    simp only [zI]
    rw [if_pos h1]
    exact zjmp_app h
theorem zI_appC {q : Nat × List Value × zLs × List Value} (h : zI scr mi r pc ls st w d = some (.inr (.inl q))) : zI scr mi r pc ls st (w ++ G) d = some (.inr (.inl q)) := by
  rcases zI_call h with ⟨i, mj, rfl, h2, h3⟩ | ⟨i, mj, k, rfl, hk, h2, h3⟩ | ⟨i, mj, k, rfl, hk, h2, h3⟩
  · simp only [zI, h2]
    exact zcallV_app h3
  · rcases hk with rfl | rfl
    · simp only [zI, h2]
      exact zcallV_app h3
    · simp only [zI, h2]
      exact zcallV_app h3
  · rcases hk with rfl | rfl
    · simp only [zI, h2]
      exact h3
    · simp only [zI, h2]
      exact h3
theorem zI_appR {rv : Option Value} (h : zI scr mi r pc ls st w d = some (.inr (.inr rv))) : zI scr mi r pc ls st (w ++ G) d = some (.inr (.inr rv)) := by
  rcases zI_ret h with ⟨x, rfl, rfl, hz, rfl⟩ | ⟨rfl, rfl, hz, rfl⟩
  · simp only [zI, hz, if_true]
  · simp only [zI, hz, if_true]
theorem zx_app : ∀ (n : Nat) {mi pc : Nat} {ls : zLs} {st : List Value} {w : zAW} {rv : Option Value} {w' : zAW}, zx scr n mi pc ls st w = some (rv, w') → w'.length = w.length → zx scr n mi pc ls st (w ++ G) = some (rv, w' ++ G)
  | 0, _, _, _, _, _, _, _, h, _ => by cases h
  | n + 1, mi, pc, ls, st, w, rv, w', h, hl => by
    unfold zx at h ⊢
    split at h
    · cases h
    · rename_i r hr
      try rw [hr]
      try dsimp only
      split at h
      · cases h
      · rename_i d hd
        try rw [hd]
        try dsimp only
        split at h
        · cases h
        · rename_i q hq
          obtain ⟨pc1, ls1, st1, w1⟩ := q
          have h1 : w.length ≤ w1.length := (zI_mono hq).1
          have h2 : w1.length ≤ w'.length := (zx_mono n h).1
          have h3 : w1.length = w.length := by omega
          rw [zI_appL (G := G) hq h3]
          exact zx_app n h (hl.trans h3.symm)
        · rename_i q hq
          rw [zI_appC (G := G) hq]
          dsimp only
          split at h
          · cases h
          · rename_i rj hrj
            split at h
            · cases h
            · rename_i a ha
              obtain ⟨rv1, w1⟩ := a
              have h1 := (zx_mono n ha).1
              have h2 := (zx_mono n h).1
              dsimp only at h2
              rw [zx_app n ha (by omega)]
              exact zx_app n h (by omega)
        · rename_i rv1 hq
          rw [zI_appR (G := G) hq]
          cases h
          rfl
/-- a method's run that makes no cell, with more cells behind -/
theorem zC_app {mj : Nat} {as : List Value} {rv : Option Value} (h : zC scr mj as w = some (rv, w')) (hl : w'.length = w.length) : zC scr mj as (w ++ G) = some (rv, w' ++ G) := by
  unfold zC at h ⊢
  split at h
  · cases h
  · obtain ⟨n, hn⟩ := zd_iff.mp h
    exact zd_iff.mpr ⟨n, zx_app n hn hl⟩
end FR
