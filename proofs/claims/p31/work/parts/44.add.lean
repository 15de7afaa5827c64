section TX
variable {A B : Nat → Nat → Nat} {p q h : Nat} {scr : List Int32}
theorem ad_st {x i : Nat} : zadd1 A p x (p + 3) i = if i = 7 then A (p + 3) 7 + 1 else A (p + 3) i := by
  simp only [zadd1, up, true_and]
  by_cases h : i = 7
  · rw [if_pos h, if_pos h]
  · rw [if_neg h, if_neg h, if_neg (by omega)]
theorem ad_off {x c i : Nat} (h2 : c ≠ p + 2) (h3 : c ≠ p + 3) : zadd1 A p x c i = A c i := by
  simp only [zadd1, up]
  rw [if_neg (by omega), if_neg (by omega)]
theorem ad_mo {x : Nat} (hm : zmo A p) (h : A (p + 3) 7 < 120) : zmo (zadd1 A p x) p := by
  refine ⟨fun j hj => ?_, ?_⟩
  · rw [ad_st, ad_st, if_neg (by omega)]
    have := hm.1 j hj
    split
    · have e : A (p + 3) (j + 1) = A (p + 3) 7 := by rw [show j + 1 = 7 by omega]
      omega
    · exact this
  · rw [ad_st, if_pos rfl]; omega
theorem ad_cnt {x : Nat} (hm : zmo A p) : zcnt (zadd1 A p x) p 6 = zcnt A p 6 + 1 := by
  have := hm.1 6 (by omega)
  show zadd1 A p x (p + 3) 7 - zadd1 A p x (p + 3) 6 = A (p + 3) 7 - A (p + 3) 6 + 1
  rw [ad_st, ad_st, if_pos rfl, if_neg (by omega)]
  have e : A (p + 3) (6 + 1) = A (p + 3) 7 := rfl
  omega
end TX
