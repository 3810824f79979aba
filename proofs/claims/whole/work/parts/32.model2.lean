theorem f3_c0 {a a' b c : FN} (h : ∀ j, j < 7 → a j = a' j) : ∀ j, j < 21 → f3 a b c j = f3 a' b c j := by
  intro j hj
  unfold f3
  by_cases h7 : j < 7
  · rw [if_pos h7, if_pos h7, h j h7]
  · rw [if_neg h7, if_neg h7]
theorem f3_c1 {a b b' c : FN} (h : ∀ j, j < 7 → b j = b' j) : ∀ j, j < 21 → f3 a b c j = f3 a b' c j := by
  intro j hj
  unfold f3
  by_cases h7 : j < 7
  · rw [if_pos h7, if_pos h7]
  · rw [if_neg h7, if_neg h7]
    by_cases h14 : j < 14
    · rw [if_pos h14, if_pos h14, h (j - 7) (by omega)]
    · rw [if_neg h14, if_neg h14]
theorem f3_c2 {a b c c' : FN} (h : ∀ j, j < 7 → c j = c' j) : ∀ j, j < 21 → f3 a b c j = f3 a b c' j := by
  intro j hj
  unfold f3
  by_cases h7 : j < 7
  · rw [if_pos h7, if_pos h7]
  · rw [if_neg h7, if_neg h7]
    by_cases h14 : j < 14
    · rw [if_pos h14, if_pos h14]
    · rw [if_neg h14, if_neg h14, h (j - 14) (by omega)]
theorem idx14 {x : Int32} (h : ¬ x < 0) : 14 + x = nI (14 + x.toNatClampNeg) := by
  obtain ⟨j, hj, rfl⟩ := nI_of h
  rw [nI_clamp hj]
  exact nI_add 14 j
theorem p3_ce {n : Nat} {a b c : Int32} (ha : ceN n a) (hb : ceN n b) (hc : ceN n c) : ∀ y, y < 3 → ceN n (p3 a b c y) := by
  intro y hy
  rcases (show y = 0 ∨ y = 1 ∨ y = 2 by omega) with rfl | rfl | rfl
  · exact ha
  · exact hb
  · exact hc
theorem ld_ce {n c : Nat} (hn : n ≤ 7) : ceN n (ld n c) := by
  unfold ld
  by_cases h : c < n
  · rw [if_pos h]; exact Or.inr ⟨nI_pos' (by omega), (nq_lt c n (by omega) (by omega)).mpr h⟩
  · rw [if_neg h]; exact Or.inl rfl
theorem lyp_ce {n k : Nat} (hn : n ≤ 7) : ∀ y, y < 3 → ceN n (lyp n k y) := p3_ce (ld_ce hn) (ld_ce hn) (ld_ce hn)
theorem N3_le {n : Nat} (hn : n ≤ 7) : (n + 1) * (n + 1) * (n + 1) ≤ 512 := by
  have h1 : (n + 1) * (n + 1) ≤ 8 * 8 := Nat.mul_le_mul (by omega) (by omega)
  exact Nat.le_trans (Nat.mul_le_mul h1 (show n + 1 ≤ 8 by omega)) (by omega)
theorem jmin_l {x y : Int32} (h : x ≤ y) : x = jmin x y := by unfold jmin; rw [if_neg (Int32.not_lt.mpr h)]
theorem jmin_r {x y : Int32} (h : ¬ x ≤ y) : y = jmin x y := by unfold jmin; rw [if_pos (Int32.not_le.mp h)]
