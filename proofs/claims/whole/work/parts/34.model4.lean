theorem ev_a {k v : Int32} (h : 0 ≤ k ∧ k ≤ 2) (h2 : 2 ≤ k) : isEv k v := Or.inr (Or.inr (Int32.le_antisymm h.2 h2))
theorem ev_b {k v : Int32} (h : 0 ≤ k ∧ k ≤ 2) (h2 : ¬ 2 ≤ k) (h3 : 1 ≤ v ∧ v ≤ if k = 0 then 9 else 99) : isEv k v := by
  unfold isEv
  by_cases q : k = 0
  · rw [if_pos q] at h3; exact Or.inl ⟨q, h3⟩
  · rw [if_neg q] at h3
    refine Or.inr (Or.inl ⟨?_, h3⟩)
    simp only [fa_le, fa_eq, i32_0, i32_1, i32_2] at h h2 q ⊢
    omega
theorem ev_n {k v : Int32} (h : ¬ (0 ≤ k ∧ k ≤ 2)) : ¬ isEv k v := by
  unfold isEv
  simp only [fa_le, fa_eq, i32_0, i32_1, i32_2] at h ⊢
  omega
theorem ev_m {k v : Int32} (h2 : ¬ 2 ≤ k) (h3 : ¬ (1 ≤ v ∧ v ≤ if k = 0 then 9 else 99)) : ¬ isEv k v := by
  intro hz
  rcases hz with ⟨q, z⟩ | ⟨q, z⟩ | q
  · rw [if_pos q] at h3; exact h3 z
  · rw [if_neg (by rw [q]; decide)] at h3; exact h3 z
  · exact h2 (by rw [q]; exact Int32.le_refl 2)
theorem cl_lt (x : Int32) : x.toNatClampNeg < 2147483648 := by
  by_cases h : x < 0
  · have h2 : x.toInt < 0 := (fa_lt x 0).mp h
    have h3 : x.toNatClampNeg = x.toInt.toNat := rfl
    rw [h3]
    omega
  · obtain ⟨j, hj, rfl⟩ := nI_of h
    rw [nI_clamp hj]; exact hj
theorem out09 {x : Int32} (h0 : ¬ x = 0) (h1 : ¬ x = 1) (h2 : ¬ x = 2) (h3 : ¬ x = 3) (h4 : ¬ x = 4) (h5 : ¬ x = 5) (h6 : ¬ x = 6) (h7 : ¬ x = 7) (h8 : ¬ x = 8) (h9 : ¬ x = 9) : x.toInt < 0 ∨ 9 < x.toInt := by
  have i6 : (6 : Int32).toInt = 6 := by decide
  have i8 : (8 : Int32).toInt = 8 := by decide
  simp only [fa_eq, i32_0, i32_1, i32_2, i32_3, i32_4, i32_5, i6, i32_7, i8, i32_9] at h0 h1 h2 h3 h4 h5 h6 h7 h8 h9
  omega
theorem manyE_k {ct : Nat → Nat} {x : Int32} (k : Nat) (hk : k < 3) (h : x = nI (7 + k)) : nI (ct k) = manyE ct x := by
  subst h
  unfold manyE
  rw [sel_t ⟨(nq_le 7 (7 + k) (by omega) (by omega)).mpr (by omega), (nq_le (7 + k) 9 (by omega) (by omega)).mpr (by omega)⟩]
  rw [show nI (7 + k) - 7 = nI k from (pk_sub (a := 7 + k) (b := 7) (by omega)).trans (by rw [show 7 + k - 7 = k by omega]), nI_cl (show k ≤ 20 by omega)]
theorem manyE_n {ct : Nat → Nat} {x : Int32} (h : x.toInt < 0 ∨ 9 < x.toInt) (h0 : x.toInt < 0 ∨ 6 < x.toInt) : -1 = manyE ct x := by
  unfold manyE
  rw [sel_f (fun q => by
    have q1 := q.1
    have q2 := q.2
    simp only [fa_le, i32_7, i32_9] at q1 q2
    omega)]
