/-! what the calls answer and change -/
noncomputable def sel {α : Type} (P : Prop) (a b : α) : α := @ite α P (Classical.propDecidable P) a b
theorem sel_t {P : Prop} (h : P) {α : Type} (a b : α) : sel P a b = a := by unfold sel; rw [if_pos h]
theorem sel_f {P : Prop} (h : ¬ P) {α : Type} (a b : α) : sel P a b = b := by unfold sel; rw [if_neg h]
theorem sel_c {P P' : Prop} (h : P ↔ P') {α : Type} (a b : α) : sel P a b = sel P' a b := by
  by_cases q : P
  · rw [sel_t q, sel_t (h.mp q)]
  · rw [sel_f q, sel_f (fun z => q (h.mpr z))]
theorem sel_T {α : Type} (a b : α) : sel True a b = a := sel_t trivial a b
theorem sel_F {α : Type} (a b : α) : sel False a b = b := sel_f id a b
theorem nfs_le (x : Int32) : nfs x ≤ 1 := by unfold nfs; split <;> omega
theorem nfen_le (f : FN) : nfen f ≤ 3 := by
  have h0 := nfs_le (f 0)
  have h1 := nfs_le (f 1)
  have h2 := nfs_le (f 2)
  unfold nfen
  omega
def okC (c : Int32) : Prop := 3 ≤ c ∧ c ≤ 7
def inC (n : Nat) (c : Int32) : Prop := 0 ≤ c ∧ c < nI n
def okS (n : Nat) (c wt v : Int32) : Prop := inC n c ∧ (0 ≤ wt ∧ wt ≤ 2) ∧ (0 ≤ v ∧ v ≤ mostV wt)
def okE (x k v : Int32) : Prop := (0 ≤ x ∧ x ≤ 2) ∧ isEv k v
def tkF (fh : FN) : Nat → Nat → FN → Int32 → Int32 × FN
  | 0, _, fr, x => (x, fr)
  | m + 1, i, fr, x => tkF fh m (i + 1) (upd fr i (fh i)) (if fr i = fh i then x else x + 1)
noncomputable def manyE (ct : Nat → Nat) (x : Int32) : Int32 := sel (7 ≤ x ∧ x ≤ 9) (nI (ct (x - 7).toNatClampNeg)) (-1)
noncomputable def manyV (n : Nat) (fh fr : FN) (vs vb vd : Int32) (ct : Nat → Nat) (x : Int32) : Int32 :=
  sel (x = 0) (nI n) (sel (x = 1) vs (sel (x = 2) vb (sel (x = 3) vd (sel (x = 4) (sumH fh n 0 0) (sel (x = 5) (gMax fh n 0 0) (sel (x = 6) (nI (cntR fr 7 0 0)) (manyE ct x)))))))
theorem i32_c37 {x : Int32} (h : okC x) : ∃ j : Nat, (3 ≤ j ∧ j ≤ 7) ∧ x = nI j := by
  have h0 : ¬ x < 0 := fun q => by
    have h1 := h.1
    simp only [fa_lt, fa_le, i32_0, i32_3] at q h1
    omega
  obtain ⟨j, hj, rfl⟩ := nI_of h0
  exact ⟨j, ⟨(nq_le 3 j (by omega) hj).mp h.1, (nq_le j 7 hj (by omega)).mp h.2⟩, rfl⟩
theorem i32_m7 {x : Int32} (h : 7 ≤ x ∧ x ≤ 9) : ∃ j : Nat, j < 3 ∧ x - 7 = nI j := by
  have h0 : ¬ x < 0 := fun q => by
    have h1 := h.1
    simp only [fa_lt, fa_le, i32_0, i32_7] at q h1
    omega
  obtain ⟨j, hj, rfl⟩ := nI_of h0
  have h1 := (nq_le 7 j (by omega) hj).mp h.1
  have h2 := (nq_le j 9 hj (by omega)).mp h.2
  exact ⟨j - 7, by omega, pk_sub (a := j) (b := 7) h1⟩
theorem nI_cl {j : Nat} (h : j ≤ 20) : (nI j).toNatClampNeg = j := nI_clamp (by omega)
theorem i32_split3 {x : Int32} (h : 0 ≤ x ∧ x ≤ 2) : x = 0 ∨ x = 1 ∨ x = 2 := by
  obtain ⟨j, hj, rfl⟩ := i32_nat3 h
  rcases (show j = 0 ∨ j = 1 ∨ j = 2 by omega) with rfl | rfl | rfl
  · exact Or.inl rfl
  · exact Or.inr (Or.inl rfl)
  · exact Or.inr (Or.inr rfl)
theorem i32_split4 {x : Int32} (h : 0 ≤ x ∧ x ≤ 3) : x = 0 ∨ x = 1 ∨ x = 2 ∨ x = 3 := by
  have h0 : ¬ x < 0 := Int32.not_lt.mpr h.1
  obtain ⟨j, hj, rfl⟩ := nI_of h0
  have h2 := (nq_le j 3 hj (by omega)).mp h.2
  rcases (show j = 0 ∨ j = 1 ∨ j = 2 ∨ j = 3 by omega) with rfl | rfl | rfl | rfl
  · exact Or.inl rfl
  · exact Or.inr (Or.inl rfl)
  · exact Or.inr (Or.inr (Or.inl rfl))
  · exact Or.inr (Or.inr (Or.inr rfl))
theorem out06 {x : Int32} (h0 : ¬ x = 0) (h1 : ¬ x = 1) (h2 : ¬ x = 2) (h3 : ¬ x = 3) (h4 : ¬ x = 4) (h5 : ¬ x = 5) (h6 : ¬ x = 6) : x.toInt < 0 ∨ 6 < x.toInt := by
  have i6 : (6 : Int32).toInt = 6 := by decide
  simp only [fa_eq, i32_0, i32_1, i32_2, i32_3, i32_4, i32_5, i6] at h0 h1 h2 h3 h4 h5 h6
  omega
