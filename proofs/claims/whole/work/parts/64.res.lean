/-! plans and surveys: one answer -/
section RES
variable {n : Nat} {fh fg ff fk : FN} {vs vb vd fz : Int32} {ct : Nat → Nat} {kd vl : Nat → FN} {fr : FN} {isv kn : Int32} {zn : Nat} {zh zg zf : FN}
theorem r_plan (h : LI n fh fg ff fz ct kd vl fr isv kn zn zh zg zf) {aim yr r1 r2 : Int32} (h1 : (¬ ((0 ≤ aim ∧ aim ≤ 99) ∧ 0 ≤ yr ∧ yr ≤ 2) → r1 = -1) ∧ (((0 ≤ aim ∧ aim ≤ 99) ∧ 0 ≤ yr ∧ yr ≤ 2) → (∃ w cd, w ≤ 3 ∧ cd < 512 ∧ gdP n (lastY ct kd) ct (crW phc psc nuc n fz ct kd vl fh fg ff fk vs vb) (flW phc psc nuc n fz ct kd vl fh fg ff fk vs vb) aim w cd ∧ (∀ w2 c2, c2 < 512 → w2 < w ∨ (w2 = w ∧ c2 < cd) → ¬ gdP n (lastY ct kd) ct (crW phc psc nuc n fz ct kd vl fh fg ff fk vs vb) (flW phc psc nuc n fz ct kd vl fh fg ff fk vs vb) aim w2 c2) ∧ r1 = sel (dcd cd yr.toNatClampNeg = -1) (-3) (dcd cd yr.toNatClampNeg)) ∨ ((∀ w2 c2, w2 ≤ 3 → c2 < 512 → ¬ gdP n (lastY ct kd) ct (crW phc psc nuc n fz ct kd vl fh fg ff fk vs vb) (flW phc psc nuc n fz ct kd vl fh fg ff fk vs vb) aim w2 c2) ∧ r1 = -3))) (h2 : (¬ ((0 ≤ aim ∧ aim ≤ 99) ∧ 0 ≤ yr ∧ yr ≤ 2) → r2 = -1) ∧ (((0 ≤ aim ∧ aim ≤ 99) ∧ 0 ≤ yr ∧ yr ≤ 2) → (∃ b2, b2 < (n + 1) * (n + 1) * (n + 1) ∧ (aim ≤ hld ct (crW phm psm num n fz ct kd vl fh fg ff fk vs vb (lyp n b2)) (flW phm psm num n fz ct kd vl fh fg ff fk vs vb (lyp n b2))) ∧ (∀ k, k < (n + 1) * (n + 1) * (n + 1) → (aim ≤ hld ct (crW phm psm num n fz ct kd vl fh fg ff fk vs vb (lyp n k)) (flW phm psm num n fz ct kd vl fh fg ff fk vs vb (lyp n k))) → mny n b2 ≤ mny n k) ∧ (∀ k, k < b2 → (aim ≤ hld ct (crW phm psm num n fz ct kd vl fh fg ff fk vs vb (lyp n k)) (flW phm psm num n fz ct kd vl fh fg ff fk vs vb (lyp n k))) → mny n b2 < mny n k) ∧ r2 = sel (lyp n b2 yr.toNatClampNeg < 0) (-3) (lyp n b2 yr.toNatClampNeg)) ∨ ((∀ k, k < (n + 1) * (n + 1) * (n + 1) → ¬ (aim ≤ hld ct (crW phm psm num n fz ct kd vl fh fg ff fk vs vb (lyp n k)) (flW phm psm num n fz ct kd vl fh fg ff fk vs vb (lyp n k)))) ∧ r2 = -3))) : r1 = r2 := by
  by_cases hA : ((0 ≤ aim ∧ aim ≤ 99) ∧ 0 ≤ yr ∧ yr ≤ 2)
  · have h1 := h1.2 hA
    have h2 := h2.2 hA
    rw [cr_same h fk vs vb, fl_same h fk vs vb] at h1
    have hy : yr.toNatClampNeg < 3 := by
      obtain ⟨j, hj, e⟩ := i32_nat3 hA.2
      rw [e, nI_clamp (show j < 2 ^ 31 by omega)]
      omega
    generalize yr.toNatClampNeg = y at h1 h2 hy
    rcases plan_core h.1.1 h.1.2 hA.1.1 hA.1.2 (fun fp fp' hz => hld_ag h.2.2.2.2.2.2.1 fp fp' hz) (C := fun w cd => r1 = sel (dcd cd y = -1) (-3) (dcd cd y)) (C2 := fun b2 => r2 = sel (lyp n b2 y < 0) (-3) (lyp n b2 y)) (D1 := r1 = -3) (D2 := r2 = -3) h1 h2 with ⟨w, cd, b2, e1, e2, ok, eb, em⟩ | ⟨e1, e2⟩
    · have e2 : r2 = sel (lyp n b2 y < 0) (-3) (lyp n b2 y) := e2
      have e1 : r1 = sel (dcd cd y = -1) (-3) (dcd cd y) := e1
      rw [eb, lyp_kOf h.1.1 h.1.2 ok y hy, sel_c (dcd_neg cd y)] at e2
      rw [e1, e2]
    · rw [e1, e2]
  · rw [h1.1 hA, h2.1 hA]
theorem r_fences (h : LI n fh fg ff fz ct kd vl fr isv kn zn zh zg zf) {aim r1 r2 : Int32} (h1 : (¬ (0 ≤ aim ∧ aim ≤ 99) → r1 = -1) ∧ ((0 ≤ aim ∧ aim ≤ 99) → (∃ w cd, w ≤ 3 ∧ cd < 512 ∧ gdP n (lastY ct kd) ct (crW phc psc nuc n fz ct kd vl fh fg ff fk vs vb) (flW phc psc nuc n fz ct kd vl fh fg ff fk vs vb) aim w cd ∧ (∀ w2 c2, c2 < 512 → w2 < w ∨ (w2 = w ∧ c2 < cd) → ¬ gdP n (lastY ct kd) ct (crW phc psc nuc n fz ct kd vl fh fg ff fk vs vb) (flW phc psc nuc n fz ct kd vl fh fg ff fk vs vb) aim w2 c2) ∧ r1 = nI w) ∨ ((∀ w2 c2, w2 ≤ 3 → c2 < 512 → ¬ gdP n (lastY ct kd) ct (crW phc psc nuc n fz ct kd vl fh fg ff fk vs vb) (flW phc psc nuc n fz ct kd vl fh fg ff fk vs vb) aim w2 c2) ∧ r1 = -3))) (h2 : (¬ (0 ≤ aim ∧ aim ≤ 99) → r2 = -1) ∧ ((0 ≤ aim ∧ aim ≤ 99) → (∃ b2, b2 < (n + 1) * (n + 1) * (n + 1) ∧ (aim ≤ hld ct (crW phm psm num n fz ct kd vl fh fg ff fk vs vb (lyp n b2)) (flW phm psm num n fz ct kd vl fh fg ff fk vs vb (lyp n b2))) ∧ (∀ k, k < (n + 1) * (n + 1) * (n + 1) → (aim ≤ hld ct (crW phm psm num n fz ct kd vl fh fg ff fk vs vb (lyp n k)) (flW phm psm num n fz ct kd vl fh fg ff fk vs vb (lyp n k))) → mny n b2 ≤ mny n k) ∧ (∀ k, k < b2 → (aim ≤ hld ct (crW phm psm num n fz ct kd vl fh fg ff fk vs vb (lyp n k)) (flW phm psm num n fz ct kd vl fh fg ff fk vs vb (lyp n k))) → mny n b2 < mny n k) ∧ r2 = nI (mny n b2)) ∨ ((∀ k, k < (n + 1) * (n + 1) * (n + 1) → ¬ (aim ≤ hld ct (crW phm psm num n fz ct kd vl fh fg ff fk vs vb (lyp n k)) (flW phm psm num n fz ct kd vl fh fg ff fk vs vb (lyp n k)))) ∧ r2 = -3))) : r1 = r2 := by
  by_cases hA : (0 ≤ aim ∧ aim ≤ 99)
  · have h1 := h1.2 hA
    have h2 := h2.2 hA
    rw [cr_same h fk vs vb, fl_same h fk vs vb] at h1
    rcases plan_core h.1.1 h.1.2 hA.1 hA.2 (fun fp fp' hz => hld_ag h.2.2.2.2.2.2.1 fp fp' hz) (C := fun w cd => r1 = nI w) (C2 := fun b2 => r2 = nI (mny n b2)) (D1 := r1 = -3) (D2 := r2 = -3) h1 h2 with ⟨w, cd, b2, e1, e2, ok, eb, em⟩ | ⟨e1, e2⟩
    · have e2 : r2 = nI (mny n b2) := e2
      have e1 : r1 = nI w := e1
      rw [e1, e2, em]
    · rw [e1, e2]
  · rw [h1.1 hA, h2.1 hA]
theorem ex_rd (h1 : 1 ≤ cntM fr n 0 0) : ∃ k, k < n ∧ ¬ fr k < 0 := by
  obtain ⟨k, -, h2, h3⟩ := cntM_1 fr n 0 0 (by omega)
  exact ⟨k, by omega, h3⟩
theorem h_lev (h : LI n fh fg ff fz ct kd vl fr isv kn zn zh zg zf) : ∀ j, j < n → (∃ k, k < n ∧ ¬ fr k < 0) → ¬ mLev fr n j < 0 := fun j hj hx => by
  obtain ⟨-, a, ha, e⟩ := lev_same h.1.2 (MS_all h.1.2 h.2.2.2.2.2.2.2.1) hj hx
  rw [e]
  exact nI_pos (by omega)
theorem h_vol (h : LI n fh fg ff fz ct kd vl fr isv kn zn zh zg zf) : (∃ k, k < n ∧ ¬ fr k < 0) → ¬ mVol fr n n 0 0 < 0 := fun hx => by
  obtain ⟨-, a, ha, e⟩ := vol0 h.1.2 (MS_all h.1.2 h.2.2.2.2.2.2.2.1) hx
  rw [e]
  exact nI_pos (by omega)
theorem h_dbt (h : LI n fh fg ff fz ct kd vl fr isv kn zn zh zg zf) : 2 ≤ cntM fr n 0 0 → ¬ mDbt fr n (mVol fr n n 0 0) n 0 0 < 0 := fun h2 => by
  obtain ⟨-, a, ha, e⟩ := vol0 h.1.2 (MS_all h.1.2 h.2.2.2.2.2.2.2.1) (ex_rd (by omega))
  rw [e]
  obtain ⟨-, y, hy, e2⟩ := dbt_same h.1.2 h.2.2.2.2.2.2.2.1 h2 ha n 0 0 (by omega) (by omega)
  have e2 : mDbt fr n (nI a) n 0 0 = nI y := e2
  rw [e2]
  exact nI_pos (by omega)
theorem r_level (h : LI n fh fg ff fz ct kd vl fr isv kn zn zh zg zf) (x wt : Int32) : sel (inC n x ∧ 0 ≤ wt ∧ wt ≤ 1) (sel (1 ≤ cntR fr 7 0 0) (clr (sLev fr n (-1) x.toNatClampNeg) wt 60) (-3)) (-1) = sel (inC n x ∧ 0 ≤ wt ∧ wt ≤ 1) (sel (cntM fr n 0 0 = 0) (-3) (prt (mLev fr n x.toNatClampNeg).toNatClampNeg wt)) (-1) := by
  by_cases hA : inC n x ∧ 0 ≤ wt ∧ wt ≤ 1
  · rw [sel_t hA, sel_t hA, ← cnt_same h.1.2 h.2.2.2.2.2.2.2.1]
    by_cases hc : 1 ≤ cntM fr n 0 0
    · rw [sel_t hc, sel_f (show ¬ cntM fr n 0 0 = 0 by omega)]
      obtain ⟨e1, a, ha, e⟩ := lev_same h.1.2 (MS_all h.1.2 h.2.2.2.2.2.2.2.1) (inC_lt h.1.2 hA.1) (ex_rd hc)
      rw [e1, e, nI_clamp (show a < 2 ^ 31 by omega), clr_60 (by omega)]
    · rw [sel_f hc, sel_t (show cntM fr n 0 0 = 0 by omega)]
  · rw [sel_f hA, sel_f hA]
theorem r_volume (h : LI n fh fg ff fz ct kd vl fr isv kn zn zh zg zf) (wt : Int32) : sel (0 ≤ wt ∧ wt ≤ 1) (sel (1 ≤ cntR fr 7 0 0) (clr (sVol fr n (-1) n 0 0) wt 60) (-3)) (-1) = sel (0 ≤ wt ∧ wt ≤ 1) (sel (cntM fr n 0 0 = 0) (-3) (prt (mVol fr n n 0 0).toNatClampNeg wt)) (-1) := by
  by_cases hA : 0 ≤ wt ∧ wt ≤ 1
  · rw [sel_t hA, sel_t hA, ← cnt_same h.1.2 h.2.2.2.2.2.2.2.1]
    by_cases hc : 1 ≤ cntM fr n 0 0
    · rw [sel_t hc, sel_f (show ¬ cntM fr n 0 0 = 0 by omega)]
      obtain ⟨e1, a, ha, e⟩ := vol0 h.1.2 (MS_all h.1.2 h.2.2.2.2.2.2.2.1) (ex_rd hc)
      rw [e1, e, nI_clamp (show a < 2 ^ 31 by omega), clr_60 (by omega)]
    · rw [sel_f hc, sel_t (show cntM fr n 0 0 = 0 by omega)]
  · rw [sel_f hA, sel_f hA]
theorem r_doubt (h : LI n fh fg ff fz ct kd vl fr isv kn zn zh zg zf) (wt : Int32) : sel (0 ≤ wt ∧ wt ≤ 1) (sel (2 ≤ cntR fr 7 0 0) (clr (sDbt fr n (sVol fr n (-1) n 0 0) n 0 0) wt 60) (-3)) (-1) = sel (0 ≤ wt ∧ wt ≤ 1) (sel (2 ≤ cntM fr n 0 0) (prt (mDbt fr n (mVol fr n n 0 0) n 0 0).toNatClampNeg wt) (-3)) (-1) := by
  by_cases hA : 0 ≤ wt ∧ wt ≤ 1
  · rw [sel_t hA, sel_t hA, ← cnt_same h.1.2 h.2.2.2.2.2.2.2.1]
    by_cases hc : 2 ≤ cntM fr n 0 0
    · rw [sel_t hc, sel_t hc]
      obtain ⟨e1, a, ha, e⟩ := vol0 h.1.2 (MS_all h.1.2 h.2.2.2.2.2.2.2.1) (ex_rd (by omega))
      rw [e1, e]
      obtain ⟨d1, y, hy, d2⟩ := dbt_same h.1.2 h.2.2.2.2.2.2.2.1 hc ha n 0 0 (by omega) (by omega)
      have d1 : sDbt fr n (nI a) n 0 0 = mDbt fr n (nI a) n 0 0 := d1
      have d2 : mDbt fr n (nI a) n 0 0 = nI y := d2
      rw [d1, d2, nI_clamp (show y < 2 ^ 31 by omega), clr_60 (by omega)]
    · rw [sel_f hc, sel_f hc]
  · rw [sel_f hA, sel_f hA]
end RES
