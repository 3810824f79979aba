/-! class and reference move sand alike, while heights, grass and fences lie in their bounds -/
theorem fb_bmod {z : Int} (h1 : -2147483648 ≤ z) (h2 : z < 2147483648) : z.bmod (2 ^ 32) = z := Int.bmod_eq_of_le (by omega) (by omega)
theorem tI_add {x y : Int32} (h1 : -2147483648 ≤ x.toInt + y.toInt) (h2 : x.toInt + y.toInt < 2147483648) : (x + y).toInt = x.toInt + y.toInt := by rw [Int32.toInt_add, fb_bmod h1 h2]
theorem tI_sub {x y : Int32} (h1 : -2147483648 ≤ x.toInt - y.toInt) (h2 : x.toInt - y.toInt < 2147483648) : (x - y).toInt = x.toInt - y.toInt := by rw [Int32.toInt_sub, fb_bmod h1 h2]
theorem tI_mul {x y : Int32} (h1 : -2147483648 ≤ x.toInt * y.toInt) (h2 : x.toInt * y.toInt < 2147483648) : (x * y).toInt = x.toInt * y.toInt := by rw [Int32.toInt_mul, fb_bmod h1 h2]
def bet (lo hi : Int) (x : Int32) : Prop := lo ≤ x.toInt ∧ x.toInt ≤ hi
theorem bet_nI {hi : Nat} {x : Int32} (h : bet 0 hi x) : ∃ k : Nat, k ≤ hi ∧ x = nI k := by
  obtain ⟨h1, h2⟩ := h
  have h0 : ¬ x < 0 := fun q => by
    have q2 := (fa_lt x 0).mp q
    rw [i32_0] at q2
    omega
  obtain ⟨k, hk, rfl⟩ := nI_of h0
  rw [nI_toInt hk] at h2
  exact ⟨k, by omega, rfl⟩
theorem nI_bet {hi k : Nat} (h : k ≤ hi) (hb : hi < 2147483648) : bet 0 hi (nI k) := by
  unfold bet
  rw [nI_toInt (by omega)]
  omega
theorem jmin_tI (x y : Int32) : (jmin x y).toInt = if y.toInt < x.toInt then y.toInt else x.toInt := by
  unfold jmin
  by_cases h : y < x
  · rw [if_pos h, if_pos ((fa_lt _ _).mp h)]
  · rw [if_neg h, if_neg (fun q => h ((fa_lt _ _).mpr q))]
theorem jmax_tI (x y : Int32) : (jmax x y).toInt = if x.toInt < y.toInt then y.toInt else x.toInt := by
  unfold jmax
  by_cases h : x < y
  · rw [if_pos h, if_pos ((fa_lt _ _).mp h)]
  · rw [if_neg h, if_neg (fun q => h ((fa_lt _ _).mpr q))]
theorem phm_tI {v o : Int32} (hv : bet 0 99 v) (ho : bet 0 99 o) : (phm v o).toInt = if o.toInt < v.toInt then v.toInt - o.toInt else 0 := by
  unfold phm
  obtain ⟨h1, h2⟩ := hv
  obtain ⟨h3, h4⟩ := ho
  by_cases h : o < v
  · rw [if_pos h, if_pos ((fa_lt _ _).mp h), tI_sub (by omega) (by omega)]
  · rw [if_neg h, if_neg (fun q => h ((fa_lt _ _).mpr q)), i32_0]
theorem phc_tI {v o : Int32} (hv : bet 0 99 v) (ho : bet 0 99 o) : (phc v o).toInt = if o.toInt < v.toInt then v.toInt - o.toInt else 0 := by
  unfold phc
  obtain ⟨h1, h2⟩ := hv
  obtain ⟨h3, h4⟩ := ho
  rw [jmax_tI, i32_0, tI_sub (by omega) (by omega)]
  split <;> split <;> omega
theorem ph_eq {v o : Int32} (hv : bet 0 99 v) (ho : bet 0 99 o) : phc v o = phm v o := (fa_eq _ _).mpr (by rw [phc_tI hv ho, phm_tI hv ho])
theorem ps_eq {w g : Int32} (hw : bet 0 99 w) (hg : bet 0 99 g) : psc w g = psm w g := ph_eq hw hg
def GC (fh fg ff : FN) : Prop := ∀ j, j < 7 → bet 0 99 (fh j) ∧ bet 0 9 (fg j) ∧ bet 0 20 (ff j)
theorem held_b {fh fg ff : FN} {j : Nat} {x : Int32} (hG : GC fh fg ff) (hj : j < 7) (hx : bet 0 9 x) : bet 0 9 (heldv fh fg ff j x) ∧ (heldv fh fg ff j x).toInt ≤ x.toInt ∧ (heldv fh fg ff j x).toInt ≤ 1 + 2 * (fg j).toInt + (ff j).toInt ∧ (heldv fh fg ff j x).toInt ≤ 99 - (fh j).toInt ∧ (1 + 2 * fg j : Int32).toInt = 1 + 2 * (fg j).toInt := by
  obtain ⟨⟨h1, h2⟩, ⟨h3, h4⟩, ⟨h5, h6⟩⟩ := hG j hj
  obtain ⟨h7, h8⟩ := hx
  have e1 : (2 * fg j : Int32).toInt = 2 * (fg j).toInt := by rw [tI_mul (by rw [i32_2]; omega) (by rw [i32_2]; omega), i32_2]
  have e2 : (1 + 2 * fg j : Int32).toInt = 1 + 2 * (fg j).toInt := by rw [tI_add (by rw [i32_1, e1]; omega) (by rw [i32_1, e1]; omega), i32_1, e1]
  have e3 : (1 + 2 * fg j + ff j : Int32).toInt = 1 + 2 * (fg j).toInt + (ff j).toInt := by rw [tI_add (by rw [e2]; omega) (by rw [e2]; omega), e2]
  have e4 : (99 - fh j : Int32).toInt = 99 - (fh j).toInt := by rw [tI_sub (by rw [i32_99]; omega) (by rw [i32_99]; omega), i32_99]
  have e5 : (heldv fh fg ff j x).toInt = if (if 99 - (fh j).toInt < 1 + 2 * (fg j).toInt + (ff j).toInt then 99 - (fh j).toInt else 1 + 2 * (fg j).toInt + (ff j).toInt) < x.toInt then (if 99 - (fh j).toInt < 1 + 2 * (fg j).toInt + (ff j).toInt then 99 - (fh j).toInt else 1 + 2 * (fg j).toInt + (ff j).toInt) else x.toInt := by
    unfold heldv
    rw [jmin_tI, jmin_tI, e3, e4]
  unfold bet
  rw [e5]
  refine ⟨⟨?_, ?_⟩, ?_, ?_, ?_, e2⟩ <;> (split <;> (try split) <;> omega)
theorem upd_at (f : FN) (i : Nat) (v : Int32) (j : Nat) : upd f i v j = if j = i then v else f j := rfl
theorem step_ok {fh fg ff : FN} {j : Nat} {x : Int32} (hG : GC fh fg ff) (hj : j < 7) (hx : bet 0 9 x) : phc (heldv fh fg ff j x) (1 + 2 * fg j) = phm (heldv fh fg ff j x) (1 + 2 * fg j) ∧ GC (upd fh j (fh j + heldv fh fg ff j x)) fg (upd ff j (ff j - phm (heldv fh fg ff j x) (1 + 2 * fg j))) ∧ bet 0 9 (x - heldv fh fg ff j x) := by
  obtain ⟨⟨a1, a2⟩, a3, a4, a5, a6⟩ := held_b hG hj hx
  obtain ⟨⟨h1, h2⟩, ⟨h3, h4⟩, ⟨h5, h6⟩⟩ := hG j hj
  obtain ⟨h7, h8⟩ := hx
  generalize heldv fh fg ff j x = v at a1 a2 a3 a4 a5 ⊢
  generalize (1 + 2 * fg j : Int32) = o at a6 ⊢
  have hv : bet 0 99 v := ⟨a1, by omega⟩
  have ho : bet 0 99 o := ⟨by omega, by omega⟩
  have e1 := phm_tI hv ho
  refine ⟨ph_eq hv ho, fun i hi => ?_, ⟨?_, ?_⟩⟩
  · rw [upd_at, upd_at]
    by_cases hij : i = j
    · rw [if_pos hij, if_pos hij]
      subst hij
      refine ⟨⟨?_, ?_⟩, ⟨h3, h4⟩, ⟨?_, ?_⟩⟩
      · rw [tI_add (by omega) (by omega)]; omega
      · rw [tI_add (by omega) (by omega)]; omega
      · rw [tI_sub (by rw [e1]; split <;> omega) (by rw [e1]; split <;> omega), e1]; split <;> omega
      · rw [tI_sub (by rw [e1]; split <;> omega) (by rw [e1]; split <;> omega), e1]; split <;> omega
    · rw [if_neg hij, if_neg hij]
      exact hG i hi
  · rw [tI_sub (by omega) (by omega)]; omega
  · rw [tI_sub (by omega) (by omega)]; omega
theorem held_0 {fh fg ff : FN} {j : Nat} {x : Int32} (hG : GC fh fg ff) (hj : j < 7) (h : x.toInt = 0) : heldv fh fg ff j x = 0 ∧ phm 0 (1 + 2 * fg j) = 0 := by
  obtain ⟨⟨a1, a2⟩, a3, a4, a5, a6⟩ := held_b hG hj (x := x) ⟨by omega, by omega⟩
  obtain ⟨-, ⟨h3, h4⟩, -⟩ := hG j hj
  refine ⟨(fa_eq _ _).mpr (by rw [i32_0]; omega), if_neg (fun q => ?_)⟩
  have q2 := (fa_lt _ _).mp q
  rw [i32_0] at q2
  omega
theorem upd_same (f : FN) (j : Nat) : upd f j (f j) = f := by
  funext i
  rw [upd_at]
  by_cases h : i = j
  · rw [if_pos h, h]
  · rw [if_neg h]
/-- where nothing is left the reference's cells keep nothing -/
theorem bIn_m0 (fg : FN) : ∀ (m j : Nat) (fh ff fk : FN) (x : Int32), j + m ≤ 7 → GC fh fg ff → x.toInt = 0 → bIn phm fg m j fh ff fk x = (fh, ff, fk, x)
  | 0, j, fh, ff, fk, x, _, _, _ => by rw [bIn]
  | m + 1, j, fh, ff, fk, x, hj, hG, hx => by
    obtain ⟨s1, s2⟩ := held_0 hG (show j < 7 by omega) hx
    rw [bIn_m, s1, s2, Int32.add_zero, Int32.add_zero, Int32.sub_zero, Int32.sub_zero, upd_same, upd_same, upd_same]
    exact bIn_m0 fg m (j + 1) fh ff fk x (by omega) hG hx
theorem bIn_eq (fg : FN) : ∀ (m j : Nat) (fh ff fk : FN) (x : Int32), j + m ≤ 7 → GC fh fg ff → bet 0 9 x → bIn phc fg m j fh ff fk x = bIn phm fg m j fh ff fk x ∧ GC (bIn phm fg m j fh ff fk x).1 fg (bIn phm fg m j fh ff fk x).2.1 ∧ bet 0 9 (bIn phm fg m j fh ff fk x).2.2.2
  | 0, j, fh, ff, fk, x, _, hG, hx => ⟨by rw [bIn, bIn], hG, hx⟩
  | m + 1, j, fh, ff, fk, x, hj, hG, hx => by
    obtain ⟨s1, s2, s3⟩ := step_ok hG (show j < 7 by omega) hx
    have ih := bIn_eq fg m (j + 1) _ _ (upd fk j (fk j + heldv fh fg ff j x)) _ (by omega) s2 s3
    rw [← bIn_m] at ih
    refine ⟨?_, ih.2⟩
    by_cases h : x ≤ 0
    · have h2 := (fa_le _ _).mp h
      rw [i32_0] at h2
      rw [bIn_0 _ _ _ _ _ _ h]
      exact (bIn_m0 fg (m + 1) j fh ff fk x hj hG (by obtain ⟨q1, -⟩ := hx; omega)).symm
    · rw [bIn_c _ _ _ _ _ _ h, s1]
      exact ih.1
theorem take_b {fh fg ff : FN} {j : Nat} {w : Int32} (hG : GC fh fg ff) (hj : j < 7) (hw : bet 1 9 w) : psc w (fg j) = psm w (fg j) ∧ bet 0 9 (jmin (fh j) (psm w (fg j))) ∧ GC (upd fh j (fh j - jmin (fh j) (psm w (fg j)))) fg ff := by
  obtain ⟨⟨h1, h2⟩, ⟨h3, h4⟩, ⟨h5, h6⟩⟩ := hG j hj
  obtain ⟨h7, h8⟩ := hw
  have hw' : bet 0 99 w := ⟨by omega, by omega⟩
  have hg' : bet 0 99 (fg j) := ⟨by omega, by omega⟩
  have e1 : (psm w (fg j)).toInt = if (fg j).toInt < w.toInt then w.toInt - (fg j).toInt else 0 := phm_tI hw' hg'
  have e2 : (jmin (fh j) (psm w (fg j))).toInt = if (if (fg j).toInt < w.toInt then w.toInt - (fg j).toInt else 0) < (fh j).toInt then (if (fg j).toInt < w.toInt then w.toInt - (fg j).toInt else 0) else (fh j).toInt := by rw [jmin_tI, e1]
  have hb : 0 ≤ (jmin (fh j) (psm w (fg j))).toInt ∧ (jmin (fh j) (psm w (fg j))).toInt ≤ 9 ∧ (jmin (fh j) (psm w (fg j))).toInt ≤ (fh j).toInt := by
    rw [e2]
    refine ⟨?_, ?_, ?_⟩ <;> (split <;> (try split) <;> omega)
  refine ⟨ps_eq hw' hg', ⟨hb.1, hb.2.1⟩, fun i hi => ?_⟩
  rw [upd_at]
  by_cases hij : i = j
  · rw [if_pos hij]
    subst hij
    exact ⟨⟨by rw [tI_sub (by omega) (by omega)]; omega, by rw [tI_sub (by omega) (by omega)]; omega⟩, ⟨h3, h4⟩, ⟨h5, h6⟩⟩
  · rw [if_neg hij]; exact hG i hi
theorem bOut_eq (n : Nat) (hn : n ≤ 7) (fg : FN) (w : Int32) (hw : bet 1 9 w) : ∀ (q : Nat) (fh ff fk : FN) (x : Int32), q ≤ n → GC fh fg ff → bOut phc psc n fg w q fh ff fk x = bOut phm psm n fg w q fh ff fk x ∧ GC (bOut phm psm n fg w q fh ff fk x).1 fg (bOut phm psm n fg w q fh ff fk x).2.1
  | 0, fh, ff, fk, x, _, hG => ⟨by rw [bOut, bOut], hG⟩
  | j + 1, fh, ff, fk, x, hq, hG => by
    obtain ⟨s1, s2, s3⟩ := take_b hG (show j < 7 by omega) hw
    have hi := bIn_eq fg (n - (j + 1)) (j + 1) _ ff fk _ (by omega) s3 s2
    have ih := bOut_eq n hn fg w hw j (bIn phm fg (n - (j + 1)) (j + 1) (upd fh j (fh j - jmin (fh j) (psm w (fg j)))) ff fk (jmin (fh j) (psm w (fg j)))).1 (bIn phm fg (n - (j + 1)) (j + 1) (upd fh j (fh j - jmin (fh j) (psm w (fg j)))) ff fk (jmin (fh j) (psm w (fg j)))).2.1 (bIn phm fg (n - (j + 1)) (j + 1) (upd fh j (fh j - jmin (fh j) (psm w (fg j)))) ff fk (jmin (fh j) (psm w (fg j)))).2.2.1 (x + (bIn phm fg (n - (j + 1)) (j + 1) (upd fh j (fh j - jmin (fh j) (psm w (fg j)))) ff fk (jmin (fh j) (psm w (fg j)))).2.2.2) (by omega) hi.2.1
    refine ⟨?_, ih.2⟩
    show bOut phc psc n fg w j (bIn phc fg (n - (j + 1)) (j + 1) (upd fh j (fh j - jmin (fh j) (psc w (fg j)))) ff fk (jmin (fh j) (psc w (fg j)))).1 (bIn phc fg (n - (j + 1)) (j + 1) (upd fh j (fh j - jmin (fh j) (psc w (fg j)))) ff fk (jmin (fh j) (psc w (fg j)))).2.1 (bIn phc fg (n - (j + 1)) (j + 1) (upd fh j (fh j - jmin (fh j) (psc w (fg j)))) ff fk (jmin (fh j) (psc w (fg j)))).2.2.1 (x + (bIn phc fg (n - (j + 1)) (j + 1) (upd fh j (fh j - jmin (fh j) (psc w (fg j)))) ff fk (jmin (fh j) (psc w (fg j)))).2.2.2) = _
    rw [s1, hi.1]
    exact ih.1
theorem blow_eq {n : Nat} (hn : n ≤ 7) {fh fg ff : FN} (fk : FN) {w : Int32} (hw : bet 1 9 w) (hG : GC fh fg ff) : blow phc psc n fh fg ff fk w = blow phm psm n fh fg ff fk w ∧ GC (blow phm psm n fh fg ff fk w).1 fg (blow phm psm n fh fg ff fk w).2.1 := bOut_eq n hn fg w hw n fh ff fk 0 (Nat.le_refl n) hG
theorem nu_eq {g k : Int32} (hg : bet 0 9 g) : nuc g k = num g k ∧ bet 0 9 (num g k) := by
  obtain ⟨h1, h2⟩ := hg
  have e1 : (g + 1).toInt = g.toInt + 1 := by rw [tI_add (by rw [i32_1]; omega) (by rw [i32_1]; omega), i32_1]
  have e2 : (jmin 9 (g + 1)).toInt = if g.toInt + 1 < 9 then g.toInt + 1 else 9 := by rw [jmin_tI, e1, i32_9]
  have en : (num g k).toInt = if 30 < k.toInt then 0 else if 0 < g.toInt ∧ (1 ≤ k.toInt ∧ k.toInt ≤ 9) ∧ g.toInt < 9 then g.toInt + 1 else g.toInt := by
    unfold num
    simp only [fa_lt, fa_le, i32_30, i32_0, i32_1, i32_9]
    split
    · rw [i32_0]
    · split
      · rw [e1]
      · rfl
  have ec : (nuc g k).toInt = if g.toInt = 0 ∨ 30 < k.toInt then 0 else if 1 ≤ k.toInt ∧ k.toInt ≤ 9 then (if g.toInt + 1 < 9 then g.toInt + 1 else 9) else g.toInt := by
    unfold nuc
    simp only [fa_lt, fa_le, fa_eq g 0, i32_30, i32_0, i32_1, i32_9]
    split
    · rw [i32_0]
    · split
      · rw [e2]
      · rfl
  refine ⟨(fa_eq _ _).mpr ?_, ?_⟩
  · rw [ec, en]
    (repeat' split) <;> omega
  · unfold bet
    rw [en]
    (repeat' split) <;> omega
theorem yE_eq : ∀ (m j : Nat) (fg fk : FN) (x : Int32), j + m ≤ 7 → (∀ i, i < 7 → bet 0 9 (fg i)) → yE nuc m j fg fk x = yE num m j fg fk x ∧ ∀ i, i < 7 → bet 0 9 ((yE num m j fg fk x).2.1 i)
  | 0, j, fg, fk, x, _, hg => ⟨by rw [yE, yE], hg⟩
  | m + 1, j, fg, fk, x, hj, hg => by
    obtain ⟨s1, s2⟩ := nu_eq (k := fk j) (hg j (by omega))
    have ih := yE_eq m (j + 1) (upd fg j (num (fg j) (fk j))) (upd fk j 0) (if num (fg j) (fk j) = fg j then x else x + 1) (by omega) (fun i hi => by
      rw [upd_at]
      by_cases h : i = j
      · rw [if_pos h]; exact s2
      · rw [if_neg h]; exact hg i hi)
    refine ⟨?_, ih.2⟩
    show yE nuc m (j + 1) (upd fg j (nuc (fg j) (fk j))) (upd fk j 0) (if nuc (fg j) (fk j) = fg j then x else x + 1) = _
    rw [s1]
    exact ih.1
theorem srg_b {w : Int32} (hw : bet 1 99 w) : ∀ (m j : Nat) (fh fg ff : FN) (vs vd : Int32), j + m ≤ 7 → GC fh fg ff → GC (srg w m j fh fg ff vs vd).2.1 (srg w m j fh fg ff vs vd).2.2.1 (srg w m j fh fg ff vs vd).2.2.2.1
  | 0, j, fh, fg, ff, vs, vd, _, hG => hG
  | m + 1, j, fh, fg, ff, vs, vd, hj, hG => by
    obtain ⟨⟨h1, h2⟩, ⟨h3, h4⟩, ⟨h5, h6⟩⟩ := hG j (by omega)
    obtain ⟨k, hk, ek⟩ := bet_nI (hi := 99) (hG j (by omega)).1
    unfold srg
    by_cases hc : fh j < w
    · rw [if_pos hc]
      refine srg_b hw m (j + 1) _ _ _ _ _ (by omega) (fun i hi => ?_)
      rw [upd_at, upd_at, upd_at]
      by_cases hij : i = j
      · rw [if_pos hij, if_pos hij, if_pos hij]
        refine ⟨?_, ⟨by rw [i32_0]; omega, by rw [i32_0]; omega⟩, ⟨by rw [i32_0]; omega, by rw [i32_0]; omega⟩⟩
        rw [ek, show nI k / 2 = nI (k / 2) from pk_div (a := k) (d := 2) (by omega) (by omega) (by omega), pk_sub (by omega)]
        exact nI_bet (hi := 99) (by omega) (by omega)
      · rw [if_neg hij, if_neg hij, if_neg hij]; exact hG i hi
    · rw [if_neg hc]
      obtain ⟨w0, hw0, ew⟩ := bet_nI (hi := 99) (x := w) ⟨by have := hw.1; omega, hw.2⟩
      have hle : w0 ≤ k := by
        have q := Int32.not_lt.mp hc
        rw [ek, ew] at q
        exact (nq_le w0 k (by omega) (by omega)).mp q
      intro i hi
      show bet 0 99 (upd fh j (fh j - w / 4) i) ∧ _
      rw [upd_at]
      by_cases hij : i = j
      · rw [if_pos hij]
        subst hij
        refine ⟨?_, ⟨h3, h4⟩, ⟨h5, h6⟩⟩
        rw [ek, ew, show nI w0 / 4 = nI (w0 / 4) from pk_div (a := w0) (d := 4) (by omega) (by omega) (by omega), pk_sub (by omega)]
        exact nI_bet (hi := 99) (by omega) (by omega)
      · rw [if_neg hij]; exact hG i hi
theorem bgY_b {n : Nat} {fh fg ff fp : FN} {fz : Int32} (y : Nat) (hG : GC fh fg ff) (hz : bet 1 20 fz) : GC fh fg (bgY n ff fp fz y) := by
  intro i hi
  obtain ⟨h1, h2, h3⟩ := hG i hi
  refine ⟨h1, h2, ?_⟩
  unfold bgY
  split
  · split
    · rw [upd_at]
      split
      · exact ⟨by have := hz.1; omega, hz.2⟩
      · exact h3
    · exact h3
  · exact h3
/-- the events of a weather, told as they may be -/
def EV (kw vw : FN) (c : Nat) : Prop := ∀ i, i < c → (kw i = 0 → bet 1 9 (vw i)) ∧ (kw i = 1 → bet 1 99 (vw i))
theorem pl_eq {n : Nat} (hn : n ≤ 7) {fp : FN} {fz : Int32} (hz : bet 1 20 fz) {kw vw : FN} {c : Nat} (hE : EV kw vw c) : ∀ (m i y : Nat) (th tg tf tk : FN) (ts tb td : Int32), i + m ≤ c → GC th tg tf → pl phc psc nuc n fp fz kw vw m i y th tg tf tk ts tb td = pl phm psm num n fp fz kw vw m i y th tg tf tk ts tb td
  | 0, i, y, th, tg, tf, tk, ts, tb, td, _, _ => by rw [pl, pl]
  | m + 1, i, y, th, tg, tf, tk, ts, tb, td, hi, hG => by
    unfold pl
    by_cases h0 : kw i = 0
    · rw [if_pos h0, if_pos h0]
      obtain ⟨b1, b2⟩ := blow_eq hn tk ((hE i (by omega)).1 h0) hG
      rw [b1]
      exact pl_eq hn hz hE m (i + 1) y _ _ _ _ _ _ _ (by omega) b2
    · rw [if_neg h0, if_neg h0]
      by_cases h1 : kw i = 1
      · rw [if_pos h1, if_pos h1]
        exact pl_eq hn hz hE m (i + 1) y _ _ _ _ _ _ _ (by omega) (srg_b ((hE i (by omega)).2 h1) n 0 th tg tf ts td (by omega) hG)
      · rw [if_neg h1, if_neg h1]
        obtain ⟨y1, y2⟩ := yE_eq n 0 tg tk 0 (by omega) (fun j hj => (hG j hj).2.1)
        rw [y1]
        refine pl_eq hn hz hE m (i + 1) (y + 1) _ _ _ _ _ _ _ (by omega) (bgY_b (y + 1) (fun j hj => ?_) hz)
        exact ⟨(hG j hj).1, y2 j hj, (hG j hj).2.2⟩
theorem plW_eq {n : Nat} (hn : n ≤ 7) {fz : Int32} (hz : bet 1 20 fz) {ct : Nat → Nat} {kd vl : Nat → FN} (hE : ∀ w, EV (kd w) (vl w) (ct w)) {fh fg ff : FN} (fk : FN) (vs vb : Int32) (hG : GC fh fg ff) : plW phc psc nuc n fz ct kd vl fh fg ff fk vs vb = plW phm psm num n fz ct kd vl fh fg ff fk vs vb := by
  funext fp w
  unfold plW
  exact pl_eq hn hz (hE w) (ct w) 0 0 _ _ _ _ _ _ _ (by omega) (bgY_b 0 hG hz)
theorem crW_eq {n : Nat} (hn : n ≤ 7) {fz : Int32} (hz : bet 1 20 fz) {ct : Nat → Nat} {kd vl : Nat → FN} (hE : ∀ w, EV (kd w) (vl w) (ct w)) {fh fg ff : FN} (fk : FN) (vs vb : Int32) (hG : GC fh fg ff) : crW phc psc nuc n fz ct kd vl fh fg ff fk vs vb = crW phm psm num n fz ct kd vl fh fg ff fk vs vb := by
  funext fp w
  unfold crW
  rw [plW_eq hn hz hE fk vs vb hG]
theorem flW_eq {n : Nat} (hn : n ≤ 7) {fz : Int32} (hz : bet 1 20 fz) {ct : Nat → Nat} {kd vl : Nat → FN} (hE : ∀ w, EV (kd w) (vl w) (ct w)) {fh fg ff : FN} (fk : FN) (vs vb : Int32) (hG : GC fh fg ff) : flW phc psc nuc n fz ct kd vl fh fg ff fk vs vb = flW phm psm num n fz ct kd vl fh fg ff fk vs vb := by
  funext fp w
  unfold flW
  rw [plW_eq hn hz hE fk vs vb hG]
