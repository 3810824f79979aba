/-! what both sides hold between the calls, and that each call keeps it and answers alike -/
def LI (n : Nat) (fh fg ff : FN) (fz : Int32) (ct : Nat → Nat) (kd vl : Nat → FN) (fr : FN) (isv kn : Int32) (zn : Nat) (zh zg zf : FN) : Prop :=
  (3 ≤ n ∧ n ≤ 7) ∧ GC fh fg ff ∧ GC zh zg zf ∧ bet 1 20 fz ∧ (∀ w, w < 3 → ct w ≤ 12) ∧ (∀ w, EV (kd w) (vl w) (ct w)) ∧ (∀ w, KV (kd w) (ct w)) ∧ RD n fr ∧ zn ≤ 7 ∧ ((isv = 0 ∧ kn = 0) ∨ (isv = 1 ∧ kn = nI zn))
theorem bet_of {lo hi x : Int32} (h : lo ≤ x ∧ x ≤ hi) : bet lo.toInt hi.toInt x := ⟨(fa_le _ _).mp h.1, (fa_le _ _).mp h.2⟩
theorem b19 {x : Int32} (h : 1 ≤ x ∧ x ≤ 9) : bet 1 9 x := by have := bet_of h; rw [i32_1, i32_9] at this; exact this
theorem b199 {x : Int32} (h : 1 ≤ x ∧ x ≤ 99) : bet 1 99 x := by have := bet_of h; rw [i32_1, i32_99] at this; exact this
theorem b120 {x : Int32} (h : 1 ≤ x ∧ x ≤ 20) : bet 1 20 x := by have := bet_of h; rw [i32_1, i32_20] at this; exact this
theorem GC_0 : GC zF zF zF := fun j _ => by
  show bet 0 99 0 ∧ bet 0 9 0 ∧ bet 0 20 0
  unfold bet
  rw [i32_0]
  omega
theorem RD_0 (n : Nat) : RD n mF := ⟨fun j _ => by
  show bet (-1) 99 (-1)
  unfold bet
  rw [i32_m1]
  omega, fun _ _ _ => rfl⟩
section INV
variable {n : Nat} {fh fg ff fk : FN} {vs vb vd fz : Int32} {ct : Nat → Nat} {kd vl : Nat → FN} {fr : FN} {isv kn : Int32} {zn : Nat} {zh zg zf : FN}
theorem I_coast (h : LI n fh fg ff fz ct kd vl fr isv kn zn zh zg zf) (x : Int32) : LI (sel (okC x) x.toNatClampNeg n) (sel (okC x) zF fh) (sel (okC x) zF fg) (sel (okC x) zF ff) fz ct kd vl (sel (okC x) mF fr) isv kn zn zh zg zf := by
  by_cases hc : okC x
  · simp only [sel_t hc]
    obtain ⟨j, hj, e⟩ := i32_c37 hc
    rw [e, nI_clamp (show j < 2 ^ 31 by omega)]
    exact ⟨hj, GC_0, h.2.2.1, h.2.2.2.1, h.2.2.2.2.1, h.2.2.2.2.2.1, h.2.2.2.2.2.2.1, RD_0 j, h.2.2.2.2.2.2.2.2⟩
  · simp only [sel_f hc]
    exact h
theorem I_GC (h : LI n fh fg ff fz ct kd vl fr isv kn zn zh zg zf) {fh' fg' ff' : FN} (hG : GC fh' fg' ff') : LI n fh' fg' ff' fz ct kd vl fr isv kn zn zh zg zf := ⟨h.1, hG, h.2.2⟩
theorem I_RD (h : LI n fh fg ff fz ct kd vl fr isv kn zn zh zg zf) {fr' : FN} (hR : RD n fr') : LI n fh fg ff fz ct kd vl fr' isv kn zn zh zg zf := ⟨h.1, h.2.1, h.2.2.1, h.2.2.2.1, h.2.2.2.2.1, h.2.2.2.2.2.1, h.2.2.2.2.2.2.1, hR, h.2.2.2.2.2.2.2.2⟩
theorem inC_lt {x : Int32} (hn : n ≤ 7) (h : inC n x) : x.toNatClampNeg < n := i32_cb (Int32.not_lt.mpr h.1) (Int32.not_le.mpr h.2) hn
theorem I_set (h : LI n fh fg ff fz ct kd vl fr isv kn zn zh zg zf) (x wt v : Int32) : LI n (sel (okS n x wt v ∧ wt = 0) (upd fh x.toNatClampNeg v) fh) (sel (okS n x wt v ∧ wt = 1) (upd fg x.toNatClampNeg v) fg) (sel (okS n x wt v ∧ wt = 2) (upd ff x.toNatClampNeg v) ff) fz ct kd vl fr isv kn zn zh zg zf := by
  refine I_GC h (fun i hi => ?_)
  obtain ⟨g1, g2, g3⟩ := h.2.1 i hi
  refine ⟨?_, ?_, ?_⟩
  · by_cases hc : okS n x wt v ∧ wt = 0
    · rw [sel_t hc, upd_at]
      split
      · have h1 := bet_of hc.1.2.2
        rw [hc.2, show mostV 0 = 99 from rfl, i32_0, i32_99] at h1
        exact h1
      · exact g1
    · rw [sel_f hc]; exact g1
  · by_cases hc : okS n x wt v ∧ wt = 1
    · rw [sel_t hc, upd_at]
      split
      · have h1 := bet_of hc.1.2.2
        rw [hc.2, show mostV 1 = 9 from rfl, i32_0, i32_9] at h1
        exact h1
      · exact g2
    · rw [sel_f hc]; exact g2
  · by_cases hc : okS n x wt v ∧ wt = 2
    · rw [sel_t hc, upd_at]
      split
      · have h1 := bet_of hc.1.2.2
        rw [hc.2, show mostV 2 = 20 from rfl, i32_0, i32_20] at h1
        exact h1
      · exact g3
    · rw [sel_f hc]; exact g3
theorem wind_same (h : LI n fh fg ff fz ct kd vl fr isv kn zn zh zg zf) (fk : FN) (x : Int32) {α : Type} (F : FN × FN × FN × Int32 → α) (z : α) : sel (1 ≤ x ∧ x ≤ 9) (F (blow phc psc n fh fg ff fk x)) z = sel (1 ≤ x ∧ x ≤ 9) (F (blow phm psm n fh fg ff fk x)) z := by
  by_cases hc : 1 ≤ x ∧ x ≤ 9
  · rw [sel_t hc, sel_t hc, (blow_eq h.1.2 fk (b19 hc) h.2.1).1]
  · rw [sel_f hc, sel_f hc]
theorem I_wind (h : LI n fh fg ff fz ct kd vl fr isv kn zn zh zg zf) (fk : FN) (x : Int32) : LI n (sel (1 ≤ x ∧ x ≤ 9) ((blow phm psm n fh fg ff fk x).1) fh) fg (sel (1 ≤ x ∧ x ≤ 9) ((blow phm psm n fh fg ff fk x).2.1) ff) fz ct kd vl fr isv kn zn zh zg zf := by
  by_cases hc : 1 ≤ x ∧ x ≤ 9
  · simp only [sel_t hc]
    exact I_GC h (blow_eq h.1.2 fk (b19 hc) h.2.1).2
  · simp only [sel_f hc]
    exact h
theorem I_storm (h : LI n fh fg ff fz ct kd vl fr isv kn zn zh zg zf) (vs vd x : Int32) : LI n (sel (1 ≤ x ∧ x ≤ 99) ((srg x n 0 fh fg ff vs vd).2.1) fh) (sel (1 ≤ x ∧ x ≤ 99) ((srg x n 0 fh fg ff vs vd).2.2.1) fg) (sel (1 ≤ x ∧ x ≤ 99) ((srg x n 0 fh fg ff vs vd).2.2.2.1) ff) fz ct kd vl fr isv kn zn zh zg zf := by
  by_cases hc : 1 ≤ x ∧ x ≤ 99
  · simp only [sel_t hc]
    exact I_GC h (srg_b (b199 hc) n 0 fh fg ff vs vd (by have := h.1.2; omega) h.2.1)
  · simp only [sel_f hc]
    exact h
theorem end_same (h : LI n fh fg ff fz ct kd vl fr isv kn zn zh zg zf) (fk : FN) : yE nuc n 0 fg fk 0 = yE num n 0 fg fk 0 := (yE_eq n 0 fg fk 0 (by have := h.1.2; omega) (fun i hi => (h.2.1 i hi).2.1)).1
theorem I_end (h : LI n fh fg ff fz ct kd vl fr isv kn zn zh zg zf) (fk : FN) : LI n fh ((yE num n 0 fg fk 0).2.1) ff fz ct kd vl fr isv kn zn zh zg zf := I_GC h (fun i hi => ⟨(h.2.1 i hi).1, (yE_eq n 0 fg fk 0 (by have := h.1.2; omega) (fun i hi => (h.2.1 i hi).2.1)).2 i hi, (h.2.1 i hi).2.2⟩)
theorem I_nourish (h : LI n fh fg ff fz ct kd vl fr isv kn zn zh zg zf) (x : Int32) : LI n (sel (1 ≤ x ∧ x ≤ 99) (upd fh 0 (fh 0 + jmin x (99 - fh 0))) fh) fg ff fz ct kd vl fr isv kn zn zh zg zf := by
  by_cases hc : 1 ≤ x ∧ x ≤ 99
  · rw [sel_t hc]
    refine I_GC h (fun i hi => ⟨?_, (h.2.1 i hi).2⟩)
    rw [upd_at]
    split
    · obtain ⟨g1, g2⟩ := (h.2.1 0 (by omega)).1
      obtain ⟨x1, x2⟩ := b199 hc
      have e4 : (99 - fh 0 : Int32).toInt = 99 - (fh 0).toInt := by rw [tI_sub (by rw [i32_99]; omega) (by rw [i32_99]; omega), i32_99]
      have e5 : (jmin x (99 - fh 0)).toInt = if 99 - (fh 0).toInt < x.toInt then 99 - (fh 0).toInt else x.toInt := by rw [jmin_tI, e4]
      have e6 : 0 ≤ (jmin x (99 - fh 0)).toInt ∧ (jmin x (99 - fh 0)).toInt ≤ 99 - (fh 0).toInt := by
        rw [e5]
        split <;> omega
      unfold bet
      rw [tI_add (by omega) (by omega)]
      omega
    · exact (h.2.1 i hi).1
  · rw [sel_f hc]
    exact h
theorem I_event (h : LI n fh fg ff fz ct kd vl fr isv kn zn zh zg zf) (x k v : Int32) : LI n fh fg ff fz (sel (okE x k v ∧ ct x.toNatClampNeg < 12) (va_up ct x.toNatClampNeg (ct x.toNatClampNeg + 1)) ct) (sel (okE x k v ∧ ct x.toNatClampNeg < 12) (va_up kd x.toNatClampNeg (upd (kd x.toNatClampNeg) (ct x.toNatClampNeg) k)) kd) (sel (okE x k v ∧ ct x.toNatClampNeg < 12) (va_up vl x.toNatClampNeg (upd (vl x.toNatClampNeg) (ct x.toNatClampNeg) v)) vl) fr isv kn zn zh zg zf := by
  by_cases hc : okE x k v ∧ ct x.toNatClampNeg < 12
  · simp only [sel_t hc]
    generalize x.toNatClampNeg = y at hc ⊢
    refine ⟨h.1, h.2.1, h.2.2.1, h.2.2.2.1, fun w hw => ?_, fun w i hi => ?_, fun w i hi => ?_, h.2.2.2.2.2.2.2⟩
    · show (if w = y then ct y + 1 else ct w) ≤ 12
      split
      · omega
      · exact h.2.2.2.2.1 w hw
    · show ((if w = y then upd (kd y) (ct y) k else kd w) i = 0 → bet 1 9 ((if w = y then upd (vl y) (ct y) v else vl w) i)) ∧ ((if w = y then upd (kd y) (ct y) k else kd w) i = 1 → bet 1 99 ((if w = y then upd (vl y) (ct y) v else vl w) i))
      have hi : i < if w = y then ct y + 1 else ct w := hi
      by_cases hwy : w = y
      · simp only [if_pos hwy] at hi ⊢
        rw [upd_at, upd_at]
        by_cases hic : i = ct y
        · rw [if_pos hic, if_pos hic]
          refine ⟨fun q => ?_, fun q => ?_⟩
          · rcases hc.1.2 with ⟨-, z⟩ | ⟨z, -⟩ | z
            · exact b19 z
            · exact absurd (z.symm.trans q) (by decide)
            · exact absurd (z.symm.trans q) (by decide)
          · rcases hc.1.2 with ⟨z, -⟩ | ⟨-, z⟩ | z
            · exact absurd (z.symm.trans q) (by decide)
            · exact b199 z
            · exact absurd (z.symm.trans q) (by decide)
        · rw [if_neg hic, if_neg hic]
          exact h.2.2.2.2.2.1 y i (by omega)
      · simp only [if_neg hwy] at hi ⊢
        exact h.2.2.2.2.2.1 w i hi
    · show (if w = y then upd (kd y) (ct y) k else kd w) i = 0 ∨ (if w = y then upd (kd y) (ct y) k else kd w) i = 1 ∨ (if w = y then upd (kd y) (ct y) k else kd w) i = 2
      have hi : i < if w = y then ct y + 1 else ct w := hi
      by_cases hwy : w = y
      · simp only [if_pos hwy] at hi ⊢
        rw [upd_at]
        by_cases hic : i = ct y
        · rw [if_pos hic]
          rcases hc.1.2 with ⟨z, -⟩ | ⟨z, -⟩ | z
          · exact Or.inl z
          · exact Or.inr (Or.inl z)
          · exact Or.inr (Or.inr z)
        · rw [if_neg hic]
          exact h.2.2.2.2.2.2.1 y i (by omega)
      · simp only [if_neg hwy] at hi ⊢
        exact h.2.2.2.2.2.2.1 w i hi
  · simp only [sel_f hc]
    exact h
theorem I_calm (h : LI n fh fg ff fz ct kd vl fr isv kn zn zh zg zf) (x : Int32) : LI n fh fg ff fz (sel (0 ≤ x ∧ x ≤ 2) (va_up ct x.toNatClampNeg 0) ct) kd vl fr isv kn zn zh zg zf := by
  by_cases hc : 0 ≤ x ∧ x ≤ 2
  · rw [sel_t hc]
    generalize x.toNatClampNeg = y
    have hle : ∀ w, va_up ct y 0 w ≤ ct w := fun w => by
      show (if w = y then 0 else ct w) ≤ ct w
      split <;> omega
    exact ⟨h.1, h.2.1, h.2.2.1, h.2.2.2.1, fun w hw => Nat.le_trans (hle w) (h.2.2.2.2.1 w hw), fun w i hi => h.2.2.2.2.2.1 w i (Nat.lt_of_lt_of_le hi (hle w)), fun w i hi => h.2.2.2.2.2.2.1 w i (Nat.lt_of_lt_of_le hi (hle w)), h.2.2.2.2.2.2.2⟩
  · rw [sel_f hc]
    exact h
theorem I_size (h : LI n fh fg ff fz ct kd vl fr isv kn zn zh zg zf) (x : Int32) : LI n fh fg ff (sel (1 ≤ x ∧ x ≤ 20) x fz) ct kd vl fr isv kn zn zh zg zf := by
  by_cases hc : 1 ≤ x ∧ x ≤ 20
  · rw [sel_t hc]
    exact ⟨h.1, h.2.1, h.2.2.1, b120 hc, h.2.2.2.2⟩
  · rw [sel_f hc]
    exact h
theorem I_read (h : LI n fh fg ff fz ct kd vl fr isv kn zn zh zg zf) (x v : Int32) : LI n fh fg ff fz ct kd vl (sel (inC n x ∧ -1 ≤ v ∧ v ≤ 99) (upd fr x.toNatClampNeg v) fr) isv kn zn zh zg zf := by
  by_cases hc : inC n x ∧ -1 ≤ v ∧ v ≤ 99
  · rw [sel_t hc]
    have hl := inC_lt h.1.2 hc.1
    have hb : bet (-1) 99 v := by have := bet_of hc.2; rw [i32_m1, i32_99] at this; exact this
    refine I_RD h ⟨fun j hj => ?_, fun j h1 h2 => ?_⟩
    · rw [upd_at]
      split
      · exact hb
      · exact h.2.2.2.2.2.2.2.1.1 j hj
    · rw [upd_at, if_neg (by omega)]
      exact h.2.2.2.2.2.2.2.1.2 j h1 h2
  · rw [sel_f hc]
    exact h
theorem tkF_RD {fh : FN} {n : Nat} (hn : n ≤ 7) (hf : ∀ j, j < 7 → bet 0 99 (fh j)) : ∀ (m i : Nat) (fr : FN) (x : Int32), i + m ≤ n → RD n fr → RD n (tkF fh m i fr x).2
  | 0, i, fr, x, _, hr => hr
  | m + 1, i, fr, x, hi, hr => by
    refine tkF_RD hn hf m (i + 1) _ _ (by omega) ⟨fun j hj => ?_, fun j h1 h2 => ?_⟩
    · rw [upd_at]
      split
      · have := hf i (by omega)
        exact ⟨by have := this.1; omega, this.2⟩
      · exact hr.1 j hj
    · rw [upd_at, if_neg (by omega)]
      exact hr.2 j h1 h2
theorem I_take (h : LI n fh fg ff fz ct kd vl fr isv kn zn zh zg zf) : LI n fh fg ff fz ct kd vl ((tkF fh n 0 fr 0).2) isv kn zn zh zg zf := I_RD h (tkF_RD h.1.2 (fun j hj => (h.2.1 j hj).1) n 0 fr 0 (by omega) h.2.2.2.2.2.2.2.1)
theorem I_keep (h : LI n fh fg ff fz ct kd vl fr isv kn zn zh zg zf) : LI n fh fg ff fz ct kd vl fr 1 (nI n) n fh fg ff := ⟨h.1, h.2.1, h.2.1, h.2.2.2.1, h.2.2.2.2.1, h.2.2.2.2.2.1, h.2.2.2.2.2.2.1, h.2.2.2.2.2.2.2.1, h.1.2, Or.inr ⟨rfl, rfl⟩⟩
theorem back_iff (h : LI n fh fg ff fz ct kd vl fr isv kn zn zh zg zf) : (¬ isv = 0 ∧ zn = n) ↔ kn = nI n := by
  obtain ⟨⟨h3, h7⟩, -, -, -, -, -, -, -, hz, hk⟩ := h
  rcases hk with ⟨e1, e2⟩ | ⟨e1, e2⟩
  · refine ⟨fun q => absurd e1 q.1, fun q => ?_⟩
    have q2 : nI 0 = nI n := e2.symm.trans q
    have := (nq_eq 0 n (by omega) (by omega)).mp q2
    omega
  · rw [e1, e2]
    exact ⟨fun q => by rw [q.2], fun q => ⟨by decide, (nq_eq zn n (by omega) (by omega)).mp q⟩⟩
theorem I_back (h : LI n fh fg ff fz ct kd vl fr isv kn zn zh zg zf) : LI n (sel (kn = nI n) zh fh) (sel (kn = nI n) zg fg) (sel (kn = nI n) zf ff) fz ct kd vl fr isv kn zn zh zg zf := by
  by_cases hc : kn = nI n
  · simp only [sel_t hc]
    exact I_GC h h.2.2.1
  · simp only [sel_f hc]
    exact h
theorem back_n (h : LI n fh fg ff fz ct kd vl fr isv kn zn zh zg zf) : sel (¬ isv = 0 ∧ zn = n) zn n = n := by
  by_cases hc : ¬ isv = 0 ∧ zn = n
  · rw [sel_t hc]; exact hc.2
  · rw [sel_f hc]
theorem cr_same (h : LI n fh fg ff fz ct kd vl fr isv kn zn zh zg zf) (fk : FN) (vs vb : Int32) : crW phc psc nuc n fz ct kd vl fh fg ff fk vs vb = crW phm psm num n fz ct kd vl fh fg ff fk vs vb := crW_eq h.1.2 h.2.2.2.1 h.2.2.2.2.2.1 fk vs vb h.2.1
theorem fl_same (h : LI n fh fg ff fz ct kd vl fr isv kn zn zh zg zf) (fk : FN) (vs vb : Int32) : flW phc psc nuc n fz ct kd vl fh fg ff fk vs vb = flW phm psm num n fz ct kd vl fh fg ff fk vs vb := flW_eq h.1.2 h.2.2.2.1 h.2.2.2.2.2.1 fk vs vb h.2.1
theorem hld_b (fk : FN) (vs vb : Int32) (fp : FN) : bet (-1) 99 (hld ct (crW phm psm num n fz ct kd vl fh fg ff fk vs vb fp) (flW phm psm num n fz ct kd vl fh fg ff fk vs vb fp)) := by
  have h1 := (fa_le _ _).mp (hld_ge (ct := ct) (fl := flW phm psm num n fz ct kd vl fh fg ff fk vs vb fp) (crW_ge (φ := phm) (ψ := psm) (ν := num) (n := n) (fz := fz) (ct := ct) (kd := kd) (vl := vl) (fh := fh) (fg := fg) (ff := ff) (fk := fk) (vs := vs) (vb := vb) fp))
  have h2 := (fa_le _ _).mp (hld_le ct (crW phm psm num n fz ct kd vl fh fg ff fk vs vb fp) (flW phm psm num n fz ct kd vl fh fg ff fk vs vb fp))
  rw [i32_m1] at h1
  rw [i32_99] at h2
  exact ⟨h1, h2⟩
theorem r_most (h : LI n fh fg ff fz ct kd vl fr isv kn zn zh zg zf) (fk : FN) (vs vb : Int32) : sel (0 < ct 0 ∨ 0 < ct 1 ∨ 0 < ct 2) (sel (0 ≤ mo n (lastY ct kd) ct (crW phc psc nuc n fz ct kd vl fh fg ff fk vs vb) (flW phc psc nuc n fz ct kd vl fh fg ff fk vs vb) 512 0 (-1)) (mo n (lastY ct kd) ct (crW phc psc nuc n fz ct kd vl fh fg ff fk vs vb) (flW phc psc nuc n fz ct kd vl fh fg ff fk vs vb) 512 0 (-1)) (-3)) (-3) = sel (0 < ct 0 ∨ 0 < ct 1 ∨ 0 < ct 2) (mmo n ct (crW phm psm num n fz ct kd vl fh fg ff fk vs vb) (flW phm psm num n fz ct kd vl fh fg ff fk vs vb) ((n + 1) * (n + 1) * (n + 1)) 0 (-3)) (-3) := by
  rw [cr_same h fk vs vb, fl_same h fk vs vb, most_same h.1.1 h.1.2 (hld_b fk vs vb) (fun fp fp' hz => hld_ag h.2.2.2.2.2.2.1 fp fp' hz)]
theorem gd_iff {ly : Nat} {cr fl : FN → Nat → Int32} {aim : Int32} (h0 : 0 ≤ aim) (h9 : aim ≤ 99) {w cd : Nat} : gdP n ly ct cr fl aim w cd ↔ (okP n ly cd ∧ nfen (dcd cd) = w ∧ aim ≤ hld ct (cr (dcd cd)) (fl (dcd cd))) := by
  unfold gdP
  rw [wCr_h h0 h9]
  by_cases hc : aim ≤ hld ct (cr (dcd cd)) (fl (dcd cd))
  · rw [if_pos hc]
  · rw [if_neg hc]
    refine ⟨fun q => ?_, fun q => absurd q.2.2 hc⟩
    have q2 := (fa_le _ _).mp q.2.2
    have q0 := (fa_le _ _).mp h0
    rw [i32_m1] at q2
    rw [i32_0] at q0
    omega
theorem plan_core (h3 : 3 ≤ n) (h7 : n ≤ 7) {ly : Nat} {cr fl : FN → Nat → Int32} {aim : Int32} (h0 : 0 ≤ aim) (h9 : aim ≤ 99) (hag : ∀ fp fp' : FN, (∀ z, z < 3 → z ≤ ly → fp z = fp' z) → hld ct (cr fp) (fl fp) = hld ct (cr fp') (fl fp')) {C : Nat → Nat → Prop} {C2 : Nat → Prop} {D1 D2 : Prop}
    (h1 : (∃ w cd, w ≤ 3 ∧ cd < 512 ∧ gdP n ly ct cr fl aim w cd ∧ (∀ w2 c2, c2 < 512 → w2 < w ∨ (w2 = w ∧ c2 < cd) → ¬ gdP n ly ct cr fl aim w2 c2) ∧ C w cd) ∨ ((∀ w2 c2, w2 ≤ 3 → c2 < 512 → ¬ gdP n ly ct cr fl aim w2 c2) ∧ D1))
    (h2 : (∃ b2, b2 < (n + 1) * (n + 1) * (n + 1) ∧ (aim ≤ hld ct (cr (lyp n b2)) (fl (lyp n b2))) ∧ (∀ k, k < (n + 1) * (n + 1) * (n + 1) → (aim ≤ hld ct (cr (lyp n k)) (fl (lyp n k))) → mny n b2 ≤ mny n k) ∧ (∀ k, k < b2 → (aim ≤ hld ct (cr (lyp n k)) (fl (lyp n k))) → mny n b2 < mny n k) ∧ C2 b2) ∨ ((∀ k, k < (n + 1) * (n + 1) * (n + 1) → ¬ (aim ≤ hld ct (cr (lyp n k)) (fl (lyp n k)))) ∧ D2)) :
    (∃ w cd b2, C w cd ∧ C2 b2 ∧ okP n ly cd ∧ b2 = kOf n cd ∧ mny n b2 = w) ∨ (D1 ∧ D2) := by
  have hagS : ∀ fp fp' : FN, (∀ z, z < 3 → z ≤ ly → fp z = fp' z) → (aim ≤ hld ct (cr fp) (fl fp) ↔ aim ≤ hld ct (cr fp') (fl fp')) := fun fp fp' hz => by rw [hag fp fp' hz]
  rcases h1 with ⟨w, cd, hw3, hcd, hg, hmin, hC⟩ | ⟨hno, hD1⟩
  · obtain ⟨g1, g2, g3⟩ := (gd_iff h0 h9).mp hg
    rcases h2 with ⟨b2, q1, q2, q3, q4, hC2⟩ | ⟨q1, hD2⟩
    · obtain ⟨e1, e2⟩ := plan_same (S := fun fp => aim ≤ hld ct (cr fp) (fl fp)) h3 h7 hagS hcd g1 g2 g3 (fun w2 c2 hc2 hlt z => hmin w2 c2 hc2 hlt ((gd_iff h0 h9).mpr z)) q1 q2 q3 q4
      exact Or.inl ⟨w, cd, b2, hC, hC2, g1, e1, e2⟩
    · obtain ⟨e1, e2⟩ := plan_some (S := fun fp => aim ≤ hld ct (cr fp) (fl fp)) h3 h7 hagS g1 g3
      exact absurd e2 (q1 _ e1)
  · rcases h2 with ⟨b2, q1, q2, q3, q4, hC2⟩ | ⟨q1, hD2⟩
    · exact absurd q2 (plan_none (S := fun fp => aim ≤ hld ct (cr fp) (fl fp)) h3 h7 hagS (fun w2 c2 k1 k2 z => hno w2 c2 k1 k2 ((gd_iff h0 h9).mpr z)) b2)
    · exact Or.inr ⟨hD1, hD2⟩
theorem dcd_neg (cd y : Nat) : dcd cd y < 0 ↔ dcd cd y = -1 := by
  unfold dcd
  have := dg_lt cd y
  split
  · exact ⟨fun _ => rfl, fun _ => by decide⟩
  · exact ⟨fun q => absurd q (nI_pos (by omega)), fun q => absurd q (nI_nm (by omega))⟩
end INV
