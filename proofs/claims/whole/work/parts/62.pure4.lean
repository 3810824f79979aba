/-! surveys: levels, volumes and doubt are the same -/
def RD (n : Nat) (fr : FN) : Prop := (∀ j, j < 7 → bet (-1) 99 (fr j)) ∧ ∀ j, n ≤ j → j < 7 → fr j = -1
theorem bet_neg {x : Int32} (h : bet (-1) 99 x) : x < 0 ↔ x = -1 := by
  obtain ⟨h1, h2⟩ := h
  rw [fa_lt, fa_eq, i32_0, i32_m1]
  omega
theorem nI_nm {k : Nat} (h : k < 2147483648) : ¬ nI k = -1 := fun q => by
  have q2 := (fa_eq _ _).mp q
  rw [nI_toInt h, i32_m1] at q2
  omega
theorem cntR_M {n : Nat} {fr : FN} (hr : RD n fr) : ∀ (m i x : Nat), i + m ≤ 7 → cntR fr m i x = cntM fr m i x
  | 0, i, x, _ => by rw [cntR, cntM]
  | m + 1, i, x, h => by
    unfold cntR cntM
    have hb := bet_neg (hr.1 i (by omega))
    by_cases q : fr i = -1
    · rw [if_pos q, if_pos (hb.mpr q)]
      exact cntR_M hr m (i + 1) x (by omega)
    · rw [if_neg q, if_neg (fun z => q (hb.mp z))]
      exact cntR_M hr m (i + 1) (x + 1) (by omega)
theorem cntM_none (fr : FN) : ∀ (d i x : Nat), (∀ j, i ≤ j → j < i + d → fr j < 0) → cntM fr d i x = x
  | 0, i, x, _ => by rw [cntM]
  | d + 1, i, x, h => by
    unfold cntM
    rw [if_pos (h i (by omega) (by omega))]
    exact cntM_none fr d (i + 1) x (fun j h1 h2 => h j (by omega) (by omega))
theorem cntM_cut (fr : FN) : ∀ (m i x d : Nat), (∀ j, i + m ≤ j → j < i + m + d → fr j < 0) → cntM fr (m + d) i x = cntM fr m i x
  | 0, i, x, d, h => by
    rw [Nat.zero_add, cntM_none fr d i x (fun j h1 h2 => h j (by omega) (by omega)), cntM]
  | m + 1, i, x, d, h => by
    rw [show m + 1 + d = (m + d) + 1 by omega]
    unfold cntM
    exact cntM_cut fr m (i + 1) _ d (fun j h1 h2 => h j (by omega) (by omega))
theorem cnt_same {n : Nat} {fr : FN} (hn : n ≤ 7) (hr : RD n fr) : cntM fr n 0 0 = cntR fr 7 0 0 := by
  rw [cntR_M hr 7 0 0 (by omega)]
  have h := cntM_cut fr n 0 0 (7 - n) (fun j h1 h2 => by
    rw [hr.2 j (by omega) (by omega)]
    decide)
  rw [show n + (7 - n) = 7 by omega] at h
  exact h.symm
/-- fm is fr without the reading of cell mi -/
def MS (n : Nat) (fr : FN) (mi : Int32) (fm : FN) : Prop := ∀ k, k < n → (fm k < 0 ↔ (fr k = -1 ∨ nI k = mi)) ∧ (¬ fm k < 0 → fm k = fr k) ∧ bet (-1) 99 (fm k)
theorem MS_all {n : Nat} {fr : FN} (hn : n ≤ 7) (hr : RD n fr) : MS n fr (-1) fr := fun k hk => ⟨⟨fun q => Or.inl ((bet_neg (hr.1 k (by omega))).mp q), fun q => q.elim (fun z => (bet_neg (hr.1 k (by omega))).mpr z) (fun z => absurd z (nI_nm (by omega)))⟩, fun _ => rfl, hr.1 k (by omega)⟩
theorem MS_one {n : Nat} {fr : FN} (hn : n ≤ 7) (hr : RD n fr) {c : Nat} (hc : c < n) : MS n fr (nI c) (upd fr c (-1)) := by
  intro k hk
  rw [upd_at]
  by_cases h : k = c
  · rw [if_pos h, h]
    exact ⟨⟨fun _ => Or.inr rfl, fun _ => by decide⟩, fun q => absurd (by decide) q, ⟨by rw [i32_m1]; omega, by rw [i32_m1]; omega⟩⟩
  · rw [if_neg h]
    have hb := bet_neg (hr.1 k (by omega))
    exact ⟨⟨fun q => Or.inl (hb.mp q), fun q => q.elim (fun z => hb.mpr z) (fun z => absurd ((nq_eq k c (by omega) (by omega)).mp z) h)⟩, fun _ => rfl, hr.1 k (by omega)⟩
theorem near_m1 (fr : FN) (st mi : Int32) (n : Nat) : ∀ m : Nat, near fr st mi n m (-1) = -1
  | 0 => by rw [near]
  | m + 1 => by
    unfold near
    rw [if_pos (by decide)]
theorem near_l {n : Nat} (hn : n ≤ 7) {fr fm : FN} {mi : Int32} (hm : MS n fr mi fm) : ∀ (m j : Nat), j < n → j + 1 ≤ m → near fr (-1) mi n m (nI j) = lDq fm (j + 1)
  | 0, j, _, h => by omega
  | m + 1, j, hj, h => by
    obtain ⟨m1, m2, -⟩ := hm j hj
    have hs : near fr (-1) mi n m (nI j + -1) = lDq fm j := by
      match j, hj, h with
      | 0, _, _ =>
        show near fr (-1) mi n m (-1) = -1
        exact near_m1 fr (-1) mi n m
      | j + 1, hj, h =>
        have e : nI (j + 1) + -1 = nI j := by rw [← Int32.sub_eq_add_neg, nI_pred]
        rw [e]
        exact near_l hn hm m j (by omega) (by omega)
    unfold near
    rw [if_neg (nI_pos (by omega)), if_neg (nI_ge hj (by omega)), nI_clamp (by omega)]
    unfold lDq
    by_cases h1 : fr j = -1
    · rw [if_pos h1, if_pos (m1.mpr (Or.inl h1)), hs]
    · rw [if_neg h1]
      by_cases h2 : nI j = mi
      · rw [if_pos h2, if_pos (m1.mpr (Or.inr h2)), hs]
      · rw [if_neg h2, if_neg (fun q => (m1.mp q).elim h1 h2)]
theorem near_r {n : Nat} (hn : n ≤ 7) {fr fm : FN} {mi : Int32} (hm : MS n fr mi fm) : ∀ (m j : Nat), j ≤ n → n - j ≤ m → near fr 1 mi n m (nI j) = if lUp fm (n - j) j = n then -1 else nI (lUp fm (n - j) j)
  | 0, j, h, h2 => by
    have e : n = j := by omega
    subst e
    rw [Nat.sub_self, near, lUp, if_pos rfl]
  | m + 1, j, h, h2 => by
    by_cases hj : j = n
    · subst hj
      rw [Nat.sub_self, lUp, if_pos rfl]
      unfold near
      rw [if_neg (nI_pos (by omega)), if_pos (Int32.le_refl _)]
    · have hj2 : j < n := by omega
      obtain ⟨m1, m2, -⟩ := hm j hj2
      have hs := near_r hn hm m (j + 1) (by omega) (by omega)
      have e1 : nI j + 1 = nI (j + 1) := (nI_succ j).symm
      have e2 : n - j = (n - (j + 1)) + 1 := by omega
      unfold near
      rw [if_neg (nI_pos (by omega)), if_neg (nI_ge hj2 (by omega)), nI_clamp (by omega), e2, e1]
      unfold lUp
      by_cases h1 : fr j = -1
      · rw [if_pos h1, if_pos (m1.mpr (Or.inl h1)), hs]
      · rw [if_neg h1]
        by_cases h3 : nI j = mi
        · rw [if_pos h3, if_pos (m1.mpr (Or.inr h3)), hs]
        · rw [if_neg h3, if_neg (fun q => (m1.mp q).elim h1 h3), if_neg hj]
theorem lDq_r2 (fm : FN) : ∀ q : Nat, lDq fm q = -1 ∨ ∃ k, k < q ∧ lDq fm q = nI k ∧ ¬ fm k < 0
  | 0 => Or.inl rfl
  | j + 1 => by
    unfold lDq
    by_cases h : fm j < 0
    · rw [if_pos h]
      rcases lDq_r2 fm j with h2 | ⟨k, h2, h3⟩
      · exact Or.inl h2
      · exact Or.inr ⟨k, by omega, h3⟩
    · rw [if_neg h]; exact Or.inr ⟨j, by omega, rfl, h⟩
theorem lUp_r2 (fm : FN) : ∀ m j : Nat, lUp fm m j = j + m ∨ (j ≤ lUp fm m j ∧ lUp fm m j < j + m ∧ ¬ fm (lUp fm m j) < 0)
  | 0, j => Or.inl (by rw [lUp]; rfl)
  | m + 1, j => by
    unfold lUp
    by_cases h : fm j < 0
    · rw [if_pos h]
      rcases lUp_r2 fm m (j + 1) with h2 | ⟨h2, h3, h4⟩
      · exact Or.inl (by omega)
      · exact Or.inr ⟨by omega, by omega, h4⟩
    · rw [if_neg h]; exact Or.inr ⟨Nat.le_refl j, by omega, h⟩
theorem b99 {x : Int32} (h : bet (-1) 99 x) (h2 : ¬ x < 0) : ∃ v : Nat, v ≤ 99 ∧ x = nI v := by
  obtain ⟨v, hv, rfl⟩ := nI_of h2
  have := h.2
  rw [nI_toInt hv] at this
  exact ⟨v, by omega, rfl⟩
/-- a level of the class is the reference's, and no more than 5940 -/
theorem lev_same {n j : Nat} (hn : n ≤ 7) {fr fm : FN} {mi : Int32} (hm : MS n fr mi fm) (hj : j < n) (hx : ∃ k, k < n ∧ ¬ fm k < 0) : sLev fr n mi j = mLev fm n j ∧ ∃ a, a ≤ 5940 ∧ mLev fm n j = nI a := by
  have eL : nL fr n mi j = lDq fm (j + 1) := near_l hn hm 7 j hj (by omega)
  have eR : nR fr n mi j = if lUp fm (n - j) j = n then -1 else nI (lUp fm (n - j) j) := near_r hn hm 7 j (by omega) (by omega)
  have hok := lev_ok hn hj hx
  have hu := lUp_r2 fm (n - j) j
  unfold sLev mLev
  rw [eL, eR]
  generalize lUp fm (n - j) j = U at hok hu ⊢
  rcases lDq_r2 fm (j + 1) with h1 | ⟨k, hk, h1, h2⟩
  · rw [h1] at hok ⊢
    have hU := hok (by decide)
    have hU2 : ¬ fm U < 0 := by
      rcases hu with q | q
      · omega
      · exact q.2.2
    obtain ⟨-, m2, m3⟩ := hm U hU
    obtain ⟨v, hv, ev⟩ := b99 m3 hU2
    rw [if_pos rfl, if_neg (show ¬ U = n by omega), if_neg (nI_nm (by omega)), if_pos (show (-1 : Int32) < 0 by decide), nI_clamp (by omega), ← m2 hU2]
    exact ⟨rfl, 60 * v, by omega, by rw [ev]; exact pk_mul 60 v⟩
  · rw [h1]
    obtain ⟨-, m2, m3⟩ := hm k (by omega)
    obtain ⟨v, hv, ev⟩ := b99 m3 h2
    rw [if_neg (nI_nm (by omega)), if_neg (nI_pos (by omega)), nI_clamp (by omega), ← m2 h2]
    by_cases hU : U = n
    · rw [if_pos hU, if_pos rfl, if_pos hU]
      exact ⟨rfl, 60 * v, by omega, by rw [ev]; exact pk_mul 60 v⟩
    · have hU1 : j ≤ U ∧ U < n ∧ ¬ fm U < 0 := by
        rcases hu with q | q
        · omega
        · exact ⟨q.1, by omega, q.2.2⟩
      obtain ⟨-, n2, n3⟩ := hm U hU1.2.1
      obtain ⟨u, hu2, eu⟩ := b99 n3 hU1.2.2
      rw [if_neg hU, if_neg (nI_nm (by omega)), if_neg hU, nI_clamp (by omega), ← n2 hU1.2.2]
      by_cases hkU : k = U
      · rw [if_neg (nI_nlt (by omega) (by omega)), if_pos (by rw [hkU])]
        exact ⟨rfl, 60 * v, by omega, by rw [ev]; exact pk_mul 60 v⟩
      · rw [if_pos (nI_lt (show k < U by omega) (by omega)), if_neg (fun q => hkU ((nq_eq k U (by omega) (by omega)).mp q))]
        refine ⟨rfl, 60 / (U - k) * (v * (U - j) + u * (j - k)), ?_, ?_⟩
        · have e1 : v * (U - j) ≤ 99 * (U - j) := Nat.mul_le_mul_right _ hv
          have e2 : u * (j - k) ≤ 99 * (j - k) := Nat.mul_le_mul_right _ hu2
          have e3 : v * (U - j) + u * (j - k) ≤ (U - k) * 99 := by omega
          have e4 := Nat.mul_le_mul_left (60 / (U - k)) e3
          have e5 := Nat.div_mul_le_self 60 (U - k)
          have e6 : 60 / (U - k) * ((U - k) * 99) = 60 / (U - k) * (U - k) * 99 := (Nat.mul_assoc _ _ _).symm
          omega
        · rw [ev, eu, pk_sub (show k ≤ U by omega), pk_sub (show j ≤ U by omega), pk_sub (show k ≤ j by omega), pk_mul, pk_mul, nI_add, show (60 : Int32) / nI (U - k) = nI (60 / (U - k)) from pk_div (a := 60) (by omega) (by omega) (by omega), pk_mul]
theorem vol_same {n : Nat} (hn : n ≤ 7) {fr fm : FN} {mi : Int32} (hm : MS n fr mi fm) (hx : ∃ k, k < n ∧ ¬ fm k < 0) : ∀ (m i : Nat) (x : Nat), i + m ≤ n → sVol fr n mi m i (nI x) = mVol fm n m i (nI x) ∧ ∃ y, y ≤ x + 5940 * m ∧ mVol fm n m i (nI x) = nI y
  | 0, i, x, _ => ⟨by rw [sVol, mVol], x, by omega, by rw [mVol]⟩
  | m + 1, i, x, h => by
    obtain ⟨e1, a, ha, e2⟩ := lev_same hn hm (show i < n by omega) hx
    unfold sVol mVol
    rw [e1, e2, nI_add]
    obtain ⟨q1, y, q2, q3⟩ := vol_same hn hm hx m (i + 1) (x + a) (by omega)
    exact ⟨q1, y, by omega, q3⟩
theorem vol0 {n : Nat} (hn : n ≤ 7) {fr fm : FN} {mi : Int32} (hm : MS n fr mi fm) (hx : ∃ k, k < n ∧ ¬ fm k < 0) : sVol fr n mi n 0 0 = mVol fm n n 0 0 ∧ ∃ y, y ≤ 41580 ∧ mVol fm n n 0 0 = nI y := by
  obtain ⟨q1, y, q2, q3⟩ := vol_same hn hm hx n 0 0 (by omega)
  exact ⟨q1, y, by omega, q3⟩
theorem jabs_nI {a b : Nat} (ha : a ≤ 41580) (hb : b ≤ 41580) : ∃ w, w ≤ 41580 ∧ jabs (nI a - nI b) = nI w := by
  by_cases h : b ≤ a
  · refine ⟨a - b, by omega, ?_⟩
    rw [pk_sub h]
    unfold jabs
    rw [if_pos (nI_pos' (show a - b < 2 ^ 31 by omega))]
  · refine ⟨b - a, by omega, ?_⟩
    have e : (nI a - nI b).toInt = (a : Int) - b := pk_sub_toInt (by omega) (by omega)
    have hl : nI a - nI b < 0 := (fa_lt _ _).mpr (by rw [e, i32_0]; omega)
    unfold jabs
    rw [if_neg (Int32.not_le.mpr hl), fa_eq, tI_sub (by rw [e, i32_0]; omega) (by rw [e, i32_0]; omega), e, i32_0, nI_toInt (by omega)]
    omega
theorem dbt_same {n : Nat} (hn : n ≤ 7) {fr : FN} (hr : RD n fr) (h2 : 2 ≤ cntM fr n 0 0) {al : Nat} (ha : al ≤ 41580) : ∀ (m i x : Nat), i + m ≤ n → x ≤ 41580 → sDbt fr n (nI al) m i (nI x) = mDbt fr n (nI al) m i (nI x) ∧ ∃ y, y ≤ 41580 ∧ mDbt fr n (nI al) m i (nI x) = nI y
  | 0, i, x, _, hx => ⟨by rw [sDbt, mDbt], x, hx, by rw [mDbt]⟩
  | m + 1, i, x, h, hx => by
    have hb := bet_neg (hr.1 i (by omega))
    unfold sDbt mDbt
    by_cases q : fr i = -1
    · rw [if_pos q, if_pos (hb.mpr q)]
      exact dbt_same hn hr h2 ha m (i + 1) x (by omega) hx
    · rw [if_neg q, if_neg (fun z => q (hb.mp z))]
      obtain ⟨e1, y, hy, e2⟩ := vol0 hn (MS_one hn hr (show i < n by omega)) (cntM_2 h2)
      rw [e1, e2]
      obtain ⟨w, hw, e3⟩ := jabs_nI hy ha
      rw [e3, jmax_nI x w (by omega) (by omega)]
      exact dbt_same hn hr h2 ha m (i + 1) (max x w) (by omega) (by omega)
theorem dvd_mod {d a : Nat} : a % d = 0 ↔ d ∣ a := ⟨Nat.dvd_of_mod_eq_zero, Nat.mod_eq_zero_of_dvd⟩
theorem clr_g {a : Nat} (ha : a < 2147483648) (wt : Int32) : ∀ d : Nat, 1 ≤ d → d ≤ 60 → (∀ e, d < e → e ≤ 60 → ¬ (e ∣ 60 ∧ e ∣ a)) → clr (nI a) wt d = prt a wt
  | 0, h, _, _ => by omega
  | 1, _, _, hm => by
    have g1 := Nat.gcd_dvd_left a 60
    have g2 := Nat.gcd_dvd_right a 60
    have g3 : Nat.gcd a 60 ≤ 60 := Nat.le_of_dvd (by omega) g2
    have g4 : 0 < Nat.gcd a 60 := Nat.gcd_pos_of_pos_right a (by omega)
    have g5 : Nat.gcd a 60 = 1 := by
      by_cases q : 1 < Nat.gcd a 60
      · exact absurd ⟨g2, g1⟩ (hm _ q g3)
      · omega
    unfold clr prt
    rw [g5]
    by_cases hw : wt = 0
    · rw [if_pos hw, pk_div ha (by omega) (by omega), Nat.div_one]
    · rw [if_neg hw]
      rfl
  | d + 2, _, h60, hm => by
    have e60 : (60 : Int32) - 60 / nI (d + 2) * nI (d + 2) = nI (60 % (d + 2)) := pk_rem (a := 60) (by omega) (by omega) (by omega)
    have ea : nI a - nI a / nI (d + 2) * nI (d + 2) = nI (a % (d + 2)) := pk_rem ha (by omega) (by omega)
    have hl1 : 60 % (d + 2) < d + 2 := Nat.mod_lt _ (by omega)
    have hl2 : a % (d + 2) < d + 2 := Nat.mod_lt _ (by omega)
    have nx : ¬ (d + 2 ∣ 60 ∧ d + 2 ∣ a) → clr (nI a) wt (d + 1) = prt a wt := fun q => clr_g ha wt (d + 1) (by omega) (by omega) (fun e h1 h2 h3 => by
      by_cases he : e = d + 2
      · rw [he] at h3; exact q h3
      · exact hm e (by omega) h2 h3)
    unfold clr
    rw [e60, ea]
    by_cases h1 : nI (60 % (d + 2)) = 0
    · rw [if_pos h1]
      by_cases h2 : nI (a % (d + 2)) = 0
      · rw [if_pos h2]
        have d1 : d + 2 ∣ 60 := dvd_mod.mp ((nq_eq _ 0 (by omega) (by omega)).mp h1)
        have d2 : d + 2 ∣ a := dvd_mod.mp ((nq_eq _ 0 (by omega) (by omega)).mp h2)
        have g1 := Nat.gcd_dvd_left a 60
        have g2 := Nat.gcd_dvd_right a 60
        have g3 : Nat.gcd a 60 ≤ 60 := Nat.le_of_dvd (by omega) g2
        have g4 : 0 < Nat.gcd a 60 := Nat.gcd_pos_of_pos_right a (by omega)
        have g6 : d + 2 ≤ Nat.gcd a 60 := Nat.le_of_dvd g4 (Nat.dvd_gcd d2 d1)
        have g5 : Nat.gcd a 60 = d + 2 := by
          by_cases q : d + 2 < Nat.gcd a 60
          · exact absurd ⟨g2, g1⟩ (hm _ q g3)
          · omega
        unfold prt
        rw [g5]
        by_cases hw : wt = 0
        · rw [if_pos hw, if_pos hw]
        · rw [if_neg hw, if_neg hw]
      · rw [if_neg h2]
        exact nx (fun q => h2 (by rw [dvd_mod.mpr q.2]; rfl))
    · rw [if_neg h1]
      exact nx (fun q => h1 (by rw [dvd_mod.mpr q.1]; rfl))
theorem clr_60 {a : Nat} (ha : a < 2147483648) (wt : Int32) : clr (nI a) wt 60 = prt a wt := clr_g ha wt 60 (by omega) (by omega) (fun e h1 h2 _ => by omega)
