/-! plans: the class's search and the reference's find the same -/
theorem cntY_ge (kw : FN) : ∀ (m i x : Nat), x ≤ cntY kw m i x
  | 0, _, x => Nat.le_refl x
  | m + 1, i, x => by
    unfold cntY
    by_cases h : kw i = 2
    · rw [if_pos h]; have := cntY_ge kw m (i + 1) (x + 1); omega
    · rw [if_neg h]; exact cntY_ge kw m (i + 1) x
def KV (kw : FN) (c : Nat) : Prop := ∀ i, i < c → kw i = 0 ∨ kw i = 1 ∨ kw i = 2
theorem bgY_ag {n : Nat} {tf fp fp' : FN} {fz : Int32} {y ly : Nat} (h : ∀ z, z < 3 → z ≤ ly → fp z = fp' z) (hy : y ≤ ly) : bgY n tf fp fz y = bgY n tf fp' fz y := by
  unfold bgY
  by_cases h3 : y < 3
  · rw [if_pos h3, if_pos h3, h y h3 hy]
  · rw [if_neg h3, if_neg h3]
theorem pl_ag {φ ψ ν : Int32 → Int32 → Int32} {n : Nat} {fp fp' : FN} {fz : Int32} {kw vw : FN} {c ly : Nat} (hK : KV kw c) (h : ∀ z, z < 3 → z ≤ ly → fp z = fp' z) : ∀ (m i y : Nat) (th tg tf tk : FN) (ts tb td : Int32), i + m ≤ c → cntY kw m i y ≤ ly → pl φ ψ ν n fp fz kw vw m i y th tg tf tk ts tb td = pl φ ψ ν n fp' fz kw vw m i y th tg tf tk ts tb td
  | 0, i, y, th, tg, tf, tk, ts, tb, td, _, _ => rfl
  | m + 1, i, y, th, tg, tf, tk, ts, tb, td, hi, hc => by
    unfold pl
    unfold cntY at hc
    by_cases h0 : kw i = 0
    · rw [if_pos h0, if_pos h0]
      rw [if_neg (fun q => absurd (h0.symm.trans q) (by decide))] at hc
      exact pl_ag hK h m (i + 1) y _ _ _ _ _ _ _ (by omega) hc
    · rw [if_neg h0, if_neg h0]
      by_cases h1 : kw i = 1
      · rw [if_pos h1, if_pos h1]
        rw [if_neg (fun q => absurd (h1.symm.trans q) (by decide))] at hc
        exact pl_ag hK h m (i + 1) y _ _ _ _ _ _ _ (by omega) hc
      · rw [if_neg h1, if_neg h1]
        have h2 : kw i = 2 := ((hK i (by omega)).resolve_left h0).resolve_left h1
        rw [if_pos h2] at hc
        have hge := cntY_ge kw m (i + 1) (y + 1)
        rw [bgY_ag h (show y + 1 ≤ ly by omega)]
        exact pl_ag hK h m (i + 1) (y + 1) _ _ _ _ _ _ _ (by omega) hc
theorem plW_ag {φ ψ ν : Int32 → Int32 → Int32} {n : Nat} {fz : Int32} {ct : Nat → Nat} {kd vl : Nat → FN} {fh fg ff fk : FN} {vs vb : Int32} {fp fp' : FN} {w ly : Nat} (hK : KV (kd w) (ct w)) (h : ∀ z, z < 3 → z ≤ ly → fp z = fp' z) (hl : cntY (kd w) (ct w) 0 0 ≤ ly) : plW φ ψ ν n fz ct kd vl fh fg ff fk vs vb fp w = plW φ ψ ν n fz ct kd vl fh fg ff fk vs vb fp' w := by
  unfold plW
  rw [bgY_ag h (Nat.zero_le ly)]
  exact pl_ag hK h (ct w) 0 0 _ _ _ _ _ _ _ (by omega) hl
theorem lastY_ge {ct : Nat → Nat} {kd : Nat → FN} {w : Nat} (hw : w < 3) : cntY (kd w) (ct w) 0 0 ≤ lastY ct kd := by
  unfold lastY
  rcases (show w = 0 ∨ w = 1 ∨ w = 2 by omega) with rfl | rfl | rfl <;> omega
theorem hld_c {ct : Nat → Nat} {cr fl cr' fl' : Nat → Int32} (h : ∀ w, w < 3 → cr w = cr' w ∧ fl w = fl' w) : hld ct cr fl = hld ct cr' fl' := by
  unfold hld hSt
  rw [(h 0 (by omega)).1, (h 0 (by omega)).2, (h 1 (by omega)).1, (h 1 (by omega)).2, (h 2 (by omega)).1, (h 2 (by omega)).2]
theorem hld_ag {φ ψ ν : Int32 → Int32 → Int32} {n : Nat} {fz : Int32} {ct : Nat → Nat} {kd vl : Nat → FN} {fh fg ff fk : FN} {vs vb : Int32} (hK : ∀ w, KV (kd w) (ct w)) (fp fp' : FN) (h : ∀ z, z < 3 → z ≤ lastY ct kd → fp z = fp' z) : hld ct (crW φ ψ ν n fz ct kd vl fh fg ff fk vs vb fp) (flW φ ψ ν n fz ct kd vl fh fg ff fk vs vb fp) = hld ct (crW φ ψ ν n fz ct kd vl fh fg ff fk vs vb fp') (flW φ ψ ν n fz ct kd vl fh fg ff fk vs vb fp') := by
  refine hld_c (fun w hw => ?_)
  unfold crW flW
  rw [plW_ag (hK w) h (lastY_ge hw)]
  exact ⟨rfl, rfl⟩
/-- the class's early ends change nothing -/
theorem wSt_h {ct : Nat → Nat} {cr fl : Nat → Int32} {fo : Int32} (h0 : 0 ≤ fo) (w : Nat) {k K : Int32 → Int32} (hk : ∀ a, fo ≤ a → k a = if fo ≤ K a then K a else -1) (hm : ∀ a, ¬ fo ≤ a → ¬ fo ≤ K a) (x : Int32) (hx : fo ≤ x) : wSt ct cr fl fo w x k = if fo ≤ K (hSt ct cr fl w x) then K (hSt ct cr fl w x) else -1 := by
  have hm1 : ¬ fo ≤ -1 := fun q => by
    simp only [fa_le, i32_0, i32_m1] at q h0
    omega
  by_cases hc : 0 < ct w
  · rw [hSt_1 x hc]
    by_cases hf : 0 < fl w
    · rw [wSt_f hc hf, if_pos hf]
      have hj : jmin x (-1) = -1 := by
        unfold jmin
        rw [if_pos (Int32.not_le.mp (fun q => hm1 (Int32.le_trans hx q)))]
      rw [hj, if_neg (hm _ hm1)]
    · rw [if_neg hf]
      by_cases hl : fo ≤ jmin x (cr w)
      · rw [wSt_k hc hf hl]; exact hk _ hl
      · rw [wSt_l hc hf hl, if_neg (hm _ hl)]
  · rw [wSt_0 (Nat.not_lt.mp hc), hSt_0 x (Nat.not_lt.mp hc)]
    exact hk x hx
theorem jmin_le (x y : Int32) : jmin x y ≤ x := by
  unfold jmin
  by_cases h : y < x
  · rw [if_pos h]; exact Int32.le_of_lt h
  · rw [if_neg h]; exact Int32.le_refl x
theorem hSt_le (ct : Nat → Nat) (cr fl : Nat → Int32) (w : Nat) (x : Int32) : hSt ct cr fl w x ≤ x := by
  unfold hSt
  by_cases h : 0 < ct w
  · rw [if_pos h]; exact jmin_le _ _
  · rw [if_neg h]; exact Int32.le_refl x
theorem wCr_h {ct : Nat → Nat} {cr fl : Nat → Int32} {fo : Int32} (h0 : 0 ≤ fo) (h9 : fo ≤ 99) : wCr ct cr fl fo = if fo ≤ hld ct cr fl then hld ct cr fl else -1 := by
  unfold wCr hld
  refine wSt_h (K := fun a => hSt ct cr fl 2 (hSt ct cr fl 1 a)) h0 0 (fun a ha => ?_) (fun a ha q => ha (Int32.le_trans (Int32.le_trans q (hSt_le ct cr fl 2 _)) (hSt_le ct cr fl 1 a))) 99 h9
  refine wSt_h (K := fun a => hSt ct cr fl 2 a) h0 1 (fun a ha => ?_) (fun a ha q => ha (Int32.le_trans q (hSt_le ct cr fl 2 a))) a ha
  refine wSt_h (K := fun a => a) h0 2 (fun a ha => ?_) (fun a ha => ha) a ha
  rw [if_pos ha]
theorem wSt_le {ct : Nat → Nat} {cr fl : Nat → Int32} {fo : Int32} (w : Nat) {k : Int32 → Int32} (hk : ∀ a, a ≤ 99 → k a ≤ 99) (x : Int32) (hx : x ≤ 99) : wSt ct cr fl fo w x k ≤ 99 := by
  unfold wSt
  split
  · split
    · decide
    · split
      · decide
      · exact hk _ (Int32.le_trans (jmin_le _ _) hx)
  · exact hk x hx
theorem wCr_le (ct : Nat → Nat) (cr fl : Nat → Int32) (fo : Int32) : wCr ct cr fl fo ≤ 99 := wSt_le 0 (fun a ha => wSt_le 1 (fun a ha => wSt_le 2 (fun a ha => ha) a ha) a ha) 99 (Int32.le_refl 99)
theorem hld_le (ct : Nat → Nat) (cr fl : Nat → Int32) : hld ct cr fl ≤ 99 := Int32.le_trans (Int32.le_trans (hSt_le ct cr fl 2 _) (hSt_le ct cr fl 1 _)) (hSt_le ct cr fl 0 99)
theorem hSt_ge {ct : Nat → Nat} {cr fl : Nat → Int32} {w : Nat} {x : Int32} (hc : 0 ≤ cr w) (hx : -1 ≤ x) : -1 ≤ hSt ct cr fl w x := by
  unfold hSt
  split
  · have h1 : -1 ≤ if 0 < fl w then -1 else cr w := by
      split
      · exact Int32.le_refl _
      · exact Int32.le_trans (by decide) hc
    generalize (if 0 < fl w then -1 else cr w) = z at h1 ⊢
    unfold jmin
    split
    · exact h1
    · exact hx
  · exact hx
theorem hld_ge {ct : Nat → Nat} {cr fl : Nat → Int32} (hc : ∀ w, 0 ≤ cr w) : -1 ≤ hld ct cr fl := hSt_ge (hc 2) (hSt_ge (hc 1) (hSt_ge (hc 0) (by decide)))
theorem gMax_ge (fh : FN) : ∀ (m j : Nat) (x : Int32), x ≤ gMax fh m j x
  | 0, _, x => Int32.le_refl x
  | m + 1, j, x => by
    refine Int32.le_trans ?_ (gMax_ge fh m (j + 1) (jmax x (fh j)))
    unfold jmax
    split
    · rename_i h; exact Int32.le_of_lt h
    · exact Int32.le_refl x
theorem crW_ge {φ ψ ν : Int32 → Int32 → Int32} {n : Nat} {fz : Int32} {ct : Nat → Nat} {kd vl : Nat → FN} {fh fg ff fk : FN} {vs vb : Int32} (fp : FN) (w : Nat) : 0 ≤ crW φ ψ ν n fz ct kd vl fh fg ff fk vs vb fp w := gMax_ge _ _ _ _
/-! codes and numbers -/
def ed (n d : Nat) : Nat := if d < n then d else 7
def fI (n d : Nat) : Nat := if d = 7 then n else d
def cdR (n ly k : Nat) : Nat := 64 * ed n (md0 n k) + 8 * (if 1 ≤ ly then ed n (md1 n k) else 7) + (if 2 ≤ ly then ed n (md2 n k) else 7)
def kOf (n cd : Nat) : Nat := (fI n (dg cd 0) * (n + 1) + fI n (dg cd 1)) * (n + 1) + fI n (dg cd 2)
theorem dg0 (cd : Nat) : dg cd 0 = cd / 64 % 8 := rfl
theorem dg1 (cd : Nat) : dg cd 1 = cd / 8 % 8 := rfl
theorem dg2 (cd : Nat) : dg cd 2 = cd % 8 := by
  unfold dg
  rw [show 8 ^ (2 - 2) = 1 from rfl, Nat.div_one]
theorem ed_or (n d : Nat) : (d < n ∧ ed n d = d) ∨ (n ≤ d ∧ ed n d = 7) := by
  unfold ed
  by_cases h : d < n
  · rw [if_pos h]; exact Or.inl ⟨h, rfl⟩
  · rw [if_neg h]; exact Or.inr ⟨by omega, rfl⟩
theorem fI_or (n d : Nat) : (d = 7 ∧ fI n d = n) ∨ (d ≠ 7 ∧ fI n d = d) := by
  unfold fI
  by_cases h : d = 7
  · rw [if_pos h]; exact Or.inl ⟨h, rfl⟩
  · rw [if_neg h]; exact Or.inr ⟨h, rfl⟩
theorem md_le (n k : Nat) : md0 n k ≤ n ∧ md1 n k ≤ n ∧ md2 n k ≤ n := by
  unfold md0 md1 md2
  exact ⟨Nat.le_of_lt_succ (Nat.mod_lt _ (by omega)), Nat.le_of_lt_succ (Nat.mod_lt _ (by omega)), Nat.le_of_lt_succ (Nat.mod_lt _ (by omega))⟩
theorem md_num {n : Nat} (h3 : 3 ≤ n) (h7 : n ≤ 7) {a b c : Nat} (ha : a ≤ n) (hb : b ≤ n) (hc : c ≤ n) : (a * (n + 1) + b) * (n + 1) + c < (n + 1) * (n + 1) * (n + 1) ∧ md0 n ((a * (n + 1) + b) * (n + 1) + c) = a ∧ md1 n ((a * (n + 1) + b) * (n + 1) + c) = b ∧ md2 n ((a * (n + 1) + b) * (n + 1) + c) = c := by
  unfold md0 md1 md2
  rcases (show n = 3 ∨ n = 4 ∨ n = 5 ∨ n = 6 ∨ n = 7 by omega) with rfl | rfl | rfl | rfl | rfl <;> (refine ⟨?_, ?_, ?_, ?_⟩ <;> omega)
theorem num_md {n k : Nat} (h3 : 3 ≤ n) (h7 : n ≤ 7) (hk : k < (n + 1) * (n + 1) * (n + 1)) : k = (md0 n k * (n + 1) + md1 n k) * (n + 1) + md2 n k := by
  unfold md0 md1 md2
  rcases (show n = 3 ∨ n = 4 ∨ n = 5 ∨ n = 6 ∨ n = 7 by omega) with rfl | rfl | rfl | rfl | rfl <;> omega
theorem kOf_md {n ly cd : Nat} (h3 : 3 ≤ n) (h7 : n ≤ 7) (hok : okP n ly cd) : kOf n cd < (n + 1) * (n + 1) * (n + 1) ∧ md0 n (kOf n cd) = fI n (dg cd 0) ∧ md1 n (kOf n cd) = fI n (dg cd 1) ∧ md2 n (kOf n cd) = fI n (dg cd 2) := by
  obtain ⟨o0, o1, o2⟩ := hok
  unfold okY at o0 o1 o2
  have q0 := fI_or n (dg cd 0)
  have q1 := fI_or n (dg cd 1)
  have q2 := fI_or n (dg cd 2)
  exact md_num h3 h7 (by omega) (by omega) (by omega)
theorem ld_fI {n d : Nat} (h7 : n ≤ 7) (h : d = 7 ∨ d < n) : ld n (fI n d) = if d = 7 then -1 else nI d := by
  unfold ld fI
  by_cases h1 : d = 7
  · rw [if_pos h1, if_pos h1, if_neg (Nat.lt_irrefl n)]
  · rw [if_neg h1, if_neg h1, if_pos (h.resolve_left h1)]
theorem one_fI {n d : Nat} (h : d = 7 ∨ d < n) : one n (fI n d) = if d = 7 then 0 else 1 := by
  unfold one fI
  by_cases h1 : d = 7
  · rw [if_pos h1, if_pos h1, if_neg (Nat.lt_irrefl n)]
  · rw [if_neg h1, if_neg h1, if_pos (h.resolve_left h1)]
theorem lyp_kOf {n ly cd : Nat} (h3 : 3 ≤ n) (h7 : n ≤ 7) (hok : okP n ly cd) : ∀ y, y < 3 → lyp n (kOf n cd) y = dcd cd y := by
  obtain ⟨-, e0, e1, e2⟩ := kOf_md h3 h7 hok
  obtain ⟨o0, o1, o2⟩ := hok
  intro y hy
  unfold lyp dcd
  rcases (show y = 0 ∨ y = 1 ∨ y = 2 by omega) with rfl | rfl | rfl
  · show ld n (md0 n (kOf n cd)) = _
    rw [e0]; exact ld_fI h7 (o0.imp id (fun q => q.1))
  · show ld n (md1 n (kOf n cd)) = _
    rw [e1]; exact ld_fI h7 (o1.imp id (fun q => q.1))
  · show ld n (md2 n (kOf n cd)) = _
    rw [e2]; exact ld_fI h7 (o2.imp id (fun q => q.1))
theorem nfs_dcd (cd y : Nat) : nfs (dcd cd y) = if dg cd y = 7 then 0 else 1 := by
  unfold nfs dcd
  have := dg_lt cd y
  by_cases h : dg cd y = 7
  · rw [if_pos h, if_pos h, if_pos rfl]
  · rw [if_neg h, if_neg h, if_neg]
    intro q
    have h2 := (fa_eq _ _).mp q
    rw [nI_toInt (by omega), i32_m1] at h2
    omega
theorem nfen_dcd (cd : Nat) : nfen (dcd cd) = (if dg cd 0 = 7 then 0 else 1) + (if dg cd 1 = 7 then 0 else 1) + (if dg cd 2 = 7 then 0 else 1) := by
  unfold nfen
  rw [nfs_dcd, nfs_dcd, nfs_dcd]
theorem mny_kOf {n ly cd : Nat} (h3 : 3 ≤ n) (h7 : n ≤ 7) (hok : okP n ly cd) : mny n (kOf n cd) = nfen (dcd cd) := by
  obtain ⟨-, e0, e1, e2⟩ := kOf_md h3 h7 hok
  obtain ⟨o0, o1, o2⟩ := hok
  rw [nfen_dcd]
  unfold mny
  rw [e0, e1, e2, one_fI (o0.imp id (fun q => q.1)), one_fI (o1.imp id (fun q => q.1)), one_fI (o2.imp id (fun q => q.1))]
theorem cdR_dg (n ly k : Nat) (h7 : n ≤ 7) : cdR n ly k < 512 ∧ dg (cdR n ly k) 0 = ed n (md0 n k) ∧ dg (cdR n ly k) 1 = (if 1 ≤ ly then ed n (md1 n k) else 7) ∧ dg (cdR n ly k) 2 = (if 2 ≤ ly then ed n (md2 n k) else 7) := by
  rw [dg0, dg1, dg2]
  unfold cdR
  have q0 := ed_or n (md0 n k)
  have q1 := ed_or n (md1 n k)
  have q2 := ed_or n (md2 n k)
  have b1 : (if 1 ≤ ly then ed n (md1 n k) else 7) < 8 := by split <;> omega
  have b2 : (if 2 ≤ ly then ed n (md2 n k) else 7) < 8 := by split <;> omega
  have b0 : ed n (md0 n k) < 8 := by omega
  generalize (if 1 ≤ ly then ed n (md1 n k) else 7) = x at b1 ⊢
  generalize (if 2 ≤ ly then ed n (md2 n k) else 7) = y at b2 ⊢
  generalize ed n (md0 n k) = z at b0 ⊢
  refine ⟨?_, ?_, ?_, ?_⟩ <;> omega
theorem cdR_ok {n k : Nat} (ly : Nat) (h7 : n ≤ 7) : okP n ly (cdR n ly k) := by
  obtain ⟨-, e0, e1, e2⟩ := cdR_dg n ly k h7
  have q0 := ed_or n (md0 n k)
  have q1 := ed_or n (md1 n k)
  have q2 := ed_or n (md2 n k)
  unfold okP okY
  rw [e0, e1, e2]
  refine ⟨by omega, ?_, ?_⟩
  · by_cases h : 1 ≤ ly
    · rw [if_pos h]; omega
    · rw [if_neg h]; exact Or.inl rfl
  · by_cases h : 2 ≤ ly
    · rw [if_pos h]; omega
    · rw [if_neg h]; exact Or.inl rfl
theorem ld_ed {n d : Nat} (h7 : n ≤ 7) : (if ed n d = 7 then (-1 : Int32) else nI (ed n d)) = ld n d := by
  unfold ld
  rcases ed_or n d with ⟨h1, h2⟩ | ⟨h1, h2⟩
  · rw [h2, if_neg (by omega), if_pos h1]
  · rw [h2, if_pos rfl, if_neg (by omega)]
theorem dcd_cdR {n k : Nat} (ly : Nat) (h7 : n ≤ 7) : ∀ y, y < 3 → y ≤ ly → lyp n k y = dcd (cdR n ly k) y := by
  obtain ⟨-, e0, e1, e2⟩ := cdR_dg n ly k h7
  intro y hy hl
  unfold dcd
  rcases (show y = 0 ∨ y = 1 ∨ y = 2 by omega) with rfl | rfl | rfl
  · rw [e0, ld_ed h7]; rfl
  · rw [e1, if_pos hl, ld_ed h7]; rfl
  · rw [e2, if_pos hl, ld_ed h7]; rfl
theorem one_ed {n d : Nat} (h7 : n ≤ 7) : (if ed n d = 7 then 0 else 1) = one n d := by
  unfold one
  rcases ed_or n d with ⟨h1, h2⟩ | ⟨h1, h2⟩
  · rw [h2, if_neg (by omega), if_pos h1]
  · rw [h2, if_pos rfl, if_neg (by omega)]
theorem nfen_cdR {n k : Nat} (ly : Nat) (h7 : n ≤ 7) : nfen (dcd (cdR n ly k)) ≤ mny n k ∧ (nfen (dcd (cdR n ly k)) = mny n k → cdR n ly k = 64 * ed n (md0 n k) + 8 * ed n (md1 n k) + ed n (md2 n k)) := by
  obtain ⟨-, e0, e1, e2⟩ := cdR_dg n ly k h7
  rw [nfen_dcd, e0, e1, e2]
  unfold mny
  rw [← one_ed (n := n) (d := md0 n k) h7, ← one_ed (n := n) (d := md1 n k) h7, ← one_ed (n := n) (d := md2 n k) h7]
  unfold cdR
  by_cases h1 : 1 ≤ ly
  · by_cases h2 : 2 ≤ ly
    · simp only [if_pos h1, if_pos h2]
      exact ⟨Nat.le_refl _, fun _ => trivial⟩
    · simp only [if_pos h1, if_neg h2, if_true]
      refine ⟨by omega, fun q => ?_⟩
      by_cases h3 : ed n (md2 n k) = 7
      · rw [h3]
      · rw [if_neg h3] at q; omega
  · simp only [if_neg h1, if_neg (show ¬ 2 ≤ ly by omega), if_true]
    refine ⟨by omega, fun q => ?_⟩
    by_cases h3 : ed n (md2 n k) = 7
    · by_cases h4 : ed n (md1 n k) = 7
      · rw [h3, h4]
      · rw [if_neg h4] at q; omega
    · rw [if_neg h3] at q; omega
theorem ord_md {n : Nat} (h3 : 3 ≤ n) (h7 : n ≤ 7) {x0 x1 x2 y0 y1 y2 d0 d1 d2 e0 e1 e2 : Nat} (hx0 : (d0 = 7 ∧ x0 = n) ∨ (d0 < n ∧ x0 = d0)) (hx1 : (d1 = 7 ∧ x1 = n) ∨ (d1 < n ∧ x1 = d1)) (hx2 : (d2 = 7 ∧ x2 = n) ∨ (d2 < n ∧ x2 = d2)) (hy0 : (e0 = 7 ∧ y0 = n) ∨ (e0 < n ∧ y0 = e0)) (hy1 : (e1 = 7 ∧ y1 = n) ∨ (e1 < n ∧ y1 = e1)) (hy2 : (e2 = 7 ∧ y2 = n) ∨ (e2 < n ∧ y2 = e2)) (h : 64 * d0 + 8 * d1 + d2 ≤ 64 * e0 + 8 * e1 + e2) : (x0 * (n + 1) + x1) * (n + 1) + x2 ≤ (y0 * (n + 1) + y1) * (n + 1) + y2 := by
  have k0 : (d0 < e0 ∧ x0 < y0) ∨ (d0 = e0 ∧ x0 = y0) ∨ (e0 < d0) := by omega
  have k1 : (d1 < e1 ∧ x1 < y1) ∨ (d1 = e1 ∧ x1 = y1) ∨ (e1 < d1) := by omega
  have k2 : (d2 < e2 ∧ x2 < y2) ∨ (d2 = e2 ∧ x2 = y2) ∨ (e2 < d2) := by omega
  have b0 : d0 ≤ 7 ∧ d1 ≤ 7 ∧ d2 ≤ 7 ∧ e0 ≤ 7 ∧ e1 ≤ 7 ∧ e2 ≤ 7 := by omega
  have c0 : x0 ≤ n ∧ x1 ≤ n ∧ x2 ≤ n ∧ y0 ≤ n ∧ y1 ≤ n ∧ y2 ≤ n := by omega
  have lex : x0 < y0 ∨ (x0 = y0 ∧ (x1 < y1 ∨ (x1 = y1 ∧ x2 ≤ y2))) := by omega
  clear hx0 hx1 hx2 hy0 hy1 hy2 h k0 k1 k2 b0
  rcases (show n = 3 ∨ n = 4 ∨ n = 5 ∨ n = 6 ∨ n = 7 by omega) with rfl | rfl | rfl | rfl | rfl <;> omega
theorem kOf_le {n ly cd b : Nat} (h3 : 3 ≤ n) (h7 : n ≤ 7) (hc : cd < 512) (hok : okP n ly cd) (hb : b < (n + 1) * (n + 1) * (n + 1)) (h : cd ≤ 64 * ed n (md0 n b) + 8 * ed n (md1 n b) + ed n (md2 n b)) : kOf n cd ≤ b := by
  rw [num_md h3 h7 hb]
  obtain ⟨o0, o1, o2⟩ := hok
  unfold okY at o0 o1 o2
  have f0 := fI_or n (dg cd 0)
  have f1 := fI_or n (dg cd 1)
  have f2 := fI_or n (dg cd 2)
  have q0 := ed_or n (md0 n b)
  have q1 := ed_or n (md1 n b)
  have q2 := ed_or n (md2 n b)
  obtain ⟨l0, l1, l2⟩ := md_le n b
  have hcd : cd = 64 * dg cd 0 + 8 * dg cd 1 + dg cd 2 := by rw [dg0, dg1, dg2]; omega
  unfold kOf
  exact ord_md h3 h7 (d0 := dg cd 0) (d1 := dg cd 1) (d2 := dg cd 2) (e0 := ed n (md0 n b)) (e1 := ed n (md1 n b)) (e2 := ed n (md2 n b)) (by omega) (by omega) (by omega) (by omega) (by omega) (by omega) (by omega)
/-- the class's choice and the reference's are one -/
theorem plan_same {n ly : Nat} (h3 : 3 ≤ n) (h7 : n ≤ 7) {S : FN → Prop} (hag : ∀ fp fp' : FN, (∀ z, z < 3 → z ≤ ly → fp z = fp' z) → (S fp ↔ S fp')) {w cd b : Nat} (hc : cd < 512) (hok : okP n ly cd) (hw : nfen (dcd cd) = w) (hS : S (dcd cd)) (hmin : ∀ w2 c2, c2 < 512 → w2 < w ∨ (w2 = w ∧ c2 < cd) → ¬ (okP n ly c2 ∧ nfen (dcd c2) = w2 ∧ S (dcd c2)))
    (hb : b < (n + 1) * (n + 1) * (n + 1)) (hSb : S (lyp n b)) (hb1 : ∀ k, k < (n + 1) * (n + 1) * (n + 1) → S (lyp n k) → mny n b ≤ mny n k) (hb2 : ∀ k, k < b → S (lyp n k) → mny n b < mny n k) : b = kOf n cd ∧ mny n b = w := by
  have hkS : S (lyp n (kOf n cd)) := (hag _ _ (fun z hz _ => lyp_kOf h3 h7 hok z hz)).mpr hS
  have hkm := mny_kOf h3 h7 hok
  have hkl := (kOf_md h3 h7 hok).1
  have m1 : mny n b ≤ w := by have := hb1 _ hkl hkS; omega
  obtain ⟨n1, n2⟩ := nfen_cdR (k := b) ly h7
  have hRl := (cdR_dg n ly b h7).1
  have hRS : S (dcd (cdR n ly b)) := (hag _ _ (dcd_cdR ly h7)).mp hSb
  have hRo : okP n ly (cdR n ly b) := cdR_ok ly h7
  have m2 : w ≤ nfen (dcd (cdR n ly b)) := Nat.not_lt.mp (fun q => hmin _ _ hRl (Or.inl q) ⟨hRo, rfl, hRS⟩)
  have m3 : nfen (dcd (cdR n ly b)) = mny n b := by omega
  have m4 : cd ≤ cdR n ly b := Nat.not_lt.mp (fun q => hmin _ _ hRl (Or.inr ⟨rfl, q⟩) ⟨hRo, by omega, hRS⟩)
  rw [n2 m3] at m4
  have m5 := kOf_le h3 h7 hc hok hb m4
  have m6 : b ≤ kOf n cd := Nat.not_lt.mp (fun q => by have := hb2 _ q hkS; omega)
  exact ⟨by omega, by omega⟩
theorem plan_none {n ly : Nat} (h3 : 3 ≤ n) (h7 : n ≤ 7) {S : FN → Prop} (hag : ∀ fp fp' : FN, (∀ z, z < 3 → z ≤ ly → fp z = fp' z) → (S fp ↔ S fp')) (hno : ∀ w2 c2, w2 ≤ 3 → c2 < 512 → ¬ (okP n ly c2 ∧ nfen (dcd c2) = w2 ∧ S (dcd c2))) (k : Nat) : ¬ S (lyp n k) := fun q =>
  hno _ _ (nfen_le _) (cdR_dg n ly k h7).1 ⟨cdR_ok ly h7, rfl, (hag _ _ (dcd_cdR ly h7)).mp q⟩
theorem plan_some {n ly : Nat} (h3 : 3 ≤ n) (h7 : n ≤ 7) {S : FN → Prop} (hag : ∀ fp fp' : FN, (∀ z, z < 3 → z ≤ ly → fp z = fp' z) → (S fp ↔ S fp')) {cd : Nat} (hok : okP n ly cd) (hS : S (dcd cd)) : kOf n cd < (n + 1) * (n + 1) * (n + 1) ∧ S (lyp n (kOf n cd)) := ⟨(kOf_md h3 h7 hok).1, (hag _ _ (fun z hz _ => lyp_kOf h3 h7 hok z hz)).mpr hS⟩
/-! the greatest aim -/
theorem mo_step {x h : Int32} {ct : Nat → Nat} {cr fl : Nat → Int32} (eh : h = hld ct cr fl) (hx : bet (-1) 99 x) : jmax x (wCr ct cr fl (x + 1)) = if x < h then h else x := by
  obtain ⟨h1, h2⟩ := hx
  have e1 : (x + 1).toInt = x.toInt + 1 := by rw [tI_add (by rw [i32_1]; omega) (by rw [i32_1]; omega), i32_1]
  by_cases h9 : x.toInt = 99
  · have hle : h ≤ 99 := by rw [eh]; exact hld_le ct cr fl
    have hwl := wCr_le ct cr fl (x + 1)
    unfold jmax
    rw [if_neg, if_neg]
    · intro q
      simp only [fa_lt, fa_le, i32_99] at q hle
      omega
    · intro q
      simp only [fa_lt, fa_le, i32_99] at q hwl
      omega
  · have h0 : (0 : Int32) ≤ x + 1 := (fa_le _ _).mpr (by rw [i32_0, e1]; omega)
    have h99 : x + 1 ≤ 99 := (fa_le _ _).mpr (by rw [i32_99, e1]; omega)
    rw [wCr_h h0 h99, ← eh]
    by_cases hc : x + 1 ≤ h
    · have hl : x < h := (fa_lt _ _).mpr (by have := (fa_le _ _).mp hc; omega)
      rw [if_pos hc, if_pos hl]
      unfold jmax
      rw [if_pos hl]
    · have hl : ¬ x < h := fun q => hc ((fa_le _ _).mpr (by have := (fa_lt _ _).mp q; omega))
      rw [if_neg hc, if_neg hl]
      unfold jmax
      rw [if_neg (fun q => by have := (fa_lt _ _).mp q; rw [i32_m1] at this; omega)]
/-- the class's fold: an upper bound of all, and one of them or -1 -/
theorem mo_spec {n ly : Nat} {ct : Nat → Nat} {cr fl : FN → Nat → Int32} (hb : ∀ fp, bet (-1) 99 (hld ct (cr fp) (fl fp))) : ∀ (m cd : Nat) (x : Int32), bet (-1) 99 x → bet (-1) 99 (mo n ly ct cr fl m cd x) ∧ x ≤ mo n ly ct cr fl m cd x ∧ (∀ c, cd ≤ c → c < cd + m → okP n ly c → hld ct (cr (dcd c)) (fl (dcd c)) ≤ mo n ly ct cr fl m cd x) ∧ (mo n ly ct cr fl m cd x = x ∨ ∃ c, cd ≤ c ∧ c < cd + m ∧ okP n ly c ∧ mo n ly ct cr fl m cd x = hld ct (cr (dcd c)) (fl (dcd c)))
  | 0, cd, x, hx => ⟨hx, Int32.le_refl x, fun c h1 h2 => by omega, Or.inl rfl⟩
  | m + 1, cd, x, hx => by
    by_cases hok : okP n ly cd
    · have es : mo n ly ct cr fl (m + 1) cd x = mo n ly ct cr fl m (cd + 1) (if x < hld ct (cr (dcd cd)) (fl (dcd cd)) then hld ct (cr (dcd cd)) (fl (dcd cd)) else x) := by
        show mo n ly ct cr fl m (cd + 1) (@ite _ _ (okPd n ly cd) _ _) = _
        rw [if_pos hok, mo_step rfl hx]
      rw [es]
      by_cases hl : x < hld ct (cr (dcd cd)) (fl (dcd cd))
      · rw [if_pos hl]
        obtain ⟨i1, i2, i3, i4⟩ := mo_spec hb m (cd + 1) _ (hb (dcd cd))
        refine ⟨i1, Int32.le_trans (Int32.le_of_lt hl) i2, fun c h1 h2 h3 => ?_, ?_⟩
        · rcases (show c = cd ∨ cd + 1 ≤ c by omega) with rfl | h4
          · exact i2
          · exact i3 c h4 (by omega) h3
        · rcases i4 with q | ⟨c, q1, q2, q3, q4⟩
          · exact Or.inr ⟨cd, Nat.le_refl _, by omega, hok, q⟩
          · exact Or.inr ⟨c, by omega, by omega, q3, q4⟩
      · rw [if_neg hl]
        obtain ⟨i1, i2, i3, i4⟩ := mo_spec hb m (cd + 1) x hx
        refine ⟨i1, i2, fun c h1 h2 h3 => ?_, ?_⟩
        · rcases (show c = cd ∨ cd + 1 ≤ c by omega) with rfl | h4
          · exact Int32.le_trans (Int32.not_lt.mp hl) i2
          · exact i3 c h4 (by omega) h3
        · rcases i4 with q | ⟨c, q1, q2, q3, q4⟩
          · exact Or.inl q
          · exact Or.inr ⟨c, by omega, by omega, q3, q4⟩
    · have es : mo n ly ct cr fl (m + 1) cd x = mo n ly ct cr fl m (cd + 1) x := by
        show mo n ly ct cr fl m (cd + 1) (@ite _ _ (okPd n ly cd) _ _) = _
        rw [if_neg hok]
      rw [es]
      obtain ⟨i1, i2, i3, i4⟩ := mo_spec hb m (cd + 1) x hx
      refine ⟨i1, i2, fun c h1 h2 h3 => ?_, ?_⟩
      · rcases (show c = cd ∨ cd + 1 ≤ c by omega) with rfl | h4
        · exact absurd h3 hok
        · exact i3 c h4 (by omega) h3
      · rcases i4 with q | ⟨c, q1, q2, q3, q4⟩
        · exact Or.inl q
        · exact Or.inr ⟨c, by omega, by omega, q3, q4⟩
theorem mmo_spec {n : Nat} {ct : Nat → Nat} {cr fl : FN → Nat → Int32} : ∀ (m k : Nat) (x : Int32), x ≤ mmo n ct cr fl m k x ∧ (∀ c, k ≤ c → c < k + m → 0 ≤ hld ct (cr (lyp n c)) (fl (lyp n c)) → hld ct (cr (lyp n c)) (fl (lyp n c)) ≤ mmo n ct cr fl m k x) ∧ (mmo n ct cr fl m k x = x ∨ ∃ c, k ≤ c ∧ c < k + m ∧ 0 ≤ hld ct (cr (lyp n c)) (fl (lyp n c)) ∧ mmo n ct cr fl m k x = hld ct (cr (lyp n c)) (fl (lyp n c)))
  | 0, k, x => ⟨Int32.le_refl x, fun c h1 h2 => by omega, Or.inl rfl⟩
  | m + 1, k, x => by
    unfold mmo
    by_cases hl : 0 ≤ hld ct (cr (lyp n k)) (fl (lyp n k)) ∧ x < hld ct (cr (lyp n k)) (fl (lyp n k))
    · rw [if_pos hl]
      obtain ⟨i2, i3, i4⟩ := mmo_spec (n := n) (ct := ct) (cr := cr) (fl := fl) m (k + 1) (hld ct (cr (lyp n k)) (fl (lyp n k)))
      refine ⟨Int32.le_trans (Int32.le_of_lt hl.2) i2, fun c h1 h2 h3 => ?_, ?_⟩
      · rcases (show c = k ∨ k + 1 ≤ c by omega) with rfl | h4
        · exact i2
        · exact i3 c h4 (by omega) h3
      · rcases i4 with q | ⟨c, q1, q2, q3, q4⟩
        · exact Or.inr ⟨k, Nat.le_refl _, by omega, hl.1, q⟩
        · exact Or.inr ⟨c, by omega, by omega, q3, q4⟩
    · rw [if_neg hl]
      obtain ⟨i2, i3, i4⟩ := mmo_spec (n := n) (ct := ct) (cr := cr) (fl := fl) m (k + 1) x
      refine ⟨i2, fun c h1 h2 h3 => ?_, ?_⟩
      · rcases (show c = k ∨ k + 1 ≤ c by omega) with rfl | h4
        · exact Int32.le_trans (Int32.not_lt.mp (fun q => hl ⟨h3, q⟩)) i2
        · exact i3 c h4 (by omega) h3
      · rcases i4 with q | ⟨c, q1, q2, q3, q4⟩
        · exact Or.inl q
        · exact Or.inr ⟨c, by omega, by omega, q3, q4⟩
theorem most_same {n ly : Nat} (h3 : 3 ≤ n) (h7 : n ≤ 7) {ct : Nat → Nat} {cr fl : FN → Nat → Int32} (hb : ∀ fp, bet (-1) 99 (hld ct (cr fp) (fl fp))) (hag : ∀ fp fp' : FN, (∀ z, z < 3 → z ≤ ly → fp z = fp' z) → hld ct (cr fp) (fl fp) = hld ct (cr fp') (fl fp')) : sel (0 ≤ mo n ly ct cr fl 512 0 (-1)) (mo n ly ct cr fl 512 0 (-1)) (-3) = mmo n ct cr fl ((n + 1) * (n + 1) * (n + 1)) 0 (-3) := by
  obtain ⟨a1, a2, a3, a4⟩ := mo_spec (n := n) (ly := ly) hb 512 0 (-1) ⟨by rw [i32_m1]; omega, by rw [i32_m1]; omega⟩
  obtain ⟨b2, b3, b4⟩ := mmo_spec (n := n) (ct := ct) (cr := cr) (fl := fl) ((n + 1) * (n + 1) * (n + 1)) 0 (-3)
  by_cases h0 : 0 ≤ mo n ly ct cr fl 512 0 (-1)
  · rw [sel_t h0]
    rcases a4 with q | ⟨c, q1, q2, q3, q4⟩
    · rw [q] at h0; exact absurd h0 (by decide)
    · have e1 : hld ct (cr (lyp n (kOf n c))) (fl (lyp n (kOf n c))) = hld ct (cr (dcd c)) (fl (dcd c)) := hag _ _ (fun z hz _ => lyp_kOf h3 h7 q3 z hz)
      have l1 : mo n ly ct cr fl 512 0 (-1) ≤ mmo n ct cr fl ((n + 1) * (n + 1) * (n + 1)) 0 (-3) := by
        rw [q4, ← e1]
        exact b3 _ (Nat.zero_le _) (by rw [Nat.zero_add]; exact (kOf_md h3 h7 q3).1) (by rw [e1, ← q4]; exact h0)
      refine Int32.le_antisymm l1 ?_
      rcases b4 with z | ⟨k, z1, z2, z3, z4⟩
      · rw [z] at l1; exact absurd (Int32.le_trans h0 l1) (by decide)
      · rw [z4, hag _ _ (dcd_cdR (k := k) ly h7)]
        exact a3 _ (Nat.zero_le _) (by rw [Nat.zero_add]; exact (cdR_dg n ly k h7).1) (cdR_ok ly h7)
  · rw [sel_f h0]
    rcases b4 with z | ⟨k, z1, z2, z3, z4⟩
    · exact z.symm
    · refine absurd (Int32.le_trans z3 ?_) h0
      rw [hag _ _ (dcd_cdR (k := k) ly h7)]
      exact a3 _ (Nat.zero_le _) (by rw [Nat.zero_add]; exact (cdR_dg n ly k h7).1) (cdR_ok ly h7)
