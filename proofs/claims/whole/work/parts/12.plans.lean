/-! plans: a year begins; a weather is played; what plans are worth -/
def bgY (n : Nat) (tf fp : FN) (fz : Int32) (y : Nat) : FN := if y < 3 then (if 0 ≤ fp y ∧ fp y < nI n then upd tf (fp y).toNatClampNeg fz else tf) else tf
/-- m events from i on, in year y -/
def pl (φ ψ ν : Int32 → Int32 → Int32) (n : Nat) (fp : FN) (fz : Int32) (kw vw : FN) : Nat → Nat → Nat → FN → FN → FN → FN → Int32 → Int32 → Int32 → FN × FN × FN × FN × Int32 × Int32 × Int32
  | 0, _, _, th, tg, tf, tk, ts, tb, td => (th, tg, tf, tk, ts, tb, td)
  | m + 1, i, y, th, tg, tf, tk, ts, tb, td =>
    if kw i = 0 then pl φ ψ ν n fp fz kw vw m (i + 1) y (blow φ ψ n th tg tf tk (vw i)).1 tg (blow φ ψ n th tg tf tk (vw i)).2.1 (blow φ ψ n th tg tf tk (vw i)).2.2.1 ts (tb + (blow φ ψ n th tg tf tk (vw i)).2.2.2) td
    else if kw i = 1 then pl φ ψ ν n fp fz kw vw m (i + 1) y (srg (vw i) n 0 th tg tf ts td).2.1 (srg (vw i) n 0 th tg tf ts td).2.2.1 (srg (vw i) n 0 th tg tf ts td).2.2.2.1 tk (srg (vw i) n 0 th tg tf ts td).2.2.2.2.1 tb (srg (vw i) n 0 th tg tf ts td).2.2.2.2.2
    else pl φ ψ ν n fp fz kw vw m (i + 1) (y + 1) th (yE ν n 0 tg tk 0).2.1 (bgY n tf fp fz (y + 1)) (yE ν n 0 tg tk 0).2.2 ts tb td
/-- weather w played from a coast, with the plan fp -/
def plW (φ ψ ν : Int32 → Int32 → Int32) (n : Nat) (fz : Int32) (ct : Nat → Nat) (kd vl : Nat → FN) (fh fg ff fk : FN) (vs vb : Int32) (fp : FN) (w : Nat) : FN × FN × FN × FN × Int32 × Int32 × Int32 :=
  pl φ ψ ν n fp fz (kd w) (vl w) (ct w) 0 0 fh fg (bgY n ff fp fz 0) fk vs vb 0
def crW (φ ψ ν : Int32 → Int32 → Int32) (n : Nat) (fz : Int32) (ct : Nat → Nat) (kd vl : Nat → FN) (fh fg ff fk : FN) (vs vb : Int32) (fp : FN) (w : Nat) : Int32 := gMax (plW φ ψ ν n fz ct kd vl fh fg ff fk vs vb fp w).1 n 0 0
def flW (φ ψ ν : Int32 → Int32 → Int32) (n : Nat) (fz : Int32) (ct : Nat → Nat) (kd vl : Nat → FN) (fh fg ff fk : FN) (vs vb : Int32) (fp : FN) (w : Nat) : Int32 := (plW φ ψ ν n fz ct kd vl fh fg ff fk vs vb fp w).2.2.2.2.2.2
/-- the class's worst crest: -1 at once where houses are flooded or the crest is below the floor -/
def wSt (ct : Nat → Nat) (cr fl : Nat → Int32) (fo : Int32) (w : Nat) (x : Int32) (k : Int32 → Int32) : Int32 := if 0 < ct w then (if 0 < fl w then -1 else if jmin x (cr w) < fo then -1 else k (jmin x (cr w))) else k x
def wCr (ct : Nat → Nat) (cr fl : Nat → Int32) (fo : Int32) : Int32 := wSt ct cr fl fo 0 99 (fun a => wSt ct cr fl fo 1 a (fun b => wSt ct cr fl fo 2 b (fun c => c)))
theorem wSt_0 {ct : Nat → Nat} {cr fl : Nat → Int32} {fo : Int32} {w : Nat} {x : Int32} {k : Int32 → Int32} (h : ct w ≤ 0) : wSt ct cr fl fo w x k = k x := if_neg (Nat.not_lt.mpr h)
theorem wSt_f {ct : Nat → Nat} {cr fl : Nat → Int32} {fo : Int32} {w : Nat} {x : Int32} {k : Int32 → Int32} (h : 0 < ct w) (h2 : 0 < fl w) : wSt ct cr fl fo w x k = -1 := (if_pos h).trans (if_pos h2)
theorem wSt_l {ct : Nat → Nat} {cr fl : Nat → Int32} {fo : Int32} {w : Nat} {x : Int32} {k : Int32 → Int32} (h : 0 < ct w) (h2 : ¬ 0 < fl w) (h3 : ¬ fo ≤ jmin x (cr w)) : wSt ct cr fl fo w x k = -1 := (if_pos h).trans ((if_neg h2).trans (if_pos (Int32.not_le.mp h3)))
theorem wSt_k {ct : Nat → Nat} {cr fl : Nat → Int32} {fo : Int32} {w : Nat} {x : Int32} {k : Int32 → Int32} (h : 0 < ct w) (h2 : ¬ 0 < fl w) (h3 : fo ≤ jmin x (cr w)) : wSt ct cr fl fo w x k = k (jmin x (cr w)) := (if_pos h).trans ((if_neg h2).trans (if_neg (Int32.not_lt.mpr h3)))
def nfs (x : Int32) : Nat := if x = -1 then 0 else 1
def nfen (fp : FN) : Nat := nfs (fp 0) + nfs (fp 1) + nfs (fp 2)
/-- the digits of a plan's code, and the plan -/
def dg (cd y : Nat) : Nat := cd / 8 ^ (2 - y) % 8
def dcd (cd : Nat) : FN := fun y => if dg cd y = 7 then -1 else nI (dg cd y)
def okY (n ly cd y : Nat) : Prop := dg cd y = 7 ∨ (dg cd y < n ∧ y ≤ ly)
def okP (n ly cd : Nat) : Prop := okY n ly cd 0 ∧ okY n ly cd 1 ∧ okY n ly cd 2
def okYd (n ly cd y : Nat) : Decidable (okY n ly cd y) := by unfold okY; exact inferInstance
def okPd (n ly cd : Nat) : Decidable (okP n ly cd) := by unfold okP okY; exact inferInstance
/-- the class's search: the first code of the fewest fences -/
def FPost (P : Nat → Nat → Prop) (r : Int32) (fp : FN) : Prop := (r = 1 ∧ ∃ w cd, w ≤ 3 ∧ cd < 512 ∧ P w cd ∧ (∀ w' c', c' < 512 → w' < w ∨ (w' = w ∧ c' < cd) → ¬ P w' c') ∧ fp = dcd cd) ∨ (r = 0 ∧ ∀ w' c', w' ≤ 3 → c' < 512 → ¬ P w' c')
def gdP (n ly : Nat) (ct : Nat → Nat) (cr fl : FN → Nat → Int32) (aim : Int32) (w cd : Nat) : Prop := okP n ly cd ∧ nfen (dcd cd) = w ∧ aim ≤ wCr ct (cr (dcd cd)) (fl (dcd cd)) aim
/-- the class's greatest aim -/
noncomputable def mo (n ly : Nat) (ct : Nat → Nat) (cr fl : FN → Nat → Int32) : Nat → Nat → Int32 → Int32
  | 0, _, x => x
  | m + 1, cd, x => mo n ly ct cr fl m (cd + 1) (@ite _ (okP n ly cd) (okPd n ly cd) (jmax x (wCr ct (cr (dcd cd)) (fl (dcd cd)) (x + 1))) x)
/-- one part of a number of 60ths, cleared -/
def clr (x wt : Int32) : Nat → Int32
  | 0 => if wt = 0 then x else 60
  | 1 => if wt = 0 then x else 60
  | d + 2 => if 60 - 60 / nI (d + 2) * nI (d + 2) = 0 then (if x - x / nI (d + 2) * nI (d + 2) = 0 then (if wt = 0 then x / nI (d + 2) else 60 / nI (d + 2)) else clr x wt (d + 1)) else clr x wt (d + 1)
def mostV (x : Int32) : Int32 := if x = 0 then 99 else if x = 1 then 9 else 20
def isEv (k v : Int32) : Prop := (k = 0 ∧ 1 ≤ v ∧ v ≤ 9) ∨ (k = 1 ∧ 1 ≤ v ∧ v ≤ 99) ∨ k = 2
def isEvd (k v : Int32) : Decidable (isEv k v) := by unfold isEv; exact inferInstance
def ceN (n : Nat) (x : Int32) : Prop := x = -1 ∨ (0 ≤ x ∧ x < nI n)
def ceNd (n : Nat) (x : Int32) : Decidable (ceN n x) := by unfold ceN; exact inferInstance
/-- three cells as a plan -/
def p3 (a b c : Int32) : FN := fun y => match y with
  | 0 => a
  | 1 => b
  | _ => c
def tryOk (n : Nat) (x a b c : Int32) : Prop := (0 ≤ x ∧ x ≤ 2) ∧ ceN n a ∧ ceN n b ∧ ceN n c
def tryOkd (n : Nat) (x a b c : Int32) : Decidable (tryOk n x a b c) := by unfold tryOk ceN; exact inferInstance
/-- truth as 0 or 1, by a decision that is given -/
noncomputable def bj (P : Prop) : Int32 := @ite _ P (Classical.propDecidable P) 1 0
theorem bj_t {P : Prop} (h : P) : bj P = 1 := by unfold bj; rw [if_pos h]
theorem bj_f {P : Prop} (h : ¬ P) : bj P = 0 := by unfold bj; rw [if_neg h]
theorem bj_1 {P : Prop} (h : ¬ bj P = 0) : P := Classical.byContradiction (fun q => h (bj_f q))
theorem bj_0 {P : Prop} (h : bj P = 0) : ¬ P := fun q => absurd ((bj_t q).symm.trans h) (by decide)
theorem bi_bj {P P' : Prop} [Decidable P] (h : P ↔ P') : bi P = bj P' := by
  by_cases hp : P
  · rw [← bi_t hp, bj_t (h.mp hp)]
  · rw [← bi_f hp, bj_f (fun q => hp (h.mpr q))]
theorem bj_nar (P : Prop) : narrow .boolean (.int (bj P)) = .int (bj P) := by
  by_cases h : P
  · rw [bj_t h]; rfl
  · rw [bj_f h]; rfl
theorem nI_dec {d : Nat} (h : 1 ≤ d) : nI d + Int32.ofInt (-1) = nI (d - 1) := by
  obtain ⟨k, rfl⟩ : ∃ k, d = k + 1 := ⟨d - 1, by omega⟩
  rw [ra_dec, nI_pred]
  rfl
theorem dg_lt (cd y : Nat) : dg cd y < 8 := Nat.mod_lt _ (by omega)
theorem dg_0 {cd : Nat} (h : cd < 512) : nI cd >>> ((6 : Int32) &&& 31) &&& 7 = nI (dg cd 0) := by
  rw [pk_shrN (n := cd) (by omega) (6 &&& 31) 6 (by decide), pk_andN (by omega) 3 (by decide)]
  rfl
theorem dg_1 {cd : Nat} (h : cd < 512) : nI cd >>> ((3 : Int32) &&& 31) &&& 7 = nI (dg cd 1) := by
  rw [pk_shrN (n := cd) (by omega) (3 &&& 31) 3 (by decide), pk_andN (by omega) 3 (by decide)]
  rfl
theorem dg_2 {cd : Nat} (h : cd < 512) : nI cd >>> ((0 : Int32) &&& 31) &&& 7 = nI (dg cd 2) := by
  rw [sb_shr0, pk_andN (by omega) 3 (by decide)]
  unfold dg
  rw [show 8 ^ (2 - 2) = 1 from rfl, Nat.div_one]
theorem i32_nat3 {x : Int32} (h : 0 ≤ x ∧ x ≤ 2) : ∃ j : Nat, j < 3 ∧ x = nI j := by
  obtain ⟨j, hj, rfl⟩ := nI_of (Int32.not_lt.mpr h.1)
  exact ⟨j, by have := (nq_le j 2 hj (by omega)).mp h.2; omega, rfl⟩
theorem i32_natn {x : Int32} {n : Nat} (h : 0 ≤ x ∧ x < nI n) (hn : n ≤ 7) : ∃ j : Nat, j < n ∧ x = nI j := by
  obtain ⟨j, hj, rfl⟩ := nI_of (Int32.not_lt.mpr h.1)
  exact ⟨j, (nq_lt j n hj (by omega)).mp h.2, rfl⟩
theorem up3 (f : FN) (a b c : Int32) : ∀ j, j < 3 → upd (upd (upd f 0 a) 1 b) 2 c j = p3 a b c j := by
  intro j hj
  rcases (show j = 0 ∨ j = 1 ∨ j = 2 by omega) with rfl | rfl | rfl <;> rfl
