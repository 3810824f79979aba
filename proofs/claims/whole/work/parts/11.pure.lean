theorem fa_lt (a b : Int32) : a < b ↔ a.toInt < b.toInt := Int32.lt_iff_toInt_lt
theorem fa_le (a b : Int32) : a ≤ b ↔ a.toInt ≤ b.toInt := Int32.le_iff_toInt_le
theorem fa_eq (a b : Int32) : a = b ↔ a.toInt = b.toInt := Int32.toInt_inj.symm
theorem i32_m9 : (-9 : Int32).toInt = -9 := by decide
theorem i32_m3 : (-3 : Int32).toInt = -3 := by decide
theorem i32_m2 : (-2 : Int32).toInt = -2 := by decide
theorem i32_m1 : (-1 : Int32).toInt = -1 := by decide
theorem i32_0 : (0 : Int32).toInt = 0 := by decide
theorem i32_1 : (1 : Int32).toInt = 1 := by decide
theorem i32_2 : (2 : Int32).toInt = 2 := by decide
theorem i32_3 : (3 : Int32).toInt = 3 := by decide
theorem i32_4 : (4 : Int32).toInt = 4 := by decide
theorem i32_5 : (5 : Int32).toInt = 5 := by decide
theorem i32_7 : (7 : Int32).toInt = 7 := by decide
theorem i32_9 : (9 : Int32).toInt = 9 := by decide
theorem i32_10 : (10 : Int32).toInt = 10 := by decide
theorem i32_12 : (12 : Int32).toInt = 12 := by decide
theorem i32_20 : (20 : Int32).toInt = 20 := by decide
theorem i32_30 : (30 : Int32).toInt = 30 := by decide
theorem i32_60 : (60 : Int32).toInt = 60 := by decide
theorem i32_99 : (99 : Int32).toInt = 99 := by decide
/-! the mathematics of a coast: loops of the class and of the reference as functions. fh heights, fg grass, ff fences, fk kept; φ what a fence loses, ψ what a wind takes, ν next year's grass -/
def phc (v o : Int32) : Int32 := jmax 0 (v - o)
def phm (v o : Int32) : Int32 := if o < v then v - o else 0
def psc (w g : Int32) : Int32 := jmax 0 (w - g)
def psm (w g : Int32) : Int32 := if g < w then w - g else 0
def nuc (g k : Int32) : Int32 := if g = 0 ∨ 30 < k then 0 else if 1 ≤ k ∧ k ≤ 9 then jmin 9 (g + 1) else g
def num (g k : Int32) : Int32 := if 30 < k then 0 else if 0 < g ∧ (1 ≤ k ∧ k ≤ 9) ∧ g < 9 then g + 1 else g
def heldv (fh fg ff : FN) (j : Nat) (x : Int32) : Int32 := jmin x (jmin (1 + 2 * fg j + ff j) (99 - fh j))
/-- m cells from j on keep of the sand x; the class stops where nothing is left (its φ is told by its answer at the least int), the reference goes on -/
def bIn (φ : Int32 → Int32 → Int32) (fg : FN) : Nat → Nat → FN → FN → FN → Int32 → FN × FN × FN × Int32
  | 0, _, fh, ff, fk, x => (fh, ff, fk, x)
  | m + 1, j, fh, ff, fk, x => if φ (-2147483648) 1 ≠ 0 ∧ x ≤ 0 then (fh, ff, fk, x) else bIn φ fg m (j + 1) (upd fh j (fh j + heldv fh fg ff j x)) (upd ff j (ff j - φ (heldv fh fg ff j x) (1 + 2 * fg j))) (upd fk j (fk j + heldv fh fg ff j x)) (x - heldv fh fg ff j x)
theorem bIn_m (fg : FN) (m j : Nat) (fh ff fk : FN) (x : Int32) : bIn phm fg (m + 1) j fh ff fk x = bIn phm fg m (j + 1) (upd fh j (fh j + heldv fh fg ff j x)) (upd ff j (ff j - phm (heldv fh fg ff j x) (1 + 2 * fg j))) (upd fk j (fk j + heldv fh fg ff j x)) (x - heldv fh fg ff j x) := by
  rw [bIn]
  exact if_neg (fun q => q.1 (by decide))
theorem bIn_c (fg : FN) (m j : Nat) (fh ff fk : FN) {x : Int32} (h : ¬ x ≤ 0) : bIn phc fg (m + 1) j fh ff fk x = bIn phc fg m (j + 1) (upd fh j (fh j + heldv fh fg ff j x)) (upd ff j (ff j - phc (heldv fh fg ff j x) (1 + 2 * fg j))) (upd fk j (fk j + heldv fh fg ff j x)) (x - heldv fh fg ff j x) := by
  rw [bIn]
  exact if_neg (fun q => h q.2)
theorem bIn_0 (fg : FN) (m j : Nat) (fh ff fk : FN) {x : Int32} (h : x ≤ 0) : bIn phc fg m j fh ff fk x = (fh, ff, fk, x) := by
  cases m with
  | zero => rw [bIn]
  | succ m =>
    rw [bIn]
    exact if_pos ⟨by decide, h⟩
/-- the wind w over the cells below q, of n -/
def bOut (φ ψ : Int32 → Int32 → Int32) (n : Nat) (fg : FN) (w : Int32) : Nat → FN → FN → FN → Int32 → FN × FN × FN × Int32
  | 0, fh, ff, fk, x => (fh, ff, fk, x)
  | j + 1, fh, ff, fk, x => bOut φ ψ n fg w j
      (bIn φ fg (n - (j + 1)) (j + 1) (upd fh j (fh j - jmin (fh j) (ψ w (fg j)))) ff fk (jmin (fh j) (ψ w (fg j)))).1
      (bIn φ fg (n - (j + 1)) (j + 1) (upd fh j (fh j - jmin (fh j) (ψ w (fg j)))) ff fk (jmin (fh j) (ψ w (fg j)))).2.1
      (bIn φ fg (n - (j + 1)) (j + 1) (upd fh j (fh j - jmin (fh j) (ψ w (fg j)))) ff fk (jmin (fh j) (ψ w (fg j)))).2.2.1
      (x + (bIn φ fg (n - (j + 1)) (j + 1) (upd fh j (fh j - jmin (fh j) (ψ w (fg j)))) ff fk (jmin (fh j) (ψ w (fg j)))).2.2.2)
abbrev blow (φ ψ : Int32 → Int32 → Int32) (n : Nat) (fh fg ff fk : FN) (w : Int32) : FN × FN × FN × Int32 := bOut φ ψ n fg w n fh ff fk 0
/-- a storm of level w over m cells from j on: drowned, heights, grass, fences, sea, floods -/
def srg (w : Int32) : Nat → Nat → FN → FN → FN → Int32 → Int32 → Int32 × FN × FN × FN × Int32 × Int32
  | 0, j, fh, fg, ff, vs, vd => (nI j, fh, fg, ff, vs, vd + 1)
  | m + 1, j, fh, fg, ff, vs, vd => if fh j < w then srg w m (j + 1) (upd fh j (fh j - fh j / 2)) (upd fg j 0) (upd ff j 0) (vs + fh j / 2) vd
      else (nI j, upd fh j (fh j - w / 4), fg, ff, vs + w / 4, vd)
/-- the year ends over m cells from j on: how many have other grass, grass, kept -/
def yE (ν : Int32 → Int32 → Int32) : Nat → Nat → FN → FN → Int32 → Int32 × FN × FN
  | 0, _, fg, fk, x => (x, fg, fk)
  | m + 1, j, fg, fk, x => yE ν m (j + 1) (upd fg j (ν (fg j) (fk j))) (upd fk j 0) (if ν (fg j) (fk j) = fg j then x else x + 1)
def gMax (fh : FN) : Nat → Nat → Int32 → Int32
  | 0, _, x => x
  | m + 1, j, x => gMax fh m (j + 1) (jmax x (fh j))
def sumH (fh : FN) : Nat → Nat → Int32 → Int32
  | 0, _, x => x
  | m + 1, j, x => sumH fh m (j + 1) (x + fh j)
theorem i32_ge {x : Int32} (h : ¬ x < 0) : 0 ≤ x := Int32.not_lt.mp h
theorem i32_nle {x y : Int32} (h : ¬ y ≤ x) : x < y := Int32.not_le.mp h
theorem i32_not {x : Int32} (h : 0 ≤ x) (h2 : x < 0) : False := absurd h2 (Int32.not_lt.mpr h)
theorem i32_nlt {x y : Int32} (h : y ≤ x) (h2 : x < y) : False := absurd h2 (Int32.not_lt.mpr h)
/-! natural numbers in an array of ints; the rows of a grid of three -/
def nF (ct : Nat → Nat) : FN := fun j => nI (ct j)
theorem nF_wr (ct : Nat → Nat) (j v : Nat) : upd (nF ct) j (nI v) = nF (va_up ct j v) := by
  funext i
  unfold upd nF va_up
  by_cases h : i = j
  · rw [if_pos h, if_pos h]
  · rw [if_neg h, if_neg h]
def r3 (x y z : Nat) : Nat → Option Nat := fun i => match i with
  | 0 => some x
  | 1 => some y
  | _ => some z
/-- how often a year ends in m events from i on -/
def cntY (kw : FN) : Nat → Nat → Nat → Nat
  | 0, _, x => x
  | m + 1, i, x => cntY kw m (i + 1) (if kw i = 2 then x + 1 else x)
theorem cntY_le (kw : FN) : ∀ (m i x : Nat), cntY kw m i x ≤ x + m
  | 0, _, x => Nat.le_refl x
  | m + 1, i, x => by
    unfold cntY
    by_cases h : kw i = 2
    · rw [if_pos h]; have := cntY_le kw m (i + 1) (x + 1); omega
    · rw [if_neg h]; have := cntY_le kw m (i + 1) x; omega
def lastY (ct : Nat → Nat) (kd : Nat → FN) : Nat := max (max (max 0 (cntY (kd 0) (ct 0) 0 0)) (cntY (kd 1) (ct 1) 0 0)) (cntY (kd 2) (ct 2) 0 0)
theorem jmax_nI (a b : Nat) (ha : a < 2147483648) (hb : b < 2147483648) : jmax (nI a) (nI b) = nI (max a b) := by
  unfold jmax
  by_cases h : a < b
  · rw [if_pos ((nq_lt a b ha hb).mpr h), Nat.max_eq_right (by omega)]
  · rw [if_neg ((nq_lt_n a b ha hb).mpr (by omega)), Nat.max_eq_left (by omega)]
/-- how many of m readings from i on are there -/
def cntR (fr : FN) : Nat → Nat → Nat → Nat
  | 0, _, x => x
  | m + 1, i, x => cntR fr m (i + 1) (if fr i = -1 then x else x + 1)
theorem cntR_le (fr : FN) : ∀ (m i x : Nat), cntR fr m i x ≤ x + m
  | 0, _, x => Nat.le_refl x
  | m + 1, i, x => by
    unfold cntR
    by_cases h : fr i = -1
    · rw [if_pos h]; have := cntR_le fr m (i + 1) x; omega
    · rw [if_neg h]; have := cntR_le fr m (i + 1) (x + 1); omega
def near (fr : FN) (st mi : Int32) (n : Nat) : Nat → Int32 → Int32
  | 0, _ => -1
  | m + 1, a => if a < 0 then -1 else if nI n ≤ a then -1 else if fr a.toNatClampNeg = -1 then near fr st mi n m (a + st) else if a = mi then near fr st mi n m (a + st) else a
theorem i32_cl {x : Int32} (h : ¬ x < 0) : x = nI x.toNatClampNeg := by
  obtain ⟨j, hj, rfl⟩ := nI_of h
  rw [nI_clamp hj]
theorem i32_cb {x : Int32} {n : Nat} (h : ¬ x < 0) (h2 : ¬ nI n ≤ x) (hn : n ≤ 7) : x.toNatClampNeg < n := by
  obtain ⟨j, hj, rfl⟩ := nI_of h
  rw [nI_clamp hj]
  exact (nq_le_n n j (by omega) hj).mp h2
theorem near_rng (fr : FN) (st mi : Int32) (n : Nat) : ∀ (m : Nat) (a : Int32), near fr st mi n m a = -1 ∨ (¬ near fr st mi n m a < 0 ∧ ¬ nI n ≤ near fr st mi n m a)
  | 0, a => Or.inl rfl
  | m + 1, a => by
    unfold near
    by_cases h1 : a < 0
    · rw [if_pos h1]; exact Or.inl rfl
    · rw [if_neg h1]
      by_cases h2 : nI n ≤ a
      · rw [if_pos h2]; exact Or.inl rfl
      · rw [if_neg h2]
        by_cases h3 : fr a.toNatClampNeg = -1
        · rw [if_pos h3]; exact near_rng fr st mi n m (a + st)
        · rw [if_neg h3]
          by_cases h4 : a = mi
          · rw [if_pos h4]; exact near_rng fr st mi n m (a + st)
          · rw [if_neg h4]; exact Or.inr ⟨h1, h2⟩
abbrev nL (fr : FN) (n : Nat) (mi : Int32) (j : Nat) : Int32 := near fr (-1) mi n 7 (nI j)
abbrev nR (fr : FN) (n : Nat) (mi : Int32) (j : Nat) : Int32 := near fr 1 mi n 7 (nI j)
/-- a level in 60ths -/
def sLev (fr : FN) (n : Nat) (mi : Int32) (j : Nat) : Int32 :=
  if nL fr n mi j = -1 then (if nR fr n mi j = -1 then 0 else 60 * fr (nR fr n mi j).toNatClampNeg)
  else if nR fr n mi j = -1 then 60 * fr (nL fr n mi j).toNatClampNeg
  else if nL fr n mi j < nR fr n mi j then 60 / (nR fr n mi j - nL fr n mi j) * (fr (nL fr n mi j).toNatClampNeg * (nR fr n mi j - nI j) + fr (nR fr n mi j).toNatClampNeg * (nI j - nL fr n mi j))
  else 60 * fr (nL fr n mi j).toNatClampNeg
def sVol (fr : FN) (n : Nat) (mi : Int32) : Nat → Nat → Int32 → Int32
  | 0, _, x => x
  | m + 1, i, x => sVol fr n mi m (i + 1) (x + sLev fr n mi i)
def sDbt (fr : FN) (n : Nat) (wh : Int32) : Nat → Nat → Int32 → Int32
  | 0, _, x => x
  | m + 1, i, x => sDbt fr n wh m (i + 1) (if fr i = -1 then x else jmax x (jabs (sVol fr n (nI i) n 0 0 - wh)))
theorem i32_subne {x y : Int32} (h : y < x) : ¬ x - y = 0 := by
  intro q
  have h1 : x = y := by
    have h2 : x - y + y = 0 + y := by rw [q]
    rwa [Int32.sub_add_cancel, Int32.zero_add] at h2
  rw [h1] at h
  exact Int32.lt_irrefl h
def zF : FN := fun _ => 0
def mF : FN := fun _ => -1
