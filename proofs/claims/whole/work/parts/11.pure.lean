theorem fa_lt (a b : Int32) : a < b ↔ a.toInt < b.toInt := Int32.lt_iff_toInt_lt
theorem fa_le (a b : Int32) : a ≤ b ↔ a.toInt ≤ b.toInt := Int32.le_iff_toInt_le
theorem fa_eq (a b : Int32) : a = b ↔ a.toInt = b.toInt := Int32.toInt_inj.symm
theorem i32_m9 : (-9 : Int32).toInt = -9 := by decide
theorem i32_m3 : (-3 : Int32).toInt = -3 := by decide
theorem i32_m2 : (-2 : Int32).toInt = -2 := by decide
theorem i32_m1 : (-1 : Int32).toInt = -1 := by decide
theorem i32_0 : (0 : Int32).toInt = 0 := by decide
theorem i32_1 : (1 : Int32).toInt = 1 := by decide
theorem i32_2 : (2 : Int32).toInt = 2 := by decide
theorem i32_3 : (3 : Int32).toInt = 3 := by decide
theorem i32_4 : (4 : Int32).toInt = 4 := by decide
theorem i32_5 : (5 : Int32).toInt = 5 := by decide
theorem i32_7 : (7 : Int32).toInt = 7 := by decide
theorem i32_9 : (9 : Int32).toInt = 9 := by decide
theorem i32_10 : (10 : Int32).toInt = 10 := by decide
theorem i32_12 : (12 : Int32).toInt = 12 := by decide
theorem i32_20 : (20 : Int32).toInt = 20 := by decide
theorem i32_30 : (30 : Int32).toInt = 30 := by decide
theorem i32_60 : (60 : Int32).toInt = 60 := by decide
theorem i32_99 : (99 : Int32).toInt = 99 := by decide
/-! the mathematics of a coast: loops of the class and of the reference as functions. fh heights, fg grass, ff fences, fk kept; φ what a fence loses, ψ what a wind takes, ν next year's grass -/
def phc (v o : Int32) : Int32 := jmax 0 (v - o)
def phm (v o : Int32) : Int32 := if o < v then v - o else 0
def psc (w g : Int32) : Int32 := jmax 0 (w - g)
def psm (w g : Int32) : Int32 := if g < w then w - g else 0
def nuc (g k : Int32) : Int32 := if g = 0 ∨ 30 < k then 0 else if 1 ≤ k ∧ k ≤ 9 then jmin 9 (g + 1) else g
def num (g k : Int32) : Int32 := if 30 < k then 0 else if 0 < g ∧ (1 ≤ k ∧ k ≤ 9) ∧ g < 9 then g + 1 else g
def heldv (fh fg ff : FN) (j : Nat) (x : Int32) : Int32 := jmin x (jmin (1 + 2 * fg j + ff j) (99 - fh j))
/-- m cells from j on keep of the sand x -/
def bIn (φ : Int32 → Int32 → Int32) (fg : FN) : Nat → Nat → FN → FN → FN → Int32 → FN × FN × FN × Int32
  | 0, _, fh, ff, fk, x => (fh, ff, fk, x)
  | m + 1, j, fh, ff, fk, x => bIn φ fg m (j + 1) (upd fh j (fh j + heldv fh fg ff j x)) (upd ff j (ff j - φ (heldv fh fg ff j x) (1 + 2 * fg j))) (upd fk j (fk j + heldv fh fg ff j x)) (x - heldv fh fg ff j x)
/-- the wind w over the cells below q, of n -/
def bOut (φ ψ : Int32 → Int32 → Int32) (n : Nat) (fg : FN) (w : Int32) : Nat → FN → FN → FN → Int32 → FN × FN × FN × Int32
  | 0, fh, ff, fk, x => (fh, ff, fk, x)
  | j + 1, fh, ff, fk, x => bOut φ ψ n fg w j
      (bIn φ fg (n - (j + 1)) (j + 1) (upd fh j (fh j - jmin (fh j) (ψ w (fg j)))) ff fk (jmin (fh j) (ψ w (fg j)))).1
      (bIn φ fg (n - (j + 1)) (j + 1) (upd fh j (fh j - jmin (fh j) (ψ w (fg j)))) ff fk (jmin (fh j) (ψ w (fg j)))).2.1
      (bIn φ fg (n - (j + 1)) (j + 1) (upd fh j (fh j - jmin (fh j) (ψ w (fg j)))) ff fk (jmin (fh j) (ψ w (fg j)))).2.2.1
      (x + (bIn φ fg (n - (j + 1)) (j + 1) (upd fh j (fh j - jmin (fh j) (ψ w (fg j)))) ff fk (jmin (fh j) (ψ w (fg j)))).2.2.2)
abbrev blow (φ ψ : Int32 → Int32 → Int32) (n : Nat) (fh fg ff fk : FN) (w : Int32) : FN × FN × FN × Int32 := bOut φ ψ n fg w n fh ff fk 0
/-- a storm of level w over m cells from j on: drowned, heights, grass, fences, sea, floods -/
def srg (w : Int32) : Nat → Nat → FN → FN → FN → Int32 → Int32 → Int32 × FN × FN × FN × Int32 × Int32
  | 0, j, fh, fg, ff, vs, vd => (nI j, fh, fg, ff, vs, vd + 1)
  | m + 1, j, fh, fg, ff, vs, vd => if fh j < w then srg w m (j + 1) (upd fh j (fh j - fh j / 2)) (upd fg j 0) (upd ff j 0) (vs + fh j / 2) vd
      else (nI j, upd fh j (fh j - w / 4), fg, ff, vs + w / 4, vd)
/-- the year ends over m cells from j on: how many have other grass, grass, kept -/
def yE (ν : Int32 → Int32 → Int32) : Nat → Nat → FN → FN → Int32 → Int32 × FN × FN
  | 0, _, fg, fk, x => (x, fg, fk)
  | m + 1, j, fg, fk, x => yE ν m (j + 1) (upd fg j (ν (fg j) (fk j))) (upd fk j 0) (if ν (fg j) (fk j) = fg j then x else x + 1)
def gMax (fh : FN) : Nat → Nat → Int32 → Int32
  | 0, _, x => x
  | m + 1, j, x => gMax fh m (j + 1) (jmax x (fh j))
def sumH (fh : FN) : Nat → Nat → Int32 → Int32
  | 0, _, x => x
  | m + 1, j, x => sumH fh m (j + 1) (x + fh j)
theorem i32_ge {x : Int32} (h : ¬ x < 0) : 0 ≤ x := Int32.not_lt.mp h
theorem i32_nle {x y : Int32} (h : ¬ y ≤ x) : x < y := Int32.not_le.mp h
theorem i32_not {x : Int32} (h : 0 ≤ x) (h2 : x < 0) : False := absurd h2 (Int32.not_lt.mpr h)
theorem i32_nlt {x y : Int32} (h : y ≤ x) (h2 : x < y) : False := absurd h2 (Int32.not_lt.mpr h)
