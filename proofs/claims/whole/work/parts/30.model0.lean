/-! the reference: its rows hold three coasts one behind the other, its events three weathers -/
def f3 (a b c : FN) : FN := fun j => if j < 7 then a j else if j < 14 then b (j - 7) else c (j - 14)
theorem f3_r0 (a b c : FN) {j : Nat} (h : j < 7) : f3 a b c j = a j := by unfold f3; rw [if_pos h]
theorem f3_r1 (a b c : FN) {j : Nat} (h : j < 7) : f3 a b c (7 + j) = b j := by unfold f3; rw [if_neg (by omega), if_pos (by omega), show 7 + j - 7 = j by omega]
theorem f3_r2 (a b c : FN) (j : Nat) : f3 a b c (14 + j) = c j := by unfold f3; rw [if_neg (by omega), if_neg (by omega), show 14 + j - 14 = j by omega]
theorem f3_w0 (a b c : FN) {j : Nat} (v : Int32) (h : j < 7) : upd (f3 a b c) j v = f3 (upd a j v) b c := by
  funext i
  unfold f3 upd
  by_cases hi : i = j
  · rw [if_pos hi, if_pos (by omega), if_pos hi]
  · rw [if_neg hi]
    show (if i < 7 then a i else if i < 14 then b (i - 7) else c (i - 14)) = _
    by_cases h7 : i < 7
    · rw [if_pos h7, if_pos h7, if_neg hi]
    · rw [if_neg h7, if_neg h7]
theorem f3_w1 (a b c : FN) {j : Nat} (v : Int32) (h : j < 7) : upd (f3 a b c) (7 + j) v = f3 a (upd b j v) c := by
  funext i
  unfold f3 upd
  by_cases hi : i = 7 + j
  · rw [if_pos hi, if_neg (by omega), if_pos (by omega), if_pos (by omega)]
  · rw [if_neg hi]
    show (if i < 7 then a i else if i < 14 then b (i - 7) else c (i - 14)) = _
    by_cases h7 : i < 7
    · rw [if_pos h7, if_pos h7]
    · rw [if_neg h7, if_neg h7]
      by_cases h14 : i < 14
      · rw [if_pos h14, if_pos h14, if_neg (by omega)]
      · rw [if_neg h14, if_neg h14]
theorem f3_w2 (a b c : FN) (j : Nat) (v : Int32) : upd (f3 a b c) (14 + j) v = f3 a b (upd c j v) := by
  funext i
  unfold f3 upd
  by_cases hi : i = 14 + j
  · rw [if_pos hi, if_neg (by omega), if_neg (by omega), if_pos (by omega)]
  · rw [if_neg hi]
    show (if i < 7 then a i else if i < 14 then b (i - 7) else c (i - 14)) = _
    by_cases h7 : i < 7
    · rw [if_pos h7, if_pos h7]
    · rw [if_neg h7, if_neg h7]
      by_cases h14 : i < 14
      · rw [if_pos h14, if_pos h14]
      · rw [if_neg h14, if_neg h14, if_neg (by omega)]
def t3 (a b c : Int32) : FN := fun y => match y with
  | 0 => a
  | 1 => b
  | 2 => c
  | _ => 0
theorem t3_w0 (a b c v : Int32) : upd (t3 a b c) 0 v = t3 v b c := by
  funext i
  match i with
  | 0 => rfl
  | 1 => rfl
  | 2 => rfl
  | n + 3 => rfl
theorem t3_w1 (a b c v : Int32) : upd (t3 a b c) 1 v = t3 a v c := by
  funext i
  match i with
  | 0 => rfl
  | 1 => rfl
  | 2 => rfl
  | n + 3 => rfl
theorem t3_w2 (a b c v : Int32) : upd (t3 a b c) 2 v = t3 a b v := by
  funext i
  match i with
  | 0 => rfl
  | 1 => rfl
  | 2 => rfl
  | n + 3 => rfl
def q12 (kd : Nat → FN) : FN := fun j => kd (j / 12) (j % 12)
theorem q12_r (kd : Nat → FN) {w i : Nat} (h : i < 12) : q12 kd (12 * w + i) = kd w i := by
  unfold q12
  rw [show (12 * w + i) / 12 = w by omega, show (12 * w + i) % 12 = i by omega]
theorem q12_w (kd : Nat → FN) {w i : Nat} (v : Int32) (h : i < 12) : upd (q12 kd) (12 * w + i) v = q12 (va_up kd w (upd (kd w) i v)) := by
  funext j
  unfold q12 upd va_up
  by_cases hj : j = 12 * w + i
  · rw [if_pos hj, if_pos (by omega)]
    try dsimp only
    rw [if_pos (by omega)]
  · rw [if_neg hj]
    by_cases hw : j / 12 = w
    · rw [if_pos hw]
      try dsimp only
      rw [if_neg (by omega), hw]
    · rw [if_neg hw]
theorem jm_t {a b : Int32} (h : a < b) : a = jmin a b := by
  unfold jmin
  rw [if_neg (fun q => absurd h (Int32.not_lt.mpr (Int32.le_of_lt q)))]
theorem jm_f {a b : Int32} (h : b ≤ a) : b = jmin a b := by
  unfold jmin
  by_cases q : b < a
  · rw [if_pos q]
  · rw [if_neg q]; exact Int32.le_antisymm h (Int32.not_lt.mp q)
theorem upd_back (f : FN) (i : Nat) (a : Int32) : upd (upd f i a) i (f i) = f := by
  funext j
  unfold upd
  by_cases h : j = i
  · rw [if_pos h, h]
  · rw [if_neg h, if_neg h]
theorem upd_self (f : FN) (i : Nat) : upd f i (f i) = f := by
  funext j
  unfold upd
  by_cases h : j = i
  · rw [if_pos h, h]
  · rw [if_neg h]
/-- the reference's plans: numbers to the base n + 1 -/
def md0 (n k : Nat) : Nat := k / (n + 1) / (n + 1) % (n + 1)
def md1 (n k : Nat) : Nat := k / (n + 1) % (n + 1)
def md2 (n k : Nat) : Nat := k % (n + 1)
def ld (n c : Nat) : Int32 := if c < n then nI c else -1
def lyp (n k : Nat) : FN := p3 (ld n (md0 n k)) (ld n (md1 n k)) (ld n (md2 n k))
def one (n c : Nat) : Nat := if c < n then 1 else 0
def mny (n k : Nat) : Nat := one n (md0 n k) + one n (md1 n k) + one n (md2 n k)
theorem up3r (f : FN) (a b c : Int32) : ∀ j, j < 3 → upd (upd (upd f 2 a) 1 b) 0 c j = p3 c b a j := by
  intro j hj
  rcases (show j = 0 ∨ j = 1 ∨ j = 2 by omega) with rfl | rfl | rfl <;> rfl
def hSt (ct : Nat → Nat) (cr fl : Nat → Int32) (w : Nat) (x : Int32) : Int32 := if 0 < ct w then jmin x (if 0 < fl w then -1 else cr w) else x
def hld (ct : Nat → Nat) (cr fl : Nat → Int32) : Int32 := hSt ct cr fl 2 (hSt ct cr fl 1 (hSt ct cr fl 0 99))
theorem hSt_0 {ct : Nat → Nat} {cr fl : Nat → Int32} {w : Nat} (x : Int32) (h : ct w ≤ 0) : hSt ct cr fl w x = x := if_neg (Nat.not_lt.mpr h)
theorem hSt_1 {ct : Nat → Nat} {cr fl : Nat → Int32} {w : Nat} (x : Int32) (h : 0 < ct w) : hSt ct cr fl w x = jmin x (if 0 < fl w then -1 else cr w) := if_pos h
def MPost (N : Nat) (P : Nat → Prop) (n : Nat) (r : Int32) (bp : FN) : Prop := (r = -3 ∧ ∀ k, k < N → ¬ P k) ∨ (∃ b, b < N ∧ P b ∧ r = nI (mny n b) ∧ bp = lyp n b ∧ (∀ k, k < N → P k → mny n b ≤ mny n k) ∧ (∀ k, k < b → P k → mny n b < mny n k))
theorem one_le (n c : Nat) : one n c ≤ 1 := by unfold one; split <;> omega
theorem mny_le (n k : Nat) : mny n k ≤ 3 := by
  have h0 := one_le n (md0 n k)
  have h1 := one_le n (md1 n k)
  have h2 := one_le n (md2 n k)
  unfold mny
  omega
def mmo (n : Nat) (ct : Nat → Nat) (cr fl : FN → Nat → Int32) : Nat → Nat → Int32 → Int32
  | 0, _, x => x
  | m + 1, k, x => mmo n ct cr fl m (k + 1) (if 0 ≤ hld ct (cr (lyp n k)) (fl (lyp n k)) ∧ x < hld ct (cr (lyp n k)) (fl (lyp n k)) then hld ct (cr (lyp n k)) (fl (lyp n k)) else x)
/-- the reference's surveys -/
def cntM (fr : FN) : Nat → Nat → Nat → Nat
  | 0, _, x => x
  | m + 1, i, x => cntM fr m (i + 1) (if fr i < 0 then x else x + 1)
theorem cntM_le (fr : FN) : ∀ (m i x : Nat), cntM fr m i x ≤ x + m
  | 0, _, x => Nat.le_refl x
  | m + 1, i, x => by
    unfold cntM
    by_cases h : fr i < 0
    · rw [if_pos h]; have := cntM_le fr m (i + 1) x; omega
    · rw [if_neg h]; have := cntM_le fr m (i + 1) (x + 1); omega
def lDq (fr : FN) : Nat → Int32
  | 0 => -1
  | j + 1 => if fr j < 0 then lDq fr j else nI j
def lUp (fr : FN) : Nat → Nat → Nat
  | 0, j => j
  | m + 1, j => if fr j < 0 then lUp fr m (j + 1) else j
def mLev (fr : FN) (n j : Nat) : Int32 :=
  if lDq fr (j + 1) < 0 then 60 * fr (lUp fr (n - j) j)
  else if lUp fr (n - j) j = n then 60 * fr (lDq fr (j + 1)).toNatClampNeg
  else if lDq fr (j + 1) = nI (lUp fr (n - j) j) then 60 * fr (lDq fr (j + 1)).toNatClampNeg
  else 60 / (nI (lUp fr (n - j) j) - lDq fr (j + 1)) * (fr (lDq fr (j + 1)).toNatClampNeg * (nI (lUp fr (n - j) j) - nI j) + fr (lUp fr (n - j) j) * (nI j - lDq fr (j + 1)))
theorem lDq_rng (fr : FN) : ∀ q : Nat, lDq fr q = -1 ∨ ∃ k, k < q ∧ lDq fr q = nI k
  | 0 => Or.inl rfl
  | j + 1 => by
    unfold lDq
    by_cases h : fr j < 0
    · rw [if_pos h]
      rcases lDq_rng fr j with h2 | ⟨k, h2, h3⟩
      · exact Or.inl h2
      · exact Or.inr ⟨k, by omega, h3⟩
    · rw [if_neg h]; exact Or.inr ⟨j, by omega, rfl⟩
theorem lUp_le (fr : FN) : ∀ m j : Nat, lUp fr m j ≤ j + m
  | 0, j => Nat.le_refl j
  | m + 1, j => by
    unfold lUp
    by_cases h : fr j < 0
    · rw [if_pos h]; have := lUp_le fr m (j + 1); omega
    · rw [if_neg h]; omega
def mVol (fr : FN) (n : Nat) : Nat → Nat → Int32 → Int32
  | 0, _, x => x
  | m + 1, i, x => mVol fr n m (i + 1) (x + mLev fr n i)
def mDbt (fr : FN) (n : Nat) (al : Int32) : Nat → Nat → Int32 → Int32
  | 0, _, x => x
  | m + 1, i, x => mDbt fr n al m (i + 1) (if fr i < 0 then x else jmax x (jabs (mVol (upd fr i (-1)) n n 0 0 - al)))
def prt (a : Nat) (wt : Int32) : Int32 := (if wt = 0 then nI a else 60) / nI (Nat.gcd a 60)
theorem i32_subne2 {x y : Int32} (h : ¬ y = x) : ¬ x - y = 0 := by
  intro q
  refine h ?_
  have h2 : x - y + y = 0 + y := by rw [q]
  rw [Int32.sub_add_cancel, Int32.zero_add] at h2
  exact h2.symm
/-- there is a reading: below, or above -/
theorem lev_up (fr : FN) : ∀ (m j : Nat), (∃ k, j ≤ k ∧ k < j + m ∧ ¬ fr k < 0) → lUp fr m j < j + m
  | 0, j, ⟨k, h1, h2, _⟩ => by omega
  | m + 1, j, ⟨k, h1, h2, h3⟩ => by
    unfold lUp
    by_cases h : fr j < 0
    · rw [if_pos h]
      have hne : k ≠ j := fun e => h3 (e ▸ h)
      have := lev_up fr m (j + 1) ⟨k, by omega, by omega, h3⟩
      omega
    · rw [if_neg h]; omega
theorem lev_dn (fr : FN) : ∀ (q : Nat), q ≤ 8 → (∃ k, k < q ∧ ¬ fr k < 0) → ¬ lDq fr q < 0
  | 0, _, ⟨k, h, _⟩ => by omega
  | j + 1, hq, ⟨k, h1, h2⟩ => by
    unfold lDq
    by_cases h : fr j < 0
    · rw [if_pos h]
      have hne : k ≠ j := fun e => h2 (e ▸ h)
      exact lev_dn fr j (by omega) ⟨k, by omega, h2⟩
    · rw [if_neg h]
      exact nI_pos (by omega)
theorem lev_ok {fr : FN} {n j : Nat} (hn : n ≤ 7) (hj : j < n) (hx : ∃ k, k < n ∧ ¬ fr k < 0) (h : lDq fr (j + 1) < 0) : lUp fr (n - j) j < n := by
  obtain ⟨k, h1, h2⟩ := hx
  by_cases hk : k < j + 1
  · exact absurd h (lev_dn fr (j + 1) (by omega) ⟨k, hk, h2⟩)
  · have := lev_up fr (n - j) j ⟨k, by omega, by omega, h2⟩
    omega
theorem cntM_1 (fr : FN) : ∀ (m i x : Nat), x < cntM fr m i x → ∃ k, i ≤ k ∧ k < i + m ∧ ¬ fr k < 0
  | 0, i, x, h => absurd h (Nat.lt_irrefl x)
  | m + 1, i, x, h => by
    unfold cntM at h
    by_cases q : fr i < 0
    · rw [if_pos q] at h
      obtain ⟨k, h1, h2, h3⟩ := cntM_1 fr m (i + 1) x h
      exact ⟨k, by omega, by omega, h3⟩
    · exact ⟨i, Nat.le_refl i, by omega, q⟩
/-- one reading less, one fewer -/
theorem cntM_u (fr : FN) (c : Nat) : ∀ (m i x : Nat), cntM fr m i x ≤ cntM (upd fr c (-1)) m i x + 1 ∧ (c < i → cntM fr m i x = cntM (upd fr c (-1)) m i x) ∧ cntM (upd fr c (-1)) m i (x + 1) = cntM (upd fr c (-1)) m i x + 1 ∧ cntM fr m i (x + 1) = cntM fr m i x + 1
  | 0, i, x => ⟨Nat.le_succ x, fun _ => rfl, rfl, rfl⟩
  | m + 1, i, x => by
    have hA := cntM_u fr c m (i + 1) x
    have hB := cntM_u fr c m (i + 1) (x + 1)
    unfold cntM
    by_cases hc : i = c
    · have hu : upd fr c (-1) i < 0 := by rw [hc, pk_us]; decide
      have hlt := hA.2.1 (by omega)
      have hlt2 := hB.2.1 (by omega)
      simp only [if_pos hu]
      by_cases q : fr i < 0
      · simp only [if_pos q]
        exact ⟨by omega, fun z => by omega, hA.2.2.1, hA.2.2.2⟩
      · simp only [if_neg q]
        exact ⟨by omega, fun z => by omega, hA.2.2.1, hB.2.2.2⟩
    · rw [pk_un hc]
      by_cases q : fr i < 0
      · simp only [if_pos q]
        exact ⟨hA.1, fun z => hA.2.1 (by omega), hA.2.2.1, hA.2.2.2⟩
      · simp only [if_neg q]
        exact ⟨hB.1, fun z => hB.2.1 (by omega), hB.2.2.1, hB.2.2.2⟩
theorem cntM_2 {fr : FN} {n c : Nat} (h : 2 ≤ cntM fr n 0 0) : ∃ k, k < n ∧ ¬ upd fr c (-1) k < 0 := by
  have h1 := (cntM_u fr c n 0 0).1
  obtain ⟨k, -, h3, h4⟩ := cntM_1 (upd fr c (-1)) n 0 0 (by omega)
  exact ⟨k, by omega, h4⟩
theorem gcd_step {p q : Nat} : Nat.gcd q (p % q) = Nat.gcd p q := by rw [Nat.gcd_comm p q, Nat.gcd_rec q p, Nat.gcd_comm]
theorem neg0 (x : Int32) : -x = 0 - x := (Int32.zero_sub x).symm
theorem cell_iff {n : Nat} {x : Int32} (h1 : 1 ≤ n) (hn : n ≤ 7) : (0 ≤ x ∧ x ≤ nI n - 1) ↔ (0 ≤ x ∧ x < nI n) := by
  obtain ⟨k, rfl⟩ : ∃ k, n = k + 1 := ⟨n - 1, by omega⟩
  rw [nI_pred]
  constructor
  · intro h
    refine ⟨h.1, ?_⟩
    obtain ⟨j, hj, rfl⟩ := nI_of (Int32.not_lt.mpr h.1)
    have := (nq_le j k hj (by omega)).mp h.2
    exact (nq_lt j (k + 1) hj (by omega)).mpr (by omega)
  · intro h
    refine ⟨h.1, ?_⟩
    obtain ⟨j, hj, rfl⟩ := nI_of (Int32.not_lt.mpr h.1)
    have := (nq_lt j (k + 1) hj (by omega)).mp h.2
    exact (nq_le j k hj (by omega)).mpr (by omega)
theorem upd_twice (f : FN) (i : Nat) (x y : Int32) : upd (upd f i x) i y = upd f i y := by
  funext j
  unfold upd
  by_cases h : j = i
  · rw [if_pos h, if_pos h]
  · rw [if_neg h, if_neg h, if_neg h]
