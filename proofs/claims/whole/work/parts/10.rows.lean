/-! numbers: Java's min, max, abs; 0 and 1 for truth; comparisons of small naturals -/
def jmin (x y : Int32) : Int32 := if y < x then y else x
def jmax (x y : Int32) : Int32 := if x < y then y else x
def jabs (x : Int32) : Int32 := if 0 ≤ x then x else 0 - x
def bi (P : Prop) [Decidable P] : Int32 := if P then 1 else 0
theorem bi_1 {P : Prop} [Decidable P] (h : ¬ bi P = 0) : P := by
  by_cases hp : P
  · exact hp
  · exact absurd (by unfold bi; rw [if_neg hp]) h
theorem bi_0 {P : Prop} [Decidable P] (h : bi P = 0) : ¬ P := by
  intro hp
  unfold bi at h
  rw [if_pos hp] at h
  exact absurd h (by decide)
theorem bi_t {P : Prop} [Decidable P] (h : P) : (1 : Int32) = bi P := by unfold bi; rw [if_pos h]
theorem bi_f {P : Prop} [Decidable P] (h : ¬ P) : (0 : Int32) = bi P := by unfold bi; rw [if_neg h]
theorem bi_nar (P : Prop) [Decidable P] : narrow .boolean (.int (bi P)) = .int (bi P) := by
  by_cases hp : P
  · rw [← bi_t hp]; rfl
  · rw [← bi_f hp]; rfl
theorem bi_c {P P' : Prop} [Decidable P] [Decidable P'] (h : P ↔ P') : bi P = bi P' := by
  by_cases hp : P
  · rw [← bi_t hp, ← bi_t (h.mp hp)]
  · rw [← bi_f hp, ← bi_f (fun q => hp (h.mpr q))]
theorem ra_inc1 (i : Nat) : nI i + Int32.ofInt 1 = nI (i + 1) := (nI_succ i).symm
theorem ra_inc5 (i : Nat) : nI i + Int32.ofInt 5 = nI (i + 5) := nI_add i 5
theorem ra_dec (i : Nat) : nI i + Int32.ofInt (-1) = nI i - 1 := by rw [show Int32.ofInt (-1) = -1 from rfl, Int32.sub_eq_add_neg]
theorem nq_eq (a b : Nat) (ha : a < 2147483648) (hb : b < 2147483648) : nI a = nI b ↔ a = b := nI_eq ha hb
theorem nq_lt (a b : Nat) (ha : a < 2147483648) (hb : b < 2147483648) : nI a < nI b ↔ a < b := nI_ltI ha hb
theorem nq_le (a b : Nat) (ha : a < 2147483648) (hb : b < 2147483648) : nI a ≤ nI b ↔ a ≤ b := nI_leI ha hb
theorem nq_eq_n (a b : Nat) (ha : a < 2147483648) (hb : b < 2147483648) : ¬ nI a = nI b ↔ ¬ a = b := not_congr (nI_eq ha hb)
theorem nq_lt_n (a b : Nat) (ha : a < 2147483648) (hb : b < 2147483648) : ¬ nI a < nI b ↔ b ≤ a := by rw [nI_ltI ha hb]; omega
theorem nq_le_n (a b : Nat) (ha : a < 2147483648) (hb : b < 2147483648) : ¬ nI a ≤ nI b ↔ b < a := by rw [nI_leI ha hb]; omega
/-! rows of our own over the kit's: arrays by a natural index, calls with the frame joined, entries and returns -/
abbrev FN : Type := Nat → Int32
abbrev kT (cyI cyA : ClassId) : List (ClassId × FieldType) := [(cyI, .int), (cyA, .array .int)]
/-- the one link to a nest mate's private method -/
def nwd : Cond := .methodLinkNest RX0 60 yX3_isWithin "DuneBench"
def rm (k : Nat) : Room := { frames := k, cells := 0, slots := 0, locals := 30 * k }
/-- an array of ints, an array of arrays -/
abbrev ai (a : Nat) (cy : ClassId) (n : Nat) (f : FN) : Nat × va_E := (a, .inl (cy, n, .inl f))
abbrev aa (a : Nat) (cy : ClassId) (n : Nat) (f : Nat → Option Nat) : Nat × va_E := (a, .inl (cy, n, .inr (.inr (.inr (.inr f)))))
abbrev ob (a : Nat) (k : Nat) (fs : List Value) : Nat × va_E := (a, .inr (k, fs))
abbrev kB (dC : Nat → ClassId) (dI : Nat → Nat → Nat) (cyI cyA : ClassId) (A : Nat → Prop) (ws : va_W) (t : State) : Prop := va_P (dC, dI) vwCl ws t.heap ∧ va_K (dC, dI) vwCl (kT cyI cyA) t ∧ va_D A ws
/-- the start of a method that writes -/
abbrev kW (dC : Nat → ClassId) (dI : Nat → Nat → Nat) (cyI cyA : ClassId) (av : List Value) (sz : Nat) (ws : va_W) : Array Value → State → Prop := va_Pc av (fun U => U.heap.size = sz ∧ va_P (dC, dI) vwCl ws U.heap ∧ (va_K (dC, dI) vwCl (kT cyI cyA) U ∧ va_Nw nwd U) ∧ va_D (fun _ => True) ws)
/-- the start of a static method without a world -/
abbrev kS (av : List Value) : Array Value → State → Prop := va_Pc av (fun U => va_Nw nwd U)
/-- the start of a method that only reads -/
abbrev kR (dC : Nat → ClassId) (dI : Nat → Nat → Nat) (cyI cyA : ClassId) (av : List Value) (ws : va_W) : Array Value → State → Prop := va_Pc av (fun U => va_P (dC, dI) vwCl ws U.heap ∧ (va_K (dC, dI) vwCl (kT cyI cyA) U ∧ va_Nw nwd U))
abbrev qI {σ : Type} (dC : Nat → ClassId) (dI : Nat → Nat → Nat) (cyI cyA : ClassId) (post : Int32 → σ → Prop) (A : Nat → Prop) (w1 : σ → va_W) : Array Value → State → Outcome → State → Prop := va_Qi post (fun u t => kB dC dI cyI cyA A (w1 u) t) A
abbrev qV {σ : Type} (dC : Nat → ClassId) (dI : Nat → Nat → Nat) (cyI cyA : ClassId) (post : σ → Prop) (A : Nat → Prop) (w1 : σ → va_W) : Array Value → State → Outcome → State → Prop := va_Qv post (fun u t => kB dC dI cyI cyA A (w1 u) t) A
def QcRef (r : Nat) : Array Value → State → Outcome → State → Prop := fun _ st o t => o = .returned (some (.ref r)) ∧ t.heap = st.heap
section RA
variable {p : Program} {l : Launch} {e : Env} {R : Room} {s : State} {m : MethodId} {args : Array Value} {below : List Frame} {meth : Method} {c : Code} {H : Heap} {locs : List Loc} {cells slots : Nat} {Q : State → Prop}
variable {cc : ByteArray} {pc : Nat} {ls : Array Slot} {rest : List Value} {dC : Nat → ClassId} {dI : Nat → Nat → Nat} {cyI cyA : ClassId} {A : Nat → Prop} {a : Nat} {ws : va_W} {H0 : Heap}
theorem ra_top {x : Int32} (y : Int32) (h : x = y) (k : W p l e R s m args below meth c H locs cells slots Q (F0 m pc ls (.int y :: rest))) : W p l e R s m args below meth c H locs cells slots Q (F0 m pc ls (.int x :: rest)) := by rw [h]; exact k
theorem ra_iald (hx : p.tables.exec = Jvm.exec) (hb : c.code = cc) (hK : va_K (dC, dI) vwCl (kT cyI cyA) s) (hP : va_P (dC, dI) vwCl ws H) (q0 : Nat) {n : Nat} {f : FN} (ha : ws[q0]? = some (ai a cyI n f)) {i : Int32} (j : Nat) (hi : i = nI j) (hj : j < n) (hn : n < 2147483648) (hdg : decode cc pc = .ok (.iaload, 1))
    (kk : W p l e R s m args below meth c H locs cells slots Q (F0 m (pc + 1) ls (.int (f j) :: rest))) : W p l e R s m args below meth c H locs cells slots Q (F0 m pc ls (.int i :: .ref a :: rest)) := by
  subst hi
  refine va_iald hx hb hK hP q0 0 ha rfl (vp_in_nI hj hn) hdg ?_
  rw [nI_clamp (by omega)]
  exact kk
theorem ra_iast (hx : p.tables.exec = Jvm.exec) (hb : c.code = cc) (hK : va_K (dC, dI) vwCl (kT cyI cyA) s) (hP : va_P (dC, dI) vwCl ws H) (hD : va_D A ws) (hS : va_S A H0 H locs) (q0 : Nat) {n : Nat} {f : FN} (ha : ws[q0]? = some (ai a cyI n f)) {i x : Int32} (j : Nat) (hi : i = nI j) (hj : j < n) (hn : n < 2147483648) (hdg : decode cc pc = .ok (.iastore, 1))
    (kk : ∀ (H1 : Heap) (locs1 : List Loc), va_P (dC, dI) vwCl (ws.set q0 (ai a cyI n (upd f j x))) H1 → va_D A (ws.set q0 (ai a cyI n (upd f j x))) → va_S A H0 H1 locs1 → W p l e R s m args below meth c H1 locs1 cells slots Q (F0 m (pc + 1) ls rest)) : W p l e R s m args below meth c H locs cells slots Q (F0 m pc ls (.int x :: .int i :: .ref a :: rest)) := by
  subst hi
  refine va_iast hx hb hK hP hD hS q0 0 ha rfl (vp_in_nI hj hn) hdg ?_
  rw [nI_clamp (by omega)]
  exact kk
theorem ra_aald (hx : p.tables.exec = Jvm.exec) (hb : c.code = cc) (hK : va_K (dC, dI) vwCl (kT cyI cyA) s) (hP : va_P (dC, dI) vwCl ws H) (q0 : Nat) {n : Nat} {f : Nat → Option Nat} (ha : ws[q0]? = some (aa a cyA n f)) {i : Int32} (j : Nat) (hi : i = nI j) (hj : j < n) (hn : n < 2147483648) {b : Nat} (hb2 : f j = some b) (hdg : decode cc pc = .ok (.aaload, 1))
    (kk : W p l e R s m args below meth c H locs cells slots Q (F0 m (pc + 1) ls (.ref b :: rest))) : W p l e R s m args below meth c H locs cells slots Q (F0 m pc ls (.int i :: .ref a :: rest)) := by
  subst hi
  have hin := vp_in_nI hj hn
  have hcl : (nI j).toNatClampNeg = j := nI_clamp (by omega)
  have hlt : (nI j).toNatClampNeg < n := by rw [hcl]; exact hj
  refine W.aald (v := .ref b) (ty := .array .int) hx hb (hP q0 _ ha) ((hK.2 1 _ rfl).1 n (fun j => va_rf (f j))) rfl (fun q => by cases q) (by show ¬ (nI j < 0 ∨ (arrV _ _ _).slots.size ≤ _); rw [arrV_size]; exact hin) ?_ rfl rfl hdg kk
  show (arrV _ _ _).slots[_]? = _
  rw [arrV_read _ _ hlt, hcl, hb2]
  rfl
/-- an array's content beyond its length says nothing -/
theorem ra_cong (hP : va_P (dC, dI) vwCl ws H) (hD : va_D A ws) (q0 : Nat) {n : Nat} {f : FN} (g : FN) (ha : ws[q0]? = some (ai a cyI n f)) (h : ∀ j, j < n → f j = g j) : va_P (dC, dI) vwCl (ws.set q0 (ai a cyI n g)) H ∧ va_D A (ws.set q0 (ai a cyI n g)) := by
  refine ⟨hP.set hD ha ?_ (fun _ _ => rfl), hD.set ha⟩
  have h1 : H[a]? = some (vp_cell cyI (n, .inl f)) := hP q0 _ ha
  show H[a]? = some (vp_cell cyI (n, .inl g))
  rw [h1, vp_cell_i, vp_cell_i]
  refine congrArg some ?_
  unfold arrV
  have e9 : (Array.ofFn (n := n) fun j => Value.int (f j.val)) = Array.ofFn (n := n) fun j => Value.int (g j.val) := by
    refine congrArg Array.ofFn (funext fun j => ?_)
    rw [h j.val j.isLt]
  rw [e9]
theorem ra_iretW {σ : Type} {post : Int32 → σ → Prop} {w1 : σ → va_W} {av : Array Value} {r : Int32} {rt : FieldType} (u : σ) (hx : p.tables.exec = Jvm.exec) (hb : c.code = cc) (hr : meth.sig.returnType = some rt) (hlocks : meth.locks = false) (hn : narrow rt (.int r) = .int r) (hK : va_K (dC, dI) vwCl (kT cyI cyA) s) (hP : va_P (dC, dI) vwCl (w1 u) H) (hD : va_D A (w1 u)) (hS : va_S A s.heap H locs) (hp : post r u) (hdg : decode cc pc = .ok (.ireturn, 1)) :
    W p l e R s m av below meth c H locs cells slots (MQ below (qI dC dI cyI cyA post A w1) av s cells slots A) (F0 m pc ls [.int r]) :=
  W.zret (v := r) hx hb hr hn (fun t ht hW => ⟨⟨r, u, rfl, hp, by show va_P _ _ _ _; rw [ht]; exact hP, va_K.moved hW.alike hK, hD⟩, hS.F ht⟩) hS.2.2 hdg hlocks
theorem ra_vretW {σ : Type} {post : σ → Prop} {w1 : σ → va_W} {av : Array Value} (u : σ) (hx : p.tables.exec = Jvm.exec) (hb : c.code = cc) (hr : meth.sig.returnType = none) (hlocks : meth.locks = false) (hK : va_K (dC, dI) vwCl (kT cyI cyA) s) (hP : va_P (dC, dI) vwCl (w1 u) H) (hD : va_D A (w1 u)) (hS : va_S A s.heap H locs) (hp : post u) (hdg : decode cc pc = .ok (.return_, 1)) :
    W p l e R s m av below meth c H locs cells slots (MQ below (qV dC dI cyI cyA post A w1) av s cells slots A) (F0 m pc ls []) :=
  W.vret hx hb hr (fun t ht hW => ⟨⟨u, rfl, hp, by show va_P _ _ _ _; rw [ht]; exact hP, va_K.moved hW.alike hK, hD⟩, hS.F ht⟩) hS.2.2 hdg hlocks
theorem ra_iretR {av : Array Value} {v r : Int32} {rt : FieldType} (hx : p.tables.exec = Jvm.exec) (hb : c.code = cc) (hr : meth.sig.returnType = some rt) (hlocks : meth.locks = false) (hn : narrow rt (.int v) = .int v) (hv : v = r) (hdg : decode cc pc = .ok (.ireturn, 1)) :
    W p l e R s m av below meth c s.heap [] cells slots (MQ below (QcRead r) av s cells slots (fun _ => False)) (F0 m pc ls [.int v]) := by
  subst hv
  exact W.zret (v := v) hx hb hr hn (fun t ht hW => ⟨rfl, ht⟩) (fun q h => absurd h List.not_mem_nil) hdg hlocks
theorem ra_aretR {av : Array Value} {r : Nat} {rt : FieldType} (hx : p.tables.exec = Jvm.exec) (hb : c.code = cc) (hr : meth.sig.returnType = some (.array rt)) (hlocks : meth.locks = false) (hdg : decode cc pc = .ok (.areturn, 1)) :
    W p l e R s m av below meth c s.heap [] cells slots (MQ below (QcRef r) av s cells slots (fun _ => False)) (F0 m pc ls [.ref r]) :=
  W.aret (v := .ref r) hx hb hr (Or.inr ⟨rt, rfl⟩) (Or.inr ⟨r, rfl⟩) (fun t ht hW => ⟨rfl, ht⟩) (fun q h => absurd h List.not_mem_nil) hdg hlocks
end RA
section RB
variable {l : Launch} {dC : Nat → ClassId} {dI : Nat → Nat → Nat} {cyI cyA : ClassId}
/-- a method that writes: from its body to its contract -/
theorem ra_metW {y : MethodName} {wds wds' : List Cond} {r0 : Room} {av : List Value} {sz : Nat} {ws : va_W} {Qc : (Nat → Prop) → Array Value → State → Outcome → State → Prop} {mc ms : Nat} {cc : ByteArray} {maxL : Nat} {ret : Option FieldType} (hy : plainName y.cls = true) (hw : wds = Cond.code y cc maxL ret :: wds') (hl0 : (lg_sl av).length ≤ maxL)
    (body : ∀ (p : Program) (e : Env) (s : State) (m : MethodId) (below : List Frame) (meth : Method) (c : Code) (A : Nat → Prop) (args : Array Value) (Q : State → Prop), Q = MQ below (Qc A) args s mc ms A → p.tables.exec = Jvm.exec → c.code = cc → meth.sig.returnType = ret → meth.locks = false → c.maxLocals = maxL → (∀ w ∈ wds, w.before args s = true) → s.vm.findClass y.cls = some m.cls → meth.name = y.name →
      va_K (dC, dI) vwCl (kT cyI cyA) s → va_Nw nwd s → va_P (dC, dI) vwCl ws s.heap → va_D A ws → (∀ q : Nat, s.heap.size ≤ q → A q) → va_S A s.heap s.heap [] → ∀ ls : Array Slot, lv_has ls maxL (lv_args 0 av) →
      W p l e r0 s m args below meth c s.heap [] 0 0 Q (F0 m 0 ls [])) : Met l y wds r0 (kW dC dI cyI cyA av sz ws) (Qc (va_A ws sz)) mc ms (va_A ws sz) := by
  refine Met.ofW (cc := cc) (maxL := maxL) (ret := ret) hy hw ?_
  intro p e s m args below meth c s₁ B hml hv
  obtain ⟨rfl, hsz, hP, ⟨hK, hN⟩, hD0⟩ := hv
  have hts := atoms_spec (ws := wds) B.pre
  have hown : s.vm.findClass y.cls = some m.cls := findClass_of_methodNamed B.named
  subst hsz
  have hD := hD0.self (sz := s.heap.size)
  have hl := lv_entry av (n := maxL) hl0
  rw [lg_entry_eq]
  exact body p e s m below meth c (va_A ws s.heap.size) _ _ rfl B.exec B.bytes B.returns B.notSynchronized hml hts hown (name_of_methodNamed B.named B.method).1 hK hN hP hD (fun q h => Or.inr h) va_S.rf _ hl
/-- a method that only reads -/
theorem ra_metR {y : MethodName} {wds wds' : List Cond} {r0 : Room} {av : List Value} {ws : va_W} {r : Int32} {cc : ByteArray} {maxL : Nat} {ret : Option FieldType} (hy : plainName y.cls = true) (hw : wds = Cond.code y cc maxL ret :: wds') (hl0 : (lg_sl av).length ≤ maxL)
    (body : ∀ (p : Program) (e : Env) (s : State) (m : MethodId) (below : List Frame) (meth : Method) (c : Code) (args : Array Value) (Q : State → Prop), Q = MQ below (QcRead r) args s 0 0 (fun _ => False) → p.tables.exec = Jvm.exec → c.code = cc → meth.sig.returnType = ret → meth.locks = false → c.maxLocals = maxL → (∀ w ∈ wds, w.before args s = true) → s.vm.findClass y.cls = some m.cls →
      va_K (dC, dI) vwCl (kT cyI cyA) s → va_Nw nwd s → va_P (dC, dI) vwCl ws s.heap → ∀ ls : Array Slot, lv_has ls maxL (lv_args 0 av) →
      W p l e r0 s m args below meth c s.heap [] 0 0 Q (F0 m 0 ls [])) : Met l y wds r0 (kR dC dI cyI cyA av ws) (QcRead r) 0 0 (fun _ => False) := by
  refine Met.ofW (cc := cc) (maxL := maxL) (ret := ret) hy hw ?_
  intro p e s m args below meth c s₁ B hml hv
  obtain ⟨rfl, hP, ⟨hK, hN⟩⟩ := hv
  have hts := atoms_spec (ws := wds) B.pre
  have hown : s.vm.findClass y.cls = some m.cls := findClass_of_methodNamed B.named
  have hl := lv_entry av (n := maxL) hl0
  rw [lg_entry_eq]
  exact body p e s m below meth c _ _ rfl B.exec B.bytes B.returns B.notSynchronized hml hts hown hK hN hP _ hl
/-- a method that only reads and answers a cell -/
theorem ra_metRr {y : MethodName} {wds wds' : List Cond} {r0 : Room} {av : List Value} {ws : va_W} {r : Nat} {cc : ByteArray} {maxL : Nat} {ret : Option FieldType} (hy : plainName y.cls = true) (hw : wds = Cond.code y cc maxL ret :: wds') (hl0 : (lg_sl av).length ≤ maxL)
    (body : ∀ (p : Program) (e : Env) (s : State) (m : MethodId) (below : List Frame) (meth : Method) (c : Code) (args : Array Value) (Q : State → Prop), Q = MQ below (QcRef r) args s 0 0 (fun _ => False) → p.tables.exec = Jvm.exec → c.code = cc → meth.sig.returnType = ret → meth.locks = false → c.maxLocals = maxL → (∀ w ∈ wds, w.before args s = true) → s.vm.findClass y.cls = some m.cls →
      va_K (dC, dI) vwCl (kT cyI cyA) s → va_Nw nwd s → va_P (dC, dI) vwCl ws s.heap → ∀ ls : Array Slot, lv_has ls maxL (lv_args 0 av) →
      W p l e r0 s m args below meth c s.heap [] 0 0 Q (F0 m 0 ls [])) : Met l y wds r0 (kR dC dI cyI cyA av ws) (QcRef r) 0 0 (fun _ => False) := by
  refine Met.ofW (cc := cc) (maxL := maxL) (ret := ret) hy hw ?_
  intro p e s m args below meth c s₁ B hml hv
  obtain ⟨rfl, hP, ⟨hK, hN⟩⟩ := hv
  have hts := atoms_spec (ws := wds) B.pre
  have hown : s.vm.findClass y.cls = some m.cls := findClass_of_methodNamed B.named
  have hl := lv_entry av (n := maxL) hl0
  rw [lg_entry_eq]
  exact body p e s m below meth c _ _ rfl B.exec B.bytes B.returns B.notSynchronized hml hts hown hK hN hP _ hl
/-- a static method without a world -/
theorem ra_metS {y : MethodName} {wds wds' : List Cond} {r0 : Room} {av : List Value} {r : Int32} {cc : ByteArray} {maxL : Nat} {ret : Option FieldType} (hy : plainName y.cls = true) (hw : wds = Cond.code y cc maxL ret :: wds') (hl0 : (lg_sl av).length ≤ maxL)
    (body : ∀ (p : Program) (e : Env) (s : State) (m : MethodId) (below : List Frame) (meth : Method) (c : Code) (args : Array Value) (Q : State → Prop), Q = MQ below (QcRead r) args s 0 0 (fun _ => False) → p.tables.exec = Jvm.exec → c.code = cc → meth.sig.returnType = ret → meth.locks = false → c.maxLocals = maxL → (∀ w ∈ wds, w.before args s = true) → s.vm.findClass y.cls = some m.cls → va_Nw nwd s →
      ∀ ls : Array Slot, lv_has ls maxL (lv_args 0 av) →
      W p l e r0 s m args below meth c s.heap [] 0 0 Q (F0 m 0 ls [])) : Met l y wds r0 (kS av) (QcRead r) 0 0 (fun _ => False) := by
  refine Met.ofW (cc := cc) (maxL := maxL) (ret := ret) hy hw ?_
  intro p e s m args below meth c s₁ B hml hv
  obtain ⟨rfl, hN⟩ := hv
  have hts := atoms_spec (ws := wds) B.pre
  have hown : s.vm.findClass y.cls = some m.cls := findClass_of_methodNamed B.named
  have hl := lv_entry av (n := maxL) hl0
  rw [lg_entry_eq]
  exact body p e s m below meth c _ _ rfl B.exec B.bytes B.returns B.notSynchronized hml hts hown hN _ hl
end RB
section RC
variable {p : Program} {l : Launch} {e : Env} {R : Room} {s : State} {m : MethodId} {args : Array Value} {below : List Frame} {meth : Method} {c : Code} {H : Heap} {locs : List Loc} {cells slots : Nat} {Q : State → Prop}
variable {cc : ByteArray} {pc : Nat} {ls : Array Slot} {rest st0 : List Value} {dC : Nat → ClassId} {dI : Nat → Nat → Nat} {cyI cyA : ClassId} {A : Nat → Prop} {b : Nat} {ws wc wr : va_W} {H0 : Heap}
variable {y : MethodName} {bytes : ByteArray} {maxL nL mc ms n index : Nat} {ret : Option FieldType} {wds : List Cond} {r0 : Room} {Ts : List Cond} {own C : String} {As : List Value}
theorem ra_Rrun {r : Int32} {av : Array Value} (hr : va_Run p l e R s m args below meth c H locs cells slots 0 0 (F0 m pc ls st0) rest (QcRead r av) (fun _ => False)) (kk : W p l e R s m args below meth c H locs cells slots Q (F0 m (pc + 3) ls (.int r :: rest))) : W p l e R s m args below meth c H locs cells slots Q (F0 m pc ls st0) := by
  intro T hT X
  obtain ⟨v, st₀, t, T', L, h0, X', hL, e1, e2, ⟨hv, hh⟩, st⟩ := hr T hT X
  cases hv
  obtain ⟨t2, a1, b1⟩ := kk T' (by rw [e1, hh, h0]) (Stand.forget X' (fun q h => (hL q h).elim))
  exact ⟨t2, st t2 a1, b1⟩
/-- a call of a static method without a world -/
theorem ra_cS {r : Int32} (S : CallFix p m c cc nL s args Ts own) (hM : Met l y wds r0 (kS As) (QcRead r) 0 0 (fun _ => False)) (cw : CallB R s args own index y bytes maxL ret wds r0 0 0 n ∧ (Cond.static y).before args s = true) (hN : va_Nw nwd s) (hn : As.length = n) (hsize : ls.size = nL) (hstack : st0 = As.reverse ++ rest) (hW : (rest.map fun v => v.category).sum ≤ 8) (hdg : decode cc pc = .ok (.invokestatic index, 3)) (hf : cells ≤ R.cells ∧ slots ≤ R.slots)
    (kk : W p l e R s m args below meth c H locs cells slots Q (F0 m (pc + 3) ls (.int r :: rest))) : W p l e R s m args below meth c H locs cells slots Q (F0 m pc ls st0) :=
  ra_Rrun (va_runS (As := As) (rest := rest) S hM cw ⟨fun a U g mk q => ⟨q.1, va_Nw.same rfl (u := U) (U := U.calling g mk a) rfl q.2⟩, fun U hU hW => ⟨rfl, va_Nw.warmM hW hN⟩⟩ rfl hn hsize hstack (lv_room hW) hdg hf) kk
theorem ra_cSN {r : Int32} {host : String} (S : CallFix p m c cc nL s args Ts own) (hM : Met l y wds r0 (kS As) (QcRead r) 0 0 (fun _ => False)) (cw : va_CN R s args own index y host bytes maxL ret wds r0 0 0 n ∧ (Cond.static y).before args s = true ∧ True) (hN : va_Nw nwd s) (hn : As.length = n) (hsize : ls.size = nL) (hstack : st0 = As.reverse ++ rest) (hW : (rest.map fun v => v.category).sum ≤ 8) (hdg : decode cc pc = .ok (.invokestatic index, 3)) (hf : cells ≤ R.cells ∧ slots ≤ R.slots)
    (kk : W p l e R s m args below meth c H locs cells slots Q (F0 m (pc + 3) ls (.int r :: rest))) : W p l e R s m args below meth c H locs cells slots Q (F0 m pc ls st0) :=
  ra_Rrun (va_runSN (As := As) (rest := rest) S hM cw ⟨fun a U g mk q => ⟨q.1, va_Nw.same rfl (u := U) (U := U.calling g mk a) rfl q.2⟩, fun U hU hW => ⟨rfl, va_Nw.warmM hW hN⟩⟩ rfl hn hsize hstack (lv_room hW) hdg hf) kk
/-- a call of a method that only reads: the world stays as it is -/
theorem ra_cR {r : Int32} {ci : Nat} {q : vw_C} {fs : List Value} (S : CallFix p m c cc nL s args Ts own) (hM : Met l y wds r0 (kR dC dI cyI cyA (.ref b :: As) wc) (QcRead r) 0 0 (fun _ => False)) (cw : CallW R s args own q.1 index y bytes maxL ret wds r0 0 0 n) (hK : va_K (dC, dI) vwCl (kT cyI cyA) s) (hN : va_Nw nwd s) (hP : va_P (dC, dI) vwCl ws H) (isC : List Nat) (hC : isC.filterMap (fun i => ws[i]?) = wc) (hc : vwCl[ci]? = some q) (he : wc[0]? = some (b, .inr (ci, fs))) (hn : As.length = n) (hsize : ls.size = nL) (hstack : st0 = As.reverse ++ .ref b :: rest) (hW : (rest.map fun v => v.category).sum ≤ 8) (hdg : decode cc pc = .ok (.invokevirtual index, 3)) (hf : cells ≤ R.cells ∧ slots ≤ R.slots)
    (kk : W p l e R s m args below meth c H locs cells slots Q (F0 m (pc + 3) ls (.int r :: rest))) : W p l e R s m args below meth c H locs cells slots Q (F0 m pc ls st0) := by
  have hPc := hP.sub isC hC
  refine ra_Rrun (va_runV (As := As) (rest := rest) (b := b) S hM cw ⟨fun a U g mk q => ?_, va_recv hK hPc hc he, fun U hU hW => ⟨rfl, by rw [hU]; exact hPc, va_K.moved hW.alike hK, va_Nw.warmM hW hN⟩⟩ rfl hn hsize hstack (lv_room hW) hdg hf) kk
  obtain ⟨q0, qP, qK, qN⟩ := q
  exact ⟨q0, qP, va_K.moved (u := U) (U := U.calling g mk a) (Vm.Alike.refl U.vm) qK, va_Nw.same rfl (u := U) (U := U.calling g mk a) rfl qN⟩
theorem ra_Rrunr {r : Nat} {av : Array Value} (hr : va_Run p l e R s m args below meth c H locs cells slots 0 0 (F0 m pc ls st0) rest (QcRef r av) (fun _ => False)) (kk : W p l e R s m args below meth c H locs cells slots Q (F0 m (pc + 3) ls (.ref r :: rest))) : W p l e R s m args below meth c H locs cells slots Q (F0 m pc ls st0) := by
  intro T hT X
  obtain ⟨v, st₀, t, T', L, h0, X', hL, e1, e2, ⟨hv, hh⟩, st⟩ := hr T hT X
  cases hv
  obtain ⟨t2, a1, b1⟩ := kk T' (by rw [e1, hh, h0]) (Stand.forget X' (fun q h => (hL q h).elim))
  exact ⟨t2, st t2 a1, b1⟩
/-- a call of a method that only reads and answers a cell: the world stays as it is -/
theorem ra_cRr {r : Nat} {ci : Nat} {q : vw_C} {fs : List Value} (S : CallFix p m c cc nL s args Ts own) (hM : Met l y wds r0 (kR dC dI cyI cyA (.ref b :: As) wc) (QcRef r) 0 0 (fun _ => False)) (cw : CallW R s args own q.1 index y bytes maxL ret wds r0 0 0 n) (hK : va_K (dC, dI) vwCl (kT cyI cyA) s) (hN : va_Nw nwd s) (hP : va_P (dC, dI) vwCl ws H) (isC : List Nat) (hC : isC.filterMap (fun i => ws[i]?) = wc) (hc : vwCl[ci]? = some q) (he : wc[0]? = some (b, .inr (ci, fs))) (hn : As.length = n) (hsize : ls.size = nL) (hstack : st0 = As.reverse ++ .ref b :: rest) (hW : (rest.map fun v => v.category).sum ≤ 8) (hdg : decode cc pc = .ok (.invokevirtual index, 3)) (hf : cells ≤ R.cells ∧ slots ≤ R.slots)
    (kk : W p l e R s m args below meth c H locs cells slots Q (F0 m (pc + 3) ls (.ref r :: rest))) : W p l e R s m args below meth c H locs cells slots Q (F0 m pc ls st0) := by
  have hPc := hP.sub isC hC
  refine ra_Rrunr (va_runV (As := As) (rest := rest) (b := b) S hM cw ⟨fun a U g mk q => ?_, va_recv hK hPc hc he, fun U hU hW => ⟨rfl, by rw [hU]; exact hPc, va_K.moved hW.alike hK, va_Nw.warmM hW hN⟩⟩ rfl hn hsize hstack (lv_room hW) hdg hf) kk
  obtain ⟨q0, qP, qK, qN⟩ := q
  exact ⟨q0, qP, va_K.moved (u := U) (U := U.calling g mk a) (Vm.Alike.refl U.vm) qK, va_Nw.same rfl (u := U) (U := U.calling g mk a) rfl qN⟩
/-- a call of a method that writes and answers an int -/
theorem ra_cI {σ : Type} {post : Int32 → σ → Prop} {w1 : σ → va_W} {ci : Nat} {q : vw_C} {fs : List Value} (S : CallFix p m c cc nL s args Ts own) (hM : Met l y wds r0 (kW dC dI cyI cyA (.ref b :: As) H.size wc) (qI dC dI cyI cyA post (va_A wc H.size) w1) mc ms (va_A wc H.size)) (cw : CallW R s args own q.1 index y bytes maxL ret wds r0 mc ms n) (hK : va_K (dC, dI) vwCl (kT cyI cyA) s) (hN : va_Nw nwd s) (hP : va_P (dC, dI) vwCl ws H) (hD : va_D A ws) (hA : ∀ q : Nat, H0.size ≤ q → A q) (hS : va_S A H0 H locs) (isC isR : List Nat) (hC : isC.map (fun i => ws[i]?) = wc.map some) (hR : isR.map (fun i => ws[i]?) = wr.map some) (hnC : va_nd isC = true) (hnR : va_nd isR = true) (hdis : ∀ i ∈ isR, i ∉ isC) (hc : vwCl[ci]? = some q) (he : wc[0]? = some (b, .inr (ci, fs))) (hn : As.length = n) (hsize : ls.size = nL) (hstack : st0 = As.reverse ++ .ref b :: rest) (hW : (rest.map fun v => v.category).sum ≤ 8) (hdg : decode cc pc = .ok (.invokevirtual index, 3)) (hf : cells + mc ≤ R.cells ∧ slots + ms ≤ R.slots)
    (kk : ∀ (r : Int32) (u : σ), post r u → ∀ (H1 : Heap) (locs1 : List Loc), va_P (dC, dI) vwCl (wr ++ w1 u) H1 → va_D A (wr ++ w1 u) → va_S A H0 H1 locs1 → W p l e R s m args below meth c H1 locs1 (cells + mc) (slots + ms) Q (F0 m (pc + 3) ls (.int r :: rest))) : W p l e R s m args below meth c H locs cells slots Q (F0 m pc ls st0) := by
  have hDc : va_D A wc := hD.sub isC hnC hC
  have hPc : va_P (dC, dI) vwCl wc H := hP.sub isC (by
    have h9 : isC.filterMap (fun i => ws[i]?) = (isC.map (fun i => ws[i]?)).filterMap id := by rw [List.filterMap_map]; rfl
    rw [h9, hC, List.filterMap_map]
    exact List.filterMap_some)
  have hFc := va_free (wc := wc) hD hS hA isC hC
  refine va_calli (va_runV (As := As) (rest := rest) (b := b) S hM cw ⟨fun a U g mk q => ?_, va_recv hK hPc hc he, fun U hU hW => ⟨rfl, by rw [hU], by rw [hU]; exact hPc, ⟨va_K.moved hW.alike hK, va_Nw.warmM hW hN⟩, hDc.weaken (fun _ _ _ _ => trivial)⟩⟩ rfl hn hsize hstack (lv_room hW) hdg hf) hS (fun q _ h => hFc q h) hFc (fun r u t H1 locs1 ht hvm hw hB hz1 hk1 hS1 => ?_)
  · obtain ⟨q0, q1, qP, ⟨qK, qN⟩, qD⟩ := q
    exact ⟨q0, q1, qP, ⟨va_K.moved (u := U) (U := U.calling g mk a) (Vm.Alike.refl U.vm) qK, va_Nw.same rfl (u := U) (U := U.calling g mk a) rfl qN⟩, qD⟩
  · obtain ⟨hP1, hK1, hD1⟩ := hB
    rw [ht] at hP1
    obtain ⟨hP2, hD2⟩ := va_join (wr := wr) (w1 := w1 u) hP hD isC isR hC hR hnR hdis hk1 hFc hP1 hD1
    exact kk r u hw H1 locs1 hP2 hD2 hS1
/-- the same, of a method that answers nothing -/
theorem ra_cV {σ : Type} {post : σ → Prop} {w1 : σ → va_W} {ci : Nat} {q : vw_C} {fs : List Value} (S : CallFix p m c cc nL s args Ts own) (hM : Met l y wds r0 (kW dC dI cyI cyA (.ref b :: As) H.size wc) (qV dC dI cyI cyA post (va_A wc H.size) w1) mc ms (va_A wc H.size)) (cw : CallW R s args own q.1 index y bytes maxL ret wds r0 mc ms n) (hK : va_K (dC, dI) vwCl (kT cyI cyA) s) (hN : va_Nw nwd s) (hP : va_P (dC, dI) vwCl ws H) (hD : va_D A ws) (hA : ∀ q : Nat, H0.size ≤ q → A q) (hS : va_S A H0 H locs) (isC isR : List Nat) (hC : isC.map (fun i => ws[i]?) = wc.map some) (hR : isR.map (fun i => ws[i]?) = wr.map some) (hnC : va_nd isC = true) (hnR : va_nd isR = true) (hdis : ∀ i ∈ isR, i ∉ isC) (hc : vwCl[ci]? = some q) (he : wc[0]? = some (b, .inr (ci, fs))) (hn : As.length = n) (hsize : ls.size = nL) (hstack : st0 = As.reverse ++ .ref b :: rest) (hW : (rest.map fun v => v.category).sum ≤ 8) (hdg : decode cc pc = .ok (.invokevirtual index, 3)) (hf : cells + mc ≤ R.cells ∧ slots + ms ≤ R.slots)
    (kk : ∀ (u : σ), post u → ∀ (H1 : Heap) (locs1 : List Loc), va_P (dC, dI) vwCl (wr ++ w1 u) H1 → va_D A (wr ++ w1 u) → va_S A H0 H1 locs1 → W p l e R s m args below meth c H1 locs1 (cells + mc) (slots + ms) Q (F0 m (pc + 3) ls rest)) : W p l e R s m args below meth c H locs cells slots Q (F0 m pc ls st0) := by
  have hDc : va_D A wc := hD.sub isC hnC hC
  have hPc : va_P (dC, dI) vwCl wc H := hP.sub isC (by
    have h9 : isC.filterMap (fun i => ws[i]?) = (isC.map (fun i => ws[i]?)).filterMap id := by rw [List.filterMap_map]; rfl
    rw [h9, hC, List.filterMap_map]
    exact List.filterMap_some)
  have hFc := va_free (wc := wc) hD hS hA isC hC
  refine va_callv (va_runV (As := As) (rest := rest) (b := b) S hM cw ⟨fun a U g mk q => ?_, va_recv hK hPc hc he, fun U hU hW => ⟨rfl, by rw [hU], by rw [hU]; exact hPc, ⟨va_K.moved hW.alike hK, va_Nw.warmM hW hN⟩, hDc.weaken (fun _ _ _ _ => trivial)⟩⟩ rfl hn hsize hstack (lv_room hW) hdg hf) hS (fun q _ h => hFc q h) hFc (fun u t H1 locs1 ht hvm hw hB hz1 hk1 hS1 => ?_)
  · obtain ⟨q0, q1, qP, ⟨qK, qN⟩, qD⟩ := q
    exact ⟨q0, q1, qP, ⟨va_K.moved (u := U) (U := U.calling g mk a) (Vm.Alike.refl U.vm) qK, va_Nw.same rfl (u := U) (U := U.calling g mk a) rfl qN⟩, qD⟩
  · obtain ⟨hP1, hK1, hD1⟩ := hB
    rw [ht] at hP1
    obtain ⟨hP2, hD2⟩ := va_join (wr := wr) (w1 := w1 u) hP hD isC isR hC hR hnR hdis hk1 hFc hP1 hD1
    exact kk u hw H1 locs1 hP2 hD2 hS1
end RC
