/-! constructors: rows of our own -/
def rmc (k mc ms : Nat) : Room := { frames := k, cells := mc, slots := ms, locals := 30 * k }
theorem va_AOA.moved {ty : FieldType} {u U : State} (hvm : u.vm.Alike U.vm) (h : va_AOA ty u) : va_AOA ty U := by
  have h1 : (Cond.arrayOver (.array ty)).before #[] (u.setVm U.vm) = true := by rw [Cond.arrayOver_setVmC hvm]; exact h
  exact h1
abbrev kWA (dC : Nat → ClassId) (dI : Nat → Nat → Nat) (cyI cyA : ClassId) (av : List Value) (sz : Nat) (ws : va_W) : Array Value → State → Prop := va_Pc av (fun U => U.heap.size = sz ∧ va_P (dC, dI) vwCl ws U.heap ∧ (va_K (dC, dI) vwCl (kT cyI cyA) U ∧ va_Nw nwd U ∧ va_AOA .int U) ∧ va_D (fun _ => True) ws)
section MA
variable {p : Program} {l : Launch} {e : Env} {R : Room} {s : State} {m : MethodId} {args : Array Value} {below : List Frame} {meth : Method} {c : Code} {H : Heap} {locs : List Loc} {cells slots : Nat} {Q : State → Prop}
variable {cc : ByteArray} {pc : Nat} {ls : Array Slot} {rest st0 : List Value} {dC : Nat → ClassId} {dI : Nat → Nat → Nat} {cyI cyA : ClassId} {A : Nat → Prop} {a b : Nat} {ws wc wr : va_W} {H0 : Heap}
theorem ra_metA {y : MethodName} {wds wds' : List Cond} {r0 : Room} {av : List Value} {sz : Nat} {Qc : (Nat → Prop) → Array Value → State → Outcome → State → Prop} {mc ms : Nat} {maxL : Nat} {ret : Option FieldType} (hy : plainName y.cls = true) (hw : wds = Cond.code y cc maxL ret :: wds') (hl0 : (lg_sl av).length ≤ maxL)
    (body : ∀ (p : Program) (e : Env) (s : State) (m : MethodId) (below : List Frame) (meth : Method) (c : Code) (A : Nat → Prop) (args : Array Value) (Q : State → Prop), Q = MQ below (Qc A) args s mc ms A → p.tables.exec = Jvm.exec → c.code = cc → meth.sig.returnType = ret → meth.locks = false → c.maxLocals = maxL → (∀ w ∈ wds, w.before args s = true) → s.vm.findClass y.cls = some m.cls → meth.name = y.name →
      va_K (dC, dI) vwCl (kT cyI cyA) s → va_Nw nwd s → va_AOA .int s → va_P (dC, dI) vwCl ws s.heap → va_D A ws → (∀ q : Nat, s.heap.size ≤ q → A q) → va_S A s.heap s.heap [] → ∀ ls : Array Slot, lv_has ls maxL (lv_args 0 av) →
      W p l e r0 s m args below meth c s.heap [] 0 0 Q (F0 m 0 ls [])) : Met l y wds r0 (kWA dC dI cyI cyA av sz ws) (Qc (va_A ws sz)) mc ms (va_A ws sz) := by
  refine Met.ofW (cc := cc) (maxL := maxL) (ret := ret) hy hw ?_
  intro p e s m args below meth c s₁ B hml hv
  obtain ⟨rfl, hsz, hP, ⟨hK, hN, hO⟩, hD0⟩ := hv
  have hts := atoms_spec (ws := wds) B.pre
  have hown : s.vm.findClass y.cls = some m.cls := findClass_of_methodNamed B.named
  subst hsz
  have hD := hD0.self (sz := s.heap.size)
  have hl := lv_entry av (n := maxL) hl0
  rw [lg_entry_eq]
  exact body p e s m below meth c (va_A ws s.heap.size) _ _ rfl B.exec B.bytes B.returns B.notSynchronized hml hts hown (name_of_methodNamed B.named B.method).1 hK hN hO hP hD (fun q h => Or.inr h) va_S.rf _ hl
theorem ra_sameI {cA : ClassId} (hK : va_K (dC, dI) vwCl (kT cyI cyA ++ [(cA, .int)]) s) : cA = cyI := by
  have h1 : s.vm.findClass ("[" ++ FieldType.int.toString) = some cyI := (hK.2 0 _ rfl).2
  have h2 : s.vm.findClass ("[" ++ FieldType.int.toString) = some cA := (hK.2 2 _ rfl).2
  exact Option.some.inj (h2.symm.trans h1)
theorem ra_sameA {cA : ClassId} (hK : va_K (dC, dI) vwCl (kT cyI cyA ++ [(cA, .array .int)]) s) : cA = cyA := by
  have h1 : s.vm.findClass ("[" ++ (FieldType.array .int).toString) = some cyA := (hK.2 1 _ rfl).2
  have h2 : s.vm.findClass ("[" ++ (FieldType.array .int).toString) = some cA := (hK.2 2 _ rfl).2
  exact Option.some.inj (h2.symm.trans h1)
theorem ra_newa (hx : p.tables.exec = Jvm.exec) (hb : c.code = cc) (harr : (Cond.arrayClass .int).before args s = true) (hK : va_K (dC, dI) vwCl (kT cyI cyA) s) (hP : va_P (dC, dI) vwCl ws H) (hD : va_D A ws) (hS : va_S A H0 H locs) (hA : ∀ q, H0.size ≤ q → A q)
    {n : Int32} {N : Nat} (hn : ¬ n < 0) (hN : n.toNatClampNeg = N) (hbytes : N * 4 ≤ 536870912) (hcells : cells + 1 ≤ R.cells) (hslots : slots + N ≤ R.slots) (hdg : decode cc pc = .ok (.newarray .int, 2))
    (kk : ∀ (q : Nat) (H1 : Heap), va_P (dC, dI) vwCl (ws ++ [ai q cyI N zF]) H1 → va_D A (ws ++ [ai q cyI N zF]) → va_S A H0 H1 locs → W p l e R s m args below meth c H1 locs (cells + 1) (slots + N) Q (F0 m (pc + 2) ls (.ref q :: rest))) : W p l e R s m args below meth c H locs cells slots Q (F0 m pc ls (.int n :: rest)) := by
  refine va_newa (atype := .int) (a0 := (N, .inl zF)) (N' := N) (ty := .int) hx hb harr rfl hK hP hD hS hA (fun cA => rfl) hn hN hbytes hcells hslots hdg (fun q cA H1 hK1 hP1 hD1 hS1 => ?_)
  obtain rfl := ra_sameI hK1
  exact kk q H1 hP1 hD1 hS1
theorem ra_congq (hP : va_P (dC, dI) vwCl ws H) (hD : va_D A ws) (q0 : Nat) {n : Nat} {f : Nat → Option Nat} (g : Nat → Option Nat) (ha : ws[q0]? = some (aa a cyA n f)) (h : ∀ j, j < n → f j = g j) : va_P (dC, dI) vwCl (ws.set q0 (aa a cyA n g)) H ∧ va_D A (ws.set q0 (aa a cyA n g)) := by
  refine ⟨hP.set hD ha ?_ (fun _ _ => rfl), hD.set ha⟩
  have h1 : H[a]? = some (vp_cell cyA (n, .inr (.inr (.inr (.inr f))))) := hP q0 _ ha
  show H[a]? = some (vp_cell cyA (n, .inr (.inr (.inr (.inr g)))))
  rw [h1, vp_cell_q, vp_cell_q]
  refine congrArg some ?_
  unfold arrV
  have e9 : (Array.ofFn (n := n) fun j => va_rf (f j.val)) = Array.ofFn (n := n) fun j => va_rf (g j.val) := by
    refine congrArg Array.ofFn (funext fun j => ?_)
    rw [h j.val j.isLt]
  rw [e9]
/-- new int[3][12] -/
theorem ra_mna (hx : p.tables.exec = Jvm.exec) (hb : c.code = cc) {own : String} {index : Nat} (hown : s.vm.findClass own = some m.cls) (hclink : (Cond.classLink own index "[[I").before args s = true) (hO : va_AOA .int s) (harr : (Cond.arrayClass .int).before args s = true)
    (hK : va_K (dC, dI) vwCl (kT cyI cyA) s) (hP : va_P (dC, dI) vwCl ws H) (hD : va_D A ws) (hS : va_S A H0 H locs) (hA : ∀ q, H0.size ≤ q → A q) (hcells : cells + 4 ≤ R.cells) (hslots : slots + 39 ≤ R.slots) (hdg : decode cc pc = .ok (.multianewarray index 2, 4))
    (kk : ∀ (q x y z : Nat) (H1 : Heap), va_P (dC, dI) vwCl (ws ++ [aa q cyA 3 (r3 x y z), ai x cyI 12 zF, ai y cyI 12 zF, ai z cyI 12 zF]) H1 → va_D A (ws ++ [aa q cyA 3 (r3 x y z), ai x cyI 12 zF, ai y cyI 12 zF, ai z cyI 12 zF]) → va_S A H0 H1 locs → W p l e R s m args below meth c H1 locs (cells + 4) (slots + 39) Q (F0 m (pc + 4) ls (.ref q :: rest))) : W p l e R s m args below meth c H locs cells slots Q (F0 m pc ls (.int 12 :: .int 3 :: rest)) := by
  have hcy : s.vm.findClass (FieldType.array .int).toString = some cyI := (hK.2 0 _ rfl).2
  have hP0 : va_P (dC, dI) vwCl (ws ++ va_pl [] (fun _ => Sum.inr (0, []))) H := by
    show va_P (dC, dI) vwCl (ws ++ []) H
    rw [List.append_nil]; exact hP
  have hD0 : va_D A (ws ++ va_pl [] (fun _ => Sum.inr (0, []))) := by
    show va_D A (ws ++ [])
    rw [List.append_nil]; exact hD
  refine va_mna (ty := .int) (N' := 3) (K' := 12) (z := (12, .inl zF)) hx hb hown hclink hO harr hcy hK hP0 hD0 hS hA (by decide) (by decide) (by decide) (by decide) (by decide) (by decide) (by decide) rfl rfl hcells hslots (fun c9 => ?_) hdg (fun q r cA H1 hr1 hr2 hK1 hP1 hD1 hS1 => ?_)
  · show ({ cls := c9, slots := Array.replicate 12 (defaultValue .int), vm := .none } : Cell) = _
    rw [arrV_new]
    rfl
  · obtain rfl := ra_sameA hK1
    have hl : (ws ++ [(q, Sum.inl (cA, 3, Sum.inr (Sum.inr (Sum.inr (Sum.inr (fun i => if i < 3 then some (r i) else none))))))]) ++ va_pl ([] ++ (List.range 3).map r) (vr_up (fun _ => Sum.inr (0, [])) ((List.range 3).map r) (.inl (cyI, (12, .inl zF)))) = ws ++ [aa q cA 3 (fun i => if i < 3 then some (r i) else none), ai (r 0) cyI 12 zF, ai (r 1) cyI 12 zF, ai (r 2) cyI 12 zF] := by
      rw [List.append_assoc]
      refine congrArg (fun z => ws ++ z) ?_
      have h0 : (List.range 3).map r = [r 0, r 1, r 2] := rfl
      rw [h0]
      show _ :: va_pl [r 0, r 1, r 2] _ = _
      refine congrArg (fun z => _ :: z) ?_
      show [(r 0, vr_up _ [r 0, r 1, r 2] _ (r 0)), (r 1, vr_up _ [r 0, r 1, r 2] _ (r 1)), (r 2, vr_up _ [r 0, r 1, r 2] _ (r 2))] = _
      rw [vr_up_in (by simp), vr_up_in (by simp), vr_up_in (by simp)]
    have hP2 : va_P (dC, dI) vwCl (ws ++ [aa q cA 3 (fun i => if i < 3 then some (r i) else none), ai (r 0) cyI 12 zF, ai (r 1) cyI 12 zF, ai (r 2) cyI 12 zF]) H1 := by rw [← hl]; exact hP1
    have hD2 : va_D A (ws ++ [aa q cA 3 (fun i => if i < 3 then some (r i) else none), ai (r 0) cyI 12 zF, ai (r 1) cyI 12 zF, ai (r 2) cyI 12 zF]) := by rw [← hl]; exact hD1
    have hg : (ws ++ [aa q cA 3 (fun i => if i < 3 then some (r i) else none), ai (r 0) cyI 12 zF, ai (r 1) cyI 12 zF, ai (r 2) cyI 12 zF])[ws.length]? = some (aa q cA 3 (fun i => if i < 3 then some (r i) else none)) := by
      rw [List.getElem?_append_right (Nat.le_refl _), Nat.sub_self]; rfl
    obtain ⟨hP3, hD3⟩ := ra_congq hP2 hD2 ws.length (r3 (r 0) (r 1) (r 2)) hg (fun j hj => by
      rcases (show j = 0 ∨ j = 1 ∨ j = 2 by omega) with rfl | rfl | rfl <;> rfl)
    rw [List.set_append_right _ _ (Nat.le_refl _), Nat.sub_self] at hP3 hD3
    exact kk q (r 0) (r 1) (r 2) H1 hP3 hD3 hS1
variable {y : MethodName} {bytes : ByteArray} {maxL nL mc ms n index : Nat} {wds : List Cond} {r0 : Room} {Ts : List Cond} {own : String} {As : List Value}
/-- a call of a constructor -/
theorem ra_cK {σ : Type} {post : σ → Prop} {w1 : σ → va_W} (S : CallFix p m c cc nL s args Ts own) (hM : Met l y wds r0 (kWA dC dI cyI cyA (.ref b :: As) H.size wc) (qV dC dI cyI cyA post (va_A wc H.size) w1) mc ms (va_A wc H.size)) (cw : CallB R s args own index y bytes maxL none wds r0 mc ms n ∧ y.name = "<init>" ∧ (Cond.instanceMethod y).before args s = true) (hK : va_K (dC, dI) vwCl (kT cyI cyA) s) (hN : va_Nw nwd s) (hO : va_AOA .int s) (hP : va_P (dC, dI) vwCl ws H) (hD : va_D A ws) (hA : ∀ q : Nat, H0.size ≤ q → A q) (hS : va_S A H0 H locs) (isC isR : List Nat) (hC : isC.map (fun i => ws[i]?) = wc.map some) (hR : isR.map (fun i => ws[i]?) = wr.map some) (hnC : va_nd isC = true) (hnR : va_nd isR = true) (hdis : ∀ i ∈ isR, i ∉ isC) (hn : As.length = n) (hsize : ls.size = nL) (hstack : st0 = As.reverse ++ .ref b :: rest) (hW : (rest.map fun v => v.category).sum ≤ 8) (hdg : decode cc pc = .ok (.invokespecial index, 3)) (hf : cells + mc ≤ R.cells ∧ slots + ms ≤ R.slots)
    (kk : ∀ (u : σ), post u → ∀ (H1 : Heap) (locs1 : List Loc), va_P (dC, dI) vwCl (wr ++ w1 u) H1 → va_D A (wr ++ w1 u) → va_S A H0 H1 locs1 → W p l e R s m args below meth c H1 locs1 (cells + mc) (slots + ms) Q (F0 m (pc + 3) ls rest)) : W p l e R s m args below meth c H locs cells slots Q (F0 m pc ls st0) := by
  have hDc : va_D A wc := hD.sub isC hnC hC
  have hPc : va_P (dC, dI) vwCl wc H := hP.sub isC (by
    have h9 : isC.filterMap (fun i => ws[i]?) = (isC.map (fun i => ws[i]?)).filterMap id := by rw [List.filterMap_map]; rfl
    rw [h9, hC, List.filterMap_map]
    exact List.filterMap_some)
  have hFc := va_free (wc := wc) hD hS hA isC hC
  refine va_callv (va_runI (As := As) (rest := rest) (b := b) S hM cw ⟨fun a U g mk q => ?_, fun U hU hW => ⟨rfl, by rw [hU], by rw [hU]; exact hPc, ⟨va_K.moved hW.alike hK, va_Nw.warmM hW hN, va_AOA.moved hW.alike hO⟩, hDc.weaken (fun _ _ _ _ => trivial)⟩⟩ rfl hn hsize hstack (lv_room hW) hdg hf) hS (fun q _ h => hFc q h) hFc (fun u t H1 locs1 ht hvm hw hB hz1 hk1 hS1 => ?_)
  · obtain ⟨q0, q1, qP, ⟨qK, qN, qO⟩, qD⟩ := q
    exact ⟨q0, q1, qP, ⟨va_K.moved (u := U) (U := U.calling g mk a) (Vm.Alike.refl U.vm) qK, va_Nw.same rfl (u := U) (U := U.calling g mk a) rfl qN, va_AOA.moved (u := U) (U := U.calling g mk a) (Vm.Alike.refl U.vm) qO⟩, qD⟩
  · obtain ⟨hP1, hK1, hD1⟩ := hB
    rw [ht] at hP1
    obtain ⟨hP2, hD2⟩ := va_join (wr := wr) (w1 := w1 u) hP hD isC isR hC hR hnR hdis hk1 hFc hP1 hD1
    exact kk u hw H1 locs1 hP2 hD2 hS1
end MA
