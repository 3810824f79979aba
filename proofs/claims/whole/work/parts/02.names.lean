/-! ===== BEGIN words of one list among another's, by their places ===== -/
theorem goodIn_r {big : List Cond} (ws : List Cond) (ps : List Nat) (hp : ws = ps.filterMap (fun i => big[i]?)) (h : ws.all goodWord = true) : GoodIn big ws := by
  intro w hw
  have h1 := List.all_eq_true.mp h w hw
  rw [hp] at hw
  obtain ⟨i, -, hi⟩ := List.mem_filterMap.mp hw
  have hm : w ∈ big := by first | exact List.mem_of_getElem? hi | exact List.getElem?_mem hi
  exact ⟨hm, good_of_word h1⟩
theorem goodIn_app {big a b : List Cond} (ha : GoodIn big a) (hb : GoodIn big b) : GoodIn big (a ++ b) := fun w h => (List.mem_append.mp h).elim (ha w) (hb w)
theorem goodIn_ca {big a b : List Cond} {c : Cond} (ha : GoodIn big (c :: a)) (hb : GoodIn big b) : GoodIn big (c :: (a ++ b)) := fun w h => (List.mem_cons.mp h).elim (fun e => ha w (List.mem_cons.mpr (Or.inl e))) (fun h => (List.mem_append.mp h).elim (fun h => ha w (List.mem_cons.mpr (Or.inr h))) (hb w))
theorem goodIn_sub {big ws : List Cond} (hm : ∀ w ∈ ws, w ∈ big) (h : ws.all goodWord = true) : GoodIn big ws := fun w hw => ⟨hm w hw, good_of_word (List.all_eq_true.mp h w hw)⟩
/-! ===== END ===== -/

/-! ===== BEGIN new T[n][m]: the outer array a place, the inner ones among the pooled ===== -/
/-- f, but v at every address of l -/
def vr_up {α : Type} (f : Nat → α) (l : List Nat) (v : α) : Nat → α := fun a => if a ∈ l then v else f a
theorem vr_up_in {α : Type} {f : Nat → α} {l : List Nat} {v : α} {a : Nat} (h : a ∈ l) : vr_up f l v a = v := if_pos h
theorem vr_up_ne {α : Type} {f : Nat → α} {l : List Nat} {v : α} {a : Nat} (h : a ∉ l) : vr_up f l v a = f a := if_neg h
theorem vr_rows {L l : List Nat} {f : Nat → va_E} {e : va_E} (h : ∀ a, a ∈ l → a ∉ L) : va_pl L f ++ l.map (fun a => (a, e)) = va_pl (L ++ l) (vr_up f l e) := by
  unfold va_pl
  rw [List.map_append]
  congr 1
  · apply List.map_congr_left
    intro a ha
    rw [vr_up_ne (fun q => h a q ha)]
  · apply List.map_congr_left
    intro a ha
    rw [vr_up_in ha]
theorem vr_lay {X rows : va_W} {x : Nat × va_E} {pl : va_W} {D : va_G} {cl : List vw_C} {H : Heap} (hP : va_P D cl (((X ++ pl) ++ [x]) ++ rows) H) : va_P D cl ((X ++ [x]) ++ (pl ++ rows)) H := by
  rw [List.append_assoc (X ++ pl)] at hP
  have h := va_P.swap hP
  rw [← List.append_assoc X] at h
  have h2 := va_P.swap h
  rw [List.append_assoc (X ++ [x])] at h2
  exact h2
theorem vr_layD {X rows : va_W} {x : Nat × va_E} {pl : va_W} {A : Nat → Prop} (hD : va_D A (((X ++ pl) ++ [x]) ++ rows)) : va_D A ((X ++ [x]) ++ (pl ++ rows)) := by
  rw [List.append_assoc (X ++ pl)] at hD
  have h := va_D.swap hD
  rw [← List.append_assoc X] at h
  have h2 := va_D.swap h
  rw [List.append_assoc (X ++ [x])] at h2
  exact h2
theorem vr_outer (c : ClassId) (N h0 : Nat) : ∀ i : Nat, Jvm.Free.Multi.outerC c N h0 i = arrV c N (fun j => va_rf (if j < i then some (h0 + 1 + j) else none))
  | 0 => by
    show ({ cls := c, slots := Array.replicate N .null, vm := .none } : Cell) = _
    rw [arrV_new]
    refine congrArg (arrV c N) (funext fun j => ?_)
    simp [va_rf]
  | i + 1 => by
    show (Jvm.Free.Multi.outerC c N h0 i).setSlot i (.ref (h0 + 1 + i)) = _
    rw [vr_outer c N h0 i, arrV_store]
    refine congrArg (arrV c N) (funext fun j => ?_)
    by_cases e : j = i
    · subst e
      simp [updV, va_rf]
    · by_cases h : j < i
      · simp [updV, e, h, Nat.lt_succ_of_lt h]
      · simp [updV, e, h, show ¬ j < i + 1 by omega]
/-- an array class over arrays, as the tables say it -/
def va_AOA (ty : FieldType) (U : State) : Prop := (Cond.arrayOver (.array ty)).before #[] U = true
theorem va_AOA.of {ty : FieldType} {A : Array Value} {U : State} (h : (Cond.arrayOver (.array ty)).before A U = true) : va_AOA ty U := h
theorem va_AOA.use {ty : FieldType} {A : Array Value} {U : State} (h : va_AOA ty U) : (Cond.arrayOver (.array ty)).before A U = true := h
section VGM
variable {p : Program} {l : Launch} {e : Env} {R : Room} {s : State} {m : MethodId} {args : Array Value} {below : List Frame} {meth : Method} {c : Code} {H : Heap} {locs : List Loc} {cells slots : Nat} {Q : State → Prop}
variable {cc : ByteArray} {pc : Nat} {ls : Array Slot} {rest : List Value} {D : va_G} {cl : List vw_C} {A : Nat → Prop} {a : Nat} {tys : List (ClassId × FieldType)} {ws : va_W} {H0 : Heap}
theorem va_mna {X : va_W} {L : List Nat} {f : Nat → va_E} {cc : ByteArray} (hexec : p.tables.exec = Jvm.exec) (hb : c.code = cc) {own : String} {index : Nat} {ty : FieldType} {cy : ClassId} (hown : s.vm.findClass own = some m.cls) (hclink : (Cond.classLink own index ("[" ++ (FieldType.array ty).toString)).before args s = true) (hover : va_AOA ty s) (harr : (Cond.arrayClass ty).before args s = true) (hcy : s.vm.findClass (FieldType.array ty).toString = some cy)
    (hK : va_K D cl tys s) (hP : va_P D cl (X ++ va_pl L f) H) (hD : va_D A (X ++ va_pl L f)) (hS : va_S A H0 H locs) (hA : ∀ q, H0.size ≤ q → A q) {n k : Int32} {N' K' : Nat} {z : vp_A} (hn : ¬ n < 0) (hk : ¬ k < 0) (hN : n.toNatClampNeg = N') (hM : k.toNatClampNeg = K')
    (hb1 : N' * 4 ≤ 536870912) (hb2 : K' * componentBytes ty ≤ 536870912) (hb3 : K' ≤ 536870912) (hdf : fits ty (defaultValue ty) = true) (hdd : (defaultValue ty).isDefault = true) (hcells : cells + (1 + N') ≤ R.cells) (hslots : slots + (N' + N' * K') ≤ R.slots) (hz : ∀ c : ClassId, Jvm.Free.Multi.innerC c K' (defaultValue ty) = vp_cell c z) (hdg : decode cc pc = .ok (.multianewarray index 2, 4))
    (kk : ∀ (q : Nat) (r : Nat → Nat) (cA : ClassId) (H1 : Heap), (∀ i j : Nat, i < N' → j < N' → r i = r j → i = j) → (∀ i : Nat, i < N' → r i ∉ L) → va_K D cl (tys ++ [(cA, .array ty)]) s →
      va_P D cl ((X ++ [(q, .inl (cA, N', .inr (.inr (.inr (.inr (fun i => if i < N' then some (r i) else none))))))]) ++ va_pl (L ++ (List.range N').map r) (vr_up f ((List.range N').map r) (.inl (cy, z)))) H1 → va_D A ((X ++ [(q, .inl (cA, N', .inr (.inr (.inr (.inr (fun i => if i < N' then some (r i) else none))))))]) ++ va_pl (L ++ (List.range N').map r) (vr_up f ((List.range N').map r) (.inl (cy, z)))) → va_S A H0 H1 locs →
      W p l e R s m args below meth c H1 locs (cells + 1 + N') (slots + N' + N' * K') Q (F0 m (pc + 4) ls (.ref q :: rest))) : W p l e R s m args below meth c H locs cells slots Q (F0 m pc ls (.int k :: .int n :: rest)) := by
  subst hN
  subst hM
  intro T hT Xs
  obtain ⟨vm₁, cA, comp, -, fA, fC, hO, -, X', step⟩ := Xs.multianewarray2F hexec hown hclink (va_AOA.use hover) harr (g := F0 m pc ls (.int k :: .int n :: rest)) rfl (by rw [hb]; exact hdg) rfl hn hk hb1 hb2 hb3 hdf hdd hcells hslots
  have ec : some cy = some comp := hcy.symm.trans fC
  cases ec
  generalize hF : Jvm.Free.Multi.fill (T.setVm vm₁) cA cy n.toNatClampNeg k.toNatClampNeg (defaultValue ty) n.toNatClampNeg = F at X' step
  have hTh : (T.setVm vm₁).heap = H := hT
  obtain ⟨f1, f2, -, -⟩ := Jvm.Free.Multi.fill_facts (T.setVm vm₁) cA cy n.toNatClampNeg k.toNatClampNeg (defaultValue ty) n.toNatClampNeg
  rw [hF, hTh] at f1 f2
  have hold : ∀ x : Nat, x < H.size → F.heap[x]? = H[x]? := fun x hx => by
    have := Jvm.Free.Multi.fill_old (T.setVm vm₁) cA cy n.toNatClampNeg k.toNatClampNeg (defaultValue ty) (a := x) (by rw [hTh]; exact hx) n.toNatClampNeg
    rw [hF, hTh] at this
    exact this
  have hrow : ∀ j : Nat, j < n.toNatClampNeg → F.heap[H.size + 1 + j]? = some (vp_cell cy z) := fun j hj => by
    have := Jvm.Free.Multi.fill_inner (T.setVm vm₁) cA cy n.toNatClampNeg k.toNatClampNeg (defaultValue ty) n.toNatClampNeg j hj
    rw [hF, hTh, hz] at this
    exact this
  have hout : Jvm.Free.Multi.outerC cA n.toNatClampNeg H.size n.toNatClampNeg = vp_cell cA (n.toNatClampNeg, .inr (.inr (.inr (.inr (fun i => if i < n.toNatClampNeg then some (H.size + 1 + i) else none))))) := by
    rw [vp_cell_q]
    exact vr_outer cA n.toNatClampNeg H.size n.toNatClampNeg
  rw [hout] at f2
  have hlt : ∀ a, a ∈ L → a < H.size := fun a ha => by
    obtain ⟨k9, hk9⟩ := va_pl_get (X := X) (f := f) ha
    exact (hP k9 _ hk9).lt
  have hnl : ∀ i : Nat, i < n.toNatClampNeg → H.size + 1 + i ∉ L := fun i _ h => by
    have := hlt _ h
    omega
  have hnm : ∀ a, a ∈ (List.range n.toNatClampNeg).map (fun i => H.size + 1 + i) → a ∉ L := fun a ha h => by
    obtain ⟨i, -, rfl⟩ := List.mem_map.mp ha
    have := hlt _ h
    omega
  have hP0 : va_P D cl (X ++ va_pl L f) F.heap := hP.kept (fun k9 x hx => hold x.1 ((hP k9 x hx).lt))
  have hP1 : va_P D cl ((X ++ va_pl L f) ++ [(H.size, .inl (cA, n.toNatClampNeg, .inr (.inr (.inr (.inr (fun i => if i < n.toNatClampNeg then some (H.size + 1 + i) else none))))))]) F.heap := hP0.app (fun k9 x hx => by
    have h0 : k9 < 1 := (List.getElem?_eq_some_iff.mp hx).1
    rw [show k9 = 0 by omega] at hx
    cases hx
    exact f2)
  have hP2 : va_P D cl (((X ++ va_pl L f) ++ [(H.size, .inl (cA, n.toNatClampNeg, .inr (.inr (.inr (.inr (fun i => if i < n.toNatClampNeg then some (H.size + 1 + i) else none))))))]) ++ ((List.range n.toNatClampNeg).map (fun i => H.size + 1 + i)).map (fun a => (a, .inl (cy, z)))) F.heap := hP1.app (fun k9 x hx => by
    obtain ⟨a, ha, rfl⟩ := List.mem_map.mp (List.mem_of_getElem? hx)
    obtain ⟨i, hi, rfl⟩ := List.mem_map.mp ha
    exact hrow i (List.mem_range.mp hi))
  have hD2 : va_D A (((X ++ va_pl L f) ++ [(H.size, .inl (cA, n.toNatClampNeg, .inr (.inr (.inr (.inr (fun i => if i < n.toNatClampNeg then some (H.size + 1 + i) else none))))))]) ++ ((List.range n.toNatClampNeg).map (fun i => H.size + 1 + i)).map (fun a => (a, .inl (cy, z)))) := by
    have hD1 := hD.push (e := .inl (cA, n.toNatClampNeg, .inr (.inr (.inr (.inr (fun i => if i < n.toNatClampNeg then some (H.size + 1 + i) else none)))))) hP rfl (hA _ hS.1)
    generalize hW1 : (X ++ va_pl L f) ++ [(H.size, .inl (cA, n.toNatClampNeg, .inr (.inr (.inr (.inr (fun i => if i < n.toNatClampNeg then some (H.size + 1 + i) else none))))))] = W1 at hD1 hP1 ⊢
    have hle : ∀ (k9 : Nat) (x : Nat × va_E), W1[k9]? = some x → x.1 ≤ H.size := fun k9 x hx => by
      rw [← hW1] at hx
      by_cases hl : k9 < (X ++ va_pl L f).length
      · rw [List.getElem?_append_left hl] at hx
        exact Nat.le_of_lt ((hP k9 x hx).lt)
      · rw [List.getElem?_append_right (by omega)] at hx
        have h0 : k9 - (X ++ va_pl L f).length < 1 := (List.getElem?_eq_some_iff.mp hx).1
        rw [show k9 - (X ++ va_pl L f).length = 0 by omega] at hx
        cases hx
        exact Nat.le_refl _
    have hr : ∀ (k9 : Nat) (x : Nat × va_E), (((List.range n.toNatClampNeg).map (fun i => H.size + 1 + i)).map (fun a => ((a, .inl (cy, z)) : Nat × va_E)))[k9]? = some x → x.1 = H.size + 1 + k9 := fun k9 x hx => by
      rw [List.getElem?_map, List.getElem?_map] at hx
      by_cases h9 : k9 < n.toNatClampNeg
      · rw [List.getElem?_range h9] at hx
        cases hx
        rfl
      · have hn0 : (List.range n.toNatClampNeg)[k9]? = none := List.getElem?_eq_none (by rw [List.length_range]; omega)
        rw [hn0] at hx
        cases hx
    refine ⟨fun i j x y hi hj hxy => ?_, fun k9 x hx => ?_⟩
    · by_cases h1 : i < W1.length <;> by_cases h2 : j < W1.length
      · rw [List.getElem?_append_left h1] at hi
        rw [List.getElem?_append_left h2] at hj
        exact hD1.1 i j x y hi hj hxy
      · rw [List.getElem?_append_left h1] at hi
        rw [List.getElem?_append_right (by omega)] at hj
        have := hle _ _ hi
        have := hr _ _ hj
        omega
      · rw [List.getElem?_append_right (by omega)] at hi
        rw [List.getElem?_append_left h2] at hj
        have := hle _ _ hj
        have := hr _ _ hi
        omega
      · rw [List.getElem?_append_right (by omega)] at hi hj
        have := hr _ _ hi
        have := hr _ _ hj
        omega
    · by_cases h1 : k9 < W1.length
      · rw [List.getElem?_append_left h1] at hx
        exact hD1.2 k9 x hx
      · rw [List.getElem?_append_right (by omega)] at hx
        have := hr _ _ hx
        exact hA _ (by have := hS.1; omega)
  have hAr : ArrOfT s cA (.array ty) := fun N9 z9 => by
    obtain ⟨-, k9, hk9, cm9, hkk9⟩ := (hO 0 0 0).1
    exact ⟨(fun q hq => by cases hq), k9, hk9, cm9, hkk9⟩
  have hK2 : va_K D cl (tys ++ [(cA, .array ty)]) s := ⟨hK.1, fun k9 x hx => by
    by_cases hl : k9 < tys.length
    · rw [List.getElem?_append_left hl] at hx
      exact hK.2 k9 x hx
    · rw [List.getElem?_append_right (by omega)] at hx
      have h0 : k9 - tys.length < 1 := (List.getElem?_eq_some_iff.mp hx).1
      rw [show k9 - tys.length = 0 by omega] at hx
      cases hx
      exact ⟨hAr, fA⟩⟩
  obtain ⟨t, a1, b1⟩ := kk H.size (fun i => H.size + 1 + i) cA F.heap (fun i j _ _ h => by have h9 : H.size + 1 + i = H.size + 1 + j := h; omega) hnl hK2 (by rw [← vr_rows hnm]; exact vr_lay hP2) (by rw [← vr_rows hnm]; exact vr_layD hD2) ⟨by rw [f1]; have := hS.1; omega, fun x h1 h2 => (hold x (Nat.lt_of_lt_of_le h1 hS.1)).trans (hS.2.1 x h1 h2), hS.2.2⟩ F rfl X'
  refine ⟨t, step t ?_, b1⟩
  have e : T.heap.size = H.size := by rw [hT]
  rw [e]
  exact a1
end VGM
/-! ===== END ===== -/

/-! ===== BEGIN printed: names, fields, word lists, decode rows ===== -/
def RX0 : String := "DuneBench$Coast"
def TX0 : u_T := fun k => match k with
  | 0 => ("DuneBench$Coast", "cells", "I", false)
  | 1 => ("DuneBench$Coast", "height", "[I", true)
  | 2 => ("DuneBench$Coast", "grass", "[I", true)
  | 3 => ("DuneBench$Coast", "fence", "[I", true)
  | 4 => ("DuneBench$Coast", "kept", "[I", true)
  | 5 => ("DuneBench$Coast", "sea", "I", false)
  | 6 => ("DuneBench$Coast", "behind", "I", false)
  | _ => ("DuneBench$Coast", "flooded", "I", false)
def tyX0 : Nat → FieldType := fun k => match k with
  | 0 => .int
  | 1 => .array .int
  | 2 => .array .int
  | 3 => .array .int
  | 4 => .array .int
  | 5 => .int
  | 6 => .int
  | _ => .int
abbrev wsX00 : List Cond := u_ws RX0 TX0 8
theorem nmX0 : ∀ a, a < 8 → ∀ b, b < 8 → a ≠ b → (TX0 a).2.1 ≠ (TX0 b).2.1 := by decide +kernel
theorem tyX0_ok : ∀ k, k < 8 → parseFieldDescriptor (TX0 k).2.2.1 = some (tyX0 k) := by decide +kernel
abbrev cX0_init : ByteArray := prog_2_method_1_code
def yX0_init : MethodName := ⟨RX0, "<init>", "()V"⟩
abbrev cX0_renew : ByteArray := prog_2_method_2_code
def yX0_renew : MethodName := ⟨RX0, "renew", "(I)V"⟩
abbrev cX0_copyFrom : ByteArray := prog_2_method_3_code
def yX0_copyFrom : MethodName := ⟨RX0, "copyFrom", "(LDuneBench$Coast;)V"⟩
abbrev cX0_has : ByteArray := prog_2_method_4_code
def yX0_has : MethodName := ⟨RX0, "has", "(I)Z"⟩
abbrev cX0_row : ByteArray := prog_2_method_5_code
def yX0_row : MethodName := ⟨RX0, "row", "(I)[I"⟩
abbrev cX0_blow : ByteArray := prog_2_method_6_code
def yX0_blow : MethodName := ⟨RX0, "blow", "(I)I"⟩
abbrev cX0_hold : ByteArray := prog_2_method_7_code
def yX0_hold : MethodName := ⟨RX0, "hold", "(II)I"⟩
abbrev cX0_surge : ByteArray := prog_2_method_8_code
def yX0_surge : MethodName := ⟨RX0, "surge", "(I)I"⟩
abbrev cX0_washOut : ByteArray := prog_2_method_9_code
def yX0_washOut : MethodName := ⟨RX0, "washOut", "(II)V"⟩
abbrev cX0_endYear : ByteArray := prog_2_method_10_code
def yX0_endYear : MethodName := ⟨RX0, "endYear", "()I"⟩
abbrev cX0_nextGrass : ByteArray := prog_2_method_11_code
def yX0_nextGrass : MethodName := ⟨RX0, "nextGrass", "(II)I"⟩
abbrev cX0_addSand : ByteArray := prog_2_method_12_code
def yX0_addSand : MethodName := ⟨RX0, "addSand", "(I)I"⟩
abbrev cX0_heightsTogether : ByteArray := prog_2_method_13_code
def yX0_heightsTogether : MethodName := ⟨RX0, "heightsTogether", "()I"⟩
abbrev cX0_greatestHeight : ByteArray := prog_2_method_14_code
def yX0_greatestHeight : MethodName := ⟨RX0, "greatestHeight", "()I"⟩
def RX1 : String := "DuneBench$Survey"
def TX1 : u_T := fun k => match k with
  | _ => ("DuneBench$Survey", "reading", "[I", true)
def tyX1 : Nat → FieldType := fun k => match k with
  | _ => .array .int
abbrev wsX10 : List Cond := u_ws RX1 TX1 1
theorem nmX1 : ∀ a, a < 1 → ∀ b, b < 1 → a ≠ b → (TX1 a).2.1 ≠ (TX1 b).2.1 := by decide +kernel
theorem tyX1_ok : ∀ k, k < 1 → parseFieldDescriptor (TX1 k).2.2.1 = some (tyX1 k) := by decide +kernel
abbrev cX1_init : ByteArray := prog_3_method_1_code
def yX1_init : MethodName := ⟨RX1, "<init>", "()V"⟩
abbrev cX1_forget : ByteArray := prog_3_method_2_code
def yX1_forget : MethodName := ⟨RX1, "forget", "()V"⟩
abbrev cX1_put : ByteArray := prog_3_method_3_code
def yX1_put : MethodName := ⟨RX1, "put", "(II)I"⟩
abbrev cX1_readings : ByteArray := prog_3_method_4_code
def yX1_readings : MethodName := ⟨RX1, "readings", "()I"⟩
abbrev cX1_nearest : ByteArray := prog_3_method_5_code
def yX1_nearest : MethodName := ⟨RX1, "nearest", "(IIII)I"⟩
abbrev cX1_scaledLevel : ByteArray := prog_3_method_6_code
def yX1_scaledLevel : MethodName := ⟨RX1, "scaledLevel", "(III)I"⟩
abbrev cX1_scaledVolume : ByteArray := prog_3_method_7_code
def yX1_scaledVolume : MethodName := ⟨RX1, "scaledVolume", "(II)I"⟩
abbrev cX1_scaledDoubt : ByteArray := prog_3_method_8_code
def yX1_scaledDoubt : MethodName := ⟨RX1, "scaledDoubt", "(I)I"⟩
def RX2 : String := "DuneBench$Weathers"
def TX2 : u_T := fun k => match k with
  | 0 => ("DuneBench$Weathers", "count", "[I", true)
  | 1 => ("DuneBench$Weathers", "kind", "[[I", true)
  | _ => ("DuneBench$Weathers", "value", "[[I", true)
def tyX2 : Nat → FieldType := fun k => match k with
  | 0 => .array .int
  | 1 => .array (.array .int)
  | _ => .array (.array .int)
abbrev wsX20 : List Cond := u_ws RX2 TX2 3
theorem nmX2 : ∀ a, a < 3 → ∀ b, b < 3 → a ≠ b → (TX2 a).2.1 ≠ (TX2 b).2.1 := by decide +kernel
theorem tyX2_ok : ∀ k, k < 3 → parseFieldDescriptor (TX2 k).2.2.1 = some (tyX2 k) := by decide +kernel
abbrev cX2_init : ByteArray := prog_4_method_1_code
def yX2_init : MethodName := ⟨RX2, "<init>", "()V"⟩
abbrev cX2_add : ByteArray := prog_4_method_2_code
def yX2_add : MethodName := ⟨RX2, "add", "(III)I"⟩
abbrev cX2_any : ByteArray := prog_4_method_3_code
def yX2_any : MethodName := ⟨RX2, "any", "()Z"⟩
abbrev cX2_lastYear : ByteArray := prog_4_method_4_code
def yX2_lastYear : MethodName := ⟨RX2, "lastYear", "()I"⟩
abbrev cX2_yearEnds : ByteArray := prog_4_method_5_code
def yX2_yearEnds : MethodName := ⟨RX2, "yearEnds", "(I)I"⟩
def RX3 : String := "DuneBench"
def TX3 : u_T := fun k => match k with
  | 0 => ("DuneBench", "shore", "LDuneBench$Coast;", true)
  | 1 => ("DuneBench", "trial", "LDuneBench$Coast;", true)
  | 2 => ("DuneBench", "saved", "LDuneBench$Coast;", true)
  | 3 => ("DuneBench", "isSaved", "Z", false)
  | 4 => ("DuneBench", "weathers", "LDuneBench$Weathers;", true)
  | 5 => ("DuneBench", "survey", "LDuneBench$Survey;", true)
  | 6 => ("DuneBench", "fenceSize", "I", false)
  | _ => ("DuneBench", "planCells", "[I", true)
def tyX3 : Nat → FieldType := fun k => match k with
  | 0 => .object "DuneBench$Coast"
  | 1 => .object "DuneBench$Coast"
  | 2 => .object "DuneBench$Coast"
  | 3 => .boolean
  | 4 => .object "DuneBench$Weathers"
  | 5 => .object "DuneBench$Survey"
  | 6 => .int
  | _ => .array .int
abbrev wsX30 : List Cond := u_ws RX3 TX3 8
theorem nmX3 : ∀ a, a < 8 → ∀ b, b < 8 → a ≠ b → (TX3 a).2.1 ≠ (TX3 b).2.1 := by decide +kernel
theorem tyX3_ok : ∀ k, k < 8 → parseFieldDescriptor (TX3 k).2.2.1 = some (tyX3 k) := by decide +kernel
abbrev cX3_init : ByteArray := prog_1_method_1_code
def yX3_init : MethodName := ⟨RX3, "<init>", "()V"⟩
abbrev cX3_coast : ByteArray := prog_1_method_2_code
def yX3_coast : MethodName := ⟨RX3, "coast", "(I)I"⟩
abbrev cX3_set : ByteArray := prog_1_method_3_code
def yX3_set : MethodName := ⟨RX3, "set", "(III)I"⟩
abbrev cX3_of : ByteArray := prog_1_method_4_code
def yX3_of : MethodName := ⟨RX3, "of", "(II)I"⟩
abbrev cX3_wind : ByteArray := prog_1_method_5_code
def yX3_wind : MethodName := ⟨RX3, "wind", "(I)I"⟩
abbrev cX3_storm : ByteArray := prog_1_method_6_code
def yX3_storm : MethodName := ⟨RX3, "storm", "(I)I"⟩
abbrev cX3_end : ByteArray := prog_1_method_7_code
def yX3_end : MethodName := ⟨RX3, "end", "()I"⟩
abbrev cX3_nourish : ByteArray := prog_1_method_8_code
def yX3_nourish : MethodName := ⟨RX3, "nourish", "(I)I"⟩
abbrev cX3_event : ByteArray := prog_1_method_9_code
def yX3_event : MethodName := ⟨RX3, "event", "(III)I"⟩
abbrev cX3_calm : ByteArray := prog_1_method_10_code
def yX3_calm : MethodName := ⟨RX3, "calm", "(I)I"⟩
abbrev cX3_size : ByteArray := prog_1_method_11_code
def yX3_size : MethodName := ⟨RX3, "size", "(I)I"⟩
abbrev cX3_crest : ByteArray := prog_1_method_12_code
def yX3_crest : MethodName := ⟨RX3, "crest", "(IIII)I"⟩
abbrev cX3_floods : ByteArray := prog_1_method_13_code
def yX3_floods : MethodName := ⟨RX3, "floods", "(IIII)I"⟩
abbrev cX3_plan : ByteArray := prog_1_method_14_code
def yX3_plan : MethodName := ⟨RX3, "plan", "(II)I"⟩
abbrev cX3_fences : ByteArray := prog_1_method_15_code
def yX3_fences : MethodName := ⟨RX3, "fences", "(I)I"⟩
abbrev cX3_most : ByteArray := prog_1_method_16_code
def yX3_most : MethodName := ⟨RX3, "most", "()I"⟩
abbrev cX3_read : ByteArray := prog_1_method_17_code
def yX3_read : MethodName := ⟨RX3, "read", "(II)I"⟩
abbrev cX3_take : ByteArray := prog_1_method_18_code
def yX3_take : MethodName := ⟨RX3, "take", "()I"⟩
abbrev cX3_level : ByteArray := prog_1_method_19_code
def yX3_level : MethodName := ⟨RX3, "level", "(II)I"⟩
abbrev cX3_volume : ByteArray := prog_1_method_20_code
def yX3_volume : MethodName := ⟨RX3, "volume", "(I)I"⟩
abbrev cX3_doubt : ByteArray := prog_1_method_21_code
def yX3_doubt : MethodName := ⟨RX3, "doubt", "(I)I"⟩
abbrev cX3_many : ByteArray := prog_1_method_22_code
def yX3_many : MethodName := ⟨RX3, "many", "(I)I"⟩
abbrev cX3_keep : ByteArray := prog_1_method_23_code
def yX3_keep : MethodName := ⟨RX3, "keep", "()I"⟩
abbrev cX3_back : ByteArray := prog_1_method_24_code
def yX3_back : MethodName := ⟨RX3, "back", "()I"⟩
abbrev cX3_isWithin : ByteArray := prog_1_method_25_code
def yX3_isWithin : MethodName := ⟨RX3, "isWithin", "(III)Z"⟩
abbrev cX3_mostOf : ByteArray := prog_1_method_26_code
def yX3_mostOf : MethodName := ⟨RX3, "mostOf", "(I)I"⟩
abbrev cX3_isWeather : ByteArray := prog_1_method_27_code
def yX3_isWeather : MethodName := ⟨RX3, "isWeather", "(I)Z"⟩
abbrev cX3_isEvent : ByteArray := prog_1_method_28_code
def yX3_isEvent : MethodName := ⟨RX3, "isEvent", "(II)Z"⟩
abbrev cX3_isAim : ByteArray := prog_1_method_29_code
def yX3_isAim : MethodName := ⟨RX3, "isAim", "(I)Z"⟩
abbrev cX3_isFractionPart : ByteArray := prog_1_method_30_code
def yX3_isFractionPart : MethodName := ⟨RX3, "isFractionPart", "(I)Z"⟩
abbrev cX3_isCellOrNone : ByteArray := prog_1_method_31_code
def yX3_isCellOrNone : MethodName := ⟨RX3, "isCellOrNone", "(I)Z"⟩
abbrev cX3_tryOut : ByteArray := prog_1_method_32_code
def yX3_tryOut : MethodName := ⟨RX3, "tryOut", "(IIII)Z"⟩
abbrev cX3_play : ByteArray := prog_1_method_33_code
def yX3_play : MethodName := ⟨RX3, "play", "(I)V"⟩
abbrev cX3_beginYear : ByteArray := prog_1_method_34_code
def yX3_beginYear : MethodName := ⟨RX3, "beginYear", "(I)V"⟩
abbrev cX3_findPlan : ByteArray := prog_1_method_35_code
def yX3_findPlan : MethodName := ⟨RX3, "findPlan", "(I)Z"⟩
abbrev cX3_choosePlan : ByteArray := prog_1_method_36_code
def yX3_choosePlan : MethodName := ⟨RX3, "choosePlan", "(II)Z"⟩
abbrev cX3_plannedFences : ByteArray := prog_1_method_37_code
def yX3_plannedFences : MethodName := ⟨RX3, "plannedFences", "()I"⟩
abbrev cX3_worstCrest : ByteArray := prog_1_method_38_code
def yX3_worstCrest : MethodName := ⟨RX3, "worstCrest", "(I)I"⟩
abbrev cX3_cleared : ByteArray := prog_1_method_39_code
def yX3_cleared : MethodName := ⟨RX3, "cleared", "(II)I"⟩
def RX4 : String := "DuneBenchModel"
def TX4 : u_T := fun k => match k with
  | 0 => ("DuneBenchModel", "n", "I", false)
  | 1 => ("DuneBenchModel", "keptN", "I", false)
  | 2 => ("DuneBenchModel", "size", "I", false)
  | 3 => ("DuneBenchModel", "height", "[I", true)
  | 4 => ("DuneBenchModel", "grass", "[I", true)
  | 5 => ("DuneBenchModel", "fence", "[I", true)
  | 6 => ("DuneBenchModel", "gained", "[I", true)
  | 7 => ("DuneBenchModel", "sea", "[I", true)
  | 8 => ("DuneBenchModel", "behind", "[I", true)
  | 9 => ("DuneBenchModel", "flooded", "[I", true)
  | 10 => ("DuneBenchModel", "events", "[I", true)
  | 11 => ("DuneBenchModel", "kindOf", "[I", true)
  | 12 => ("DuneBenchModel", "valueOf", "[I", true)
  | 13 => ("DuneBenchModel", "reading", "[I", true)
  | 14 => ("DuneBenchModel", "fences", "[I", true)
  | _ => ("DuneBenchModel", "best", "[I", true)
def tyX4 : Nat → FieldType := fun k => match k with
  | 0 => .int
  | 1 => .int
  | 2 => .int
  | 3 => .array .int
  | 4 => .array .int
  | 5 => .array .int
  | 6 => .array .int
  | 7 => .array .int
  | 8 => .array .int
  | 9 => .array .int
  | 10 => .array .int
  | 11 => .array .int
  | 12 => .array .int
  | 13 => .array .int
  | 14 => .array .int
  | _ => .array .int
abbrev wsX40 : List Cond := u_ws RX4 TX4 16
theorem nmX4 : ∀ a, a < 16 → ∀ b, b < 16 → a ≠ b → (TX4 a).2.1 ≠ (TX4 b).2.1 := by decide +kernel
theorem tyX4_ok : ∀ k, k < 16 → parseFieldDescriptor (TX4 k).2.2.1 = some (tyX4 k) := by decide +kernel
abbrev cX4_init : ByteArray := prog_6_method_1_code
def yX4_init : MethodName := ⟨RX4, "<init>", "()V"⟩
abbrev cX4_in : ByteArray := prog_6_method_2_code
def yX4_in : MethodName := ⟨RX4, "in", "(III)Z"⟩
abbrev cX4_isCell : ByteArray := prog_6_method_3_code
def yX4_isCell : MethodName := ⟨RX4, "isCell", "(I)Z"⟩
abbrev cX4_isWeather : ByteArray := prog_6_method_4_code
def yX4_isWeather : MethodName := ⟨RX4, "isWeather", "(I)Z"⟩
abbrev cX4_begin : ByteArray := prog_6_method_5_code
def yX4_begin : MethodName := ⟨RX4, "begin", "(I)V"⟩
abbrev cX4_copy : ByteArray := prog_6_method_6_code
def yX4_copy : MethodName := ⟨RX4, "copy", "(II)V"⟩
abbrev cX4_coast : ByteArray := prog_6_method_7_code
def yX4_coast : MethodName := ⟨RX4, "coast", "(I)I"⟩
abbrev cX4_set : ByteArray := prog_6_method_8_code
def yX4_set : MethodName := ⟨RX4, "set", "(III)I"⟩
abbrev cX4_of : ByteArray := prog_6_method_9_code
def yX4_of : MethodName := ⟨RX4, "of", "(II)I"⟩
abbrev cX4_keeps : ByteArray := prog_6_method_10_code
def yX4_keeps : MethodName := ⟨RX4, "keeps", "(II)I"⟩
abbrev cX4_blow : ByteArray := prog_6_method_11_code
def yX4_blow : MethodName := ⟨RX4, "blow", "(II)I"⟩
abbrev cX4_flood : ByteArray := prog_6_method_12_code
def yX4_flood : MethodName := ⟨RX4, "flood", "(II)I"⟩
abbrev cX4_endYear : ByteArray := prog_6_method_13_code
def yX4_endYear : MethodName := ⟨RX4, "endYear", "(I)I"⟩
abbrev cX4_wind : ByteArray := prog_6_method_14_code
def yX4_wind : MethodName := ⟨RX4, "wind", "(I)I"⟩
abbrev cX4_storm : ByteArray := prog_6_method_15_code
def yX4_storm : MethodName := ⟨RX4, "storm", "(I)I"⟩
abbrev cX4_end : ByteArray := prog_6_method_16_code
def yX4_end : MethodName := ⟨RX4, "end", "()I"⟩
abbrev cX4_nourish : ByteArray := prog_6_method_17_code
def yX4_nourish : MethodName := ⟨RX4, "nourish", "(I)I"⟩
abbrev cX4_event : ByteArray := prog_6_method_18_code
def yX4_event : MethodName := ⟨RX4, "event", "(III)I"⟩
abbrev cX4_calm : ByteArray := prog_6_method_19_code
def yX4_calm : MethodName := ⟨RX4, "calm", "(I)I"⟩
abbrev cX4_size : ByteArray := prog_6_method_20_code
def yX4_size : MethodName := ⟨RX4, "size", "(I)I"⟩
abbrev cX4_setFence : ByteArray := prog_6_method_21_code
def yX4_setFence : MethodName := ⟨RX4, "setFence", "(I)V"⟩
abbrev cX4_tryOut : ByteArray := prog_6_method_22_code
def yX4_tryOut : MethodName := ⟨RX4, "tryOut", "(I)V"⟩
abbrev cX4_crestOf : ByteArray := prog_6_method_23_code
def yX4_crestOf : MethodName := ⟨RX4, "crestOf", "(I)I"⟩
abbrev cX4_isFence : ByteArray := prog_6_method_24_code
def yX4_isFence : MethodName := ⟨RX4, "isFence", "(I)Z"⟩
abbrev cX4_ask : ByteArray := prog_6_method_25_code
def yX4_ask : MethodName := ⟨RX4, "ask", "(IIII)Z"⟩
abbrev cX4_crest : ByteArray := prog_6_method_26_code
def yX4_crest : MethodName := ⟨RX4, "crest", "(IIII)I"⟩
abbrev cX4_floods : ByteArray := prog_6_method_27_code
def yX4_floods : MethodName := ⟨RX4, "floods", "(IIII)I"⟩
abbrev cX4_holds : ByteArray := prog_6_method_28_code
def yX4_holds : MethodName := ⟨RX4, "holds", "()I"⟩
abbrev cX4_lay : ByteArray := prog_6_method_29_code
def yX4_lay : MethodName := ⟨RX4, "lay", "(I)I"⟩
abbrev cX4_findPlan : ByteArray := prog_6_method_30_code
def yX4_findPlan : MethodName := ⟨RX4, "findPlan", "(I)I"⟩
abbrev cX4_plan : ByteArray := prog_6_method_31_code
def yX4_plan : MethodName := ⟨RX4, "plan", "(II)I"⟩
abbrev cX4_fences : ByteArray := prog_6_method_32_code
def yX4_fences : MethodName := ⟨RX4, "fences", "(I)I"⟩
abbrev cX4_most : ByteArray := prog_6_method_33_code
def yX4_most : MethodName := ⟨RX4, "most", "()I"⟩
abbrev cX4_read : ByteArray := prog_6_method_34_code
def yX4_read : MethodName := ⟨RX4, "read", "(II)I"⟩
abbrev cX4_take : ByteArray := prog_6_method_35_code
def yX4_take : MethodName := ⟨RX4, "take", "()I"⟩
abbrev cX4_readings : ByteArray := prog_6_method_36_code
def yX4_readings : MethodName := ⟨RX4, "readings", "()I"⟩
abbrev cX4_levelOf : ByteArray := prog_6_method_37_code
def yX4_levelOf : MethodName := ⟨RX4, "levelOf", "(I)I"⟩
abbrev cX4_volumeNow : ByteArray := prog_6_method_38_code
def yX4_volumeNow : MethodName := ⟨RX4, "volumeNow", "()I"⟩
abbrev cX4_part : ByteArray := prog_6_method_39_code
def yX4_part : MethodName := ⟨RX4, "part", "(II)I"⟩
abbrev cX4_level : ByteArray := prog_6_method_40_code
def yX4_level : MethodName := ⟨RX4, "level", "(II)I"⟩
abbrev cX4_volume : ByteArray := prog_6_method_41_code
def yX4_volume : MethodName := ⟨RX4, "volume", "(I)I"⟩
abbrev cX4_doubt : ByteArray := prog_6_method_42_code
def yX4_doubt : MethodName := ⟨RX4, "doubt", "(I)I"⟩
abbrev cX4_sand : ByteArray := prog_6_method_43_code
def yX4_sand : MethodName := ⟨RX4, "sand", "()I"⟩
abbrev cX4_many : ByteArray := prog_6_method_44_code
def yX4_many : MethodName := ⟨RX4, "many", "(I)I"⟩
abbrev cX4_keep : ByteArray := prog_6_method_45_code
def yX4_keep : MethodName := ⟨RX4, "keep", "()I"⟩
abbrev cX4_back : ByteArray := prog_6_method_46_code
def yX4_back : MethodName := ⟨RX4, "back", "()I"⟩
def RJ9 : String := "java/lang/Math"
def TJ9 : u_T := fun k => match k with
  | _ => ("", "", "", false)
def tyJ9 : Nat → FieldType := fun k => match k with
  | _ => .int
abbrev wsJ90 : List Cond := u_ws RJ9 TJ9 0
theorem nmJ9 : ∀ a, a < 0 → ∀ b, b < 0 → a ≠ b → (TJ9 a).2.1 ≠ (TJ9 b).2.1 := by decide +kernel
theorem tyJ9_ok : ∀ k, k < 0 → parseFieldDescriptor (TJ9 k).2.2.1 = some (tyJ9 k) := by decide +kernel
abbrev cJ9_abs_0f7a4 : ByteArray := prog_7_method_59_code
def yJ9_abs_0f7a4 : MethodName := ⟨RJ9, "abs", "(I)I"⟩
abbrev cJ9_max_7cf53 : ByteArray := prog_7_method_65_code
def yJ9_max_7cf53 : MethodName := ⟨RJ9, "max", "(II)I"⟩
abbrev cJ9_min_7cf53 : ByteArray := prog_7_method_69_code
def yJ9_min_7cf53 : MethodName := ⟨RJ9, "min", "(II)I"⟩
def RL : String := "DuneBenchLaw"
abbrev cL_law : ByteArray := code
def yL_law : MethodName := ⟨RL, "law", "([I)Z"⟩
def wsX0_renew : List Cond := .code yX0_renew cX0_renew 3 none :: ([.fieldLink RX0 28 "DuneBench$Coast" "cells" "I", .fieldLink RX0 9 "DuneBench$Coast" "height" "[I", .fieldLink RX0 15 "DuneBench$Coast" "grass" "[I", .fieldLink RX0 18 "DuneBench$Coast" "fence" "[I", .fieldLink RX0 21 "DuneBench$Coast" "kept" "[I", .fieldLink RX0 32 "DuneBench$Coast" "sea" "I", .fieldLink RX0 35 "DuneBench$Coast" "behind" "I", .fieldLink RX0 38 "DuneBench$Coast" "flooded" "I"] ++ wsX00)
def wsX0_init : List Cond := .code yX0_init cX0_init 1 none :: ([.methodLink RX0 3 objectInit, .instanceMethod objectInit, .code objectInit ⟨#[0xb1]⟩ 1 none, .arrayClass .int, .fieldLink RX0 9 "DuneBench$Coast" "height" "[I", .fieldLink RX0 15 "DuneBench$Coast" "grass" "[I", .fieldLink RX0 18 "DuneBench$Coast" "fence" "[I", .fieldLink RX0 21 "DuneBench$Coast" "kept" "[I", .methodLink RX0 24 yX0_renew, .instanceMethod yX0_renew, .selects RX0 yX0_renew yX0_renew, .initialized RX0, .code yX0_renew cX0_renew 3 none, .fieldLink RX0 28 "DuneBench$Coast" "cells" "I", .fieldLink RX0 32 "DuneBench$Coast" "sea" "I", .fieldLink RX0 35 "DuneBench$Coast" "behind" "I", .fieldLink RX0 38 "DuneBench$Coast" "flooded" "I"] ++ wsX00)
def wsX0_copyFrom : List Cond := .code yX0_copyFrom cX0_copyFrom 3 none :: ([.fieldLink RX0 28 "DuneBench$Coast" "cells" "I", .fieldLink RX0 9 "DuneBench$Coast" "height" "[I", .fieldLink RX0 15 "DuneBench$Coast" "grass" "[I", .fieldLink RX0 18 "DuneBench$Coast" "fence" "[I", .fieldLink RX0 21 "DuneBench$Coast" "kept" "[I", .fieldLink RX0 32 "DuneBench$Coast" "sea" "I", .fieldLink RX0 35 "DuneBench$Coast" "behind" "I", .fieldLink RX0 38 "DuneBench$Coast" "flooded" "I"] ++ wsX00)
def wsX0_has : List Cond := .code yX0_has cX0_has 2 (some .boolean) :: ([.fieldLink RX0 28 "DuneBench$Coast" "cells" "I"] ++ wsX00)
def wsX0_row : List Cond := .code yX0_row cX0_row 2 (some (.array .int)) :: ([.fieldLink RX0 9 "DuneBench$Coast" "height" "[I", .fieldLink RX0 15 "DuneBench$Coast" "grass" "[I", .fieldLink RX0 18 "DuneBench$Coast" "fence" "[I", .fieldLink RX0 21 "DuneBench$Coast" "kept" "[I"] ++ wsX00)
def wsX0_hold : List Cond := .code yX0_hold cX0_hold 5 (some .int) :: ([.fieldLink RX0 15 "DuneBench$Coast" "grass" "[I", .fieldLink RX0 18 "DuneBench$Coast" "fence" "[I", .fieldLink RX0 9 "DuneBench$Coast" "height" "[I", .methodLink RX0 47 Lib.Math.min.name, .static Lib.Math.min.name, .initialized "java/lang/Math", .code Lib.Math.min.name Lib.Math.min.code 2 (some .int), .methodLink RX0 41 Lib.Math.max.name, .static Lib.Math.max.name, .code Lib.Math.max.name Lib.Math.max.code 2 (some .int), .fieldLink RX0 21 "DuneBench$Coast" "kept" "[I"] ++ wsX00)
def wsX0_blow : List Cond := .code yX0_blow cX0_blow 6 (some .int) :: ([.fieldLink RX0 28 "DuneBench$Coast" "cells" "I", .fieldLink RX0 9 "DuneBench$Coast" "height" "[I", .fieldLink RX0 15 "DuneBench$Coast" "grass" "[I", .methodLink RX0 41 Lib.Math.max.name, .static Lib.Math.max.name, .initialized "java/lang/Math", .code Lib.Math.max.name Lib.Math.max.code 2 (some .int), .methodLink RX0 47 Lib.Math.min.name, .static Lib.Math.min.name, .code Lib.Math.min.name Lib.Math.min.code 2 (some .int), .fieldLink RX0 35 "DuneBench$Coast" "behind" "I", .methodLink RX0 50 yX0_hold, .instanceMethod yX0_hold, .selects RX0 yX0_hold yX0_hold, .initialized RX0, .code yX0_hold cX0_hold 5 (some .int), .fieldLink RX0 18 "DuneBench$Coast" "fence" "[I", .fieldLink RX0 21 "DuneBench$Coast" "kept" "[I"] ++ wsX00)
def wsX0_washOut : List Cond := .code yX0_washOut cX0_washOut 3 none :: ([.fieldLink RX0 9 "DuneBench$Coast" "height" "[I", .fieldLink RX0 32 "DuneBench$Coast" "sea" "I"] ++ wsX00)
def wsX0_surge : List Cond := .code yX0_surge cX0_surge 3 (some .int) :: ([.fieldLink RX0 28 "DuneBench$Coast" "cells" "I", .fieldLink RX0 9 "DuneBench$Coast" "height" "[I", .fieldLink RX0 15 "DuneBench$Coast" "grass" "[I", .fieldLink RX0 18 "DuneBench$Coast" "fence" "[I", .fieldLink RX0 38 "DuneBench$Coast" "flooded" "I", .methodLink RX0 53 yX0_washOut, .instanceMethod yX0_washOut, .selects RX0 yX0_washOut yX0_washOut, .initialized RX0, .code yX0_washOut cX0_washOut 3 none, .fieldLink RX0 32 "DuneBench$Coast" "sea" "I"] ++ wsX00)
def wsX3_isWithin : List Cond := .code yX3_isWithin cX3_isWithin 3 (some .boolean) :: ([])
def wsX0_nextGrass : List Cond := .code yX0_nextGrass cX0_nextGrass 2 (some .int) :: ([.methodLink RX0 47 Lib.Math.min.name, .static Lib.Math.min.name, .initialized "java/lang/Math", .code Lib.Math.min.name Lib.Math.min.code 2 (some .int), .static yX3_isWithin, .initialized RX3, .code yX3_isWithin cX3_isWithin 3 (some .boolean)])
def wsX0_endYear : List Cond := .code yX0_endYear cX0_endYear 4 (some .int) :: ([.fieldLink RX0 28 "DuneBench$Coast" "cells" "I", .fieldLink RX0 15 "DuneBench$Coast" "grass" "[I", .fieldLink RX0 21 "DuneBench$Coast" "kept" "[I", .methodLink RX0 57 yX0_nextGrass, .static yX0_nextGrass, .initialized RX0, .code yX0_nextGrass cX0_nextGrass 2 (some .int), .methodLink RX0 47 Lib.Math.min.name, .static Lib.Math.min.name, .initialized "java/lang/Math", .code Lib.Math.min.name Lib.Math.min.code 2 (some .int), .static yX3_isWithin, .initialized RX3, .code yX3_isWithin cX3_isWithin 3 (some .boolean)] ++ wsX00)
def wsX0_addSand : List Cond := .code yX0_addSand cX0_addSand 3 (some .int) :: ([.fieldLink RX0 9 "DuneBench$Coast" "height" "[I", .methodLink RX0 47 Lib.Math.min.name, .static Lib.Math.min.name, .initialized "java/lang/Math", .code Lib.Math.min.name Lib.Math.min.code 2 (some .int)] ++ wsX00)
def wsX0_heightsTogether : List Cond := .code yX0_heightsTogether cX0_heightsTogether 3 (some .int) :: ([.fieldLink RX0 28 "DuneBench$Coast" "cells" "I", .fieldLink RX0 9 "DuneBench$Coast" "height" "[I"] ++ wsX00)
def wsX0_greatestHeight : List Cond := .code yX0_greatestHeight cX0_greatestHeight 3 (some .int) :: ([.fieldLink RX0 28 "DuneBench$Coast" "cells" "I", .fieldLink RX0 9 "DuneBench$Coast" "height" "[I", .methodLink RX0 41 Lib.Math.max.name, .static Lib.Math.max.name, .initialized "java/lang/Math", .code Lib.Math.max.name Lib.Math.max.code 2 (some .int)] ++ wsX00)
def wsX1_forget : List Cond := .code yX1_forget cX1_forget 2 none :: ([.fieldLink RX1 9 "DuneBench$Survey" "reading" "[I"] ++ wsX10)
def wsX1_init : List Cond := .code yX1_init cX1_init 1 none :: ([.methodLink RX1 3 objectInit, .instanceMethod objectInit, .code objectInit ⟨#[0xb1]⟩ 1 none, .arrayClass .int, .fieldLink RX1 9 "DuneBench$Survey" "reading" "[I", .methodLink RX1 15 yX1_forget, .instanceMethod yX1_forget, .selects RX1 yX1_forget yX1_forget, .initialized RX1, .code yX1_forget cX1_forget 2 none] ++ wsX10)
def wsX1_put : List Cond := .code yX1_put cX1_put 4 (some .int) :: ([.fieldLink RX1 9 "DuneBench$Survey" "reading" "[I"] ++ wsX10)
def wsX1_readings : List Cond := .code yX1_readings cX1_readings 3 (some .int) :: ([.fieldLink RX1 9 "DuneBench$Survey" "reading" "[I"] ++ wsX10)
def wsX1_nearest : List Cond := .code yX1_nearest cX1_nearest 7 (some .int) :: ([.fieldLink RX1 9 "DuneBench$Survey" "reading" "[I"] ++ wsX10)
def wsX1_scaledLevel : List Cond := .code yX1_scaledLevel cX1_scaledLevel 7 (some .int) :: ([.fieldLink RX1 9 "DuneBench$Survey" "reading" "[I", .methodLink RX1 18 yX1_nearest, .instanceMethod yX1_nearest, .selects RX1 yX1_nearest yX1_nearest, .initialized RX1, .code yX1_nearest cX1_nearest 7 (some .int)] ++ wsX10)
def wsX1_scaledVolume : List Cond := .code yX1_scaledVolume cX1_scaledVolume 5 (some .int) :: ([.methodLink RX1 22 yX1_scaledLevel, .instanceMethod yX1_scaledLevel, .selects RX1 yX1_scaledLevel yX1_scaledLevel, .initialized RX1, .code yX1_scaledLevel cX1_scaledLevel 7 (some .int), .fieldLink RX1 9 "DuneBench$Survey" "reading" "[I", .methodLink RX1 18 yX1_nearest, .instanceMethod yX1_nearest, .selects RX1 yX1_nearest yX1_nearest, .code yX1_nearest cX1_nearest 7 (some .int)] ++ wsX10)
def wsX1_scaledDoubt : List Cond := .code yX1_scaledDoubt cX1_scaledDoubt 5 (some .int) :: ([.fieldLink RX1 9 "DuneBench$Survey" "reading" "[I", .methodLink RX1 30 Lib.Math.abs.name, .static Lib.Math.abs.name, .initialized "java/lang/Math", .code Lib.Math.abs.name Lib.Math.abs.code 1 (some .int), .methodLink RX1 36 Lib.Math.max.name, .static Lib.Math.max.name, .code Lib.Math.max.name Lib.Math.max.code 2 (some .int), .methodLink RX1 26 yX1_scaledVolume, .instanceMethod yX1_scaledVolume, .selects RX1 yX1_scaledVolume yX1_scaledVolume, .initialized RX1, .code yX1_scaledVolume cX1_scaledVolume 5 (some .int), .methodLink RX1 22 yX1_scaledLevel, .instanceMethod yX1_scaledLevel, .selects RX1 yX1_scaledLevel yX1_scaledLevel, .code yX1_scaledLevel cX1_scaledLevel 7 (some .int), .methodLink RX1 18 yX1_nearest, .instanceMethod yX1_nearest, .selects RX1 yX1_nearest yX1_nearest, .code yX1_nearest cX1_nearest 7 (some .int)] ++ wsX10)
def wsX2_init : List Cond := .code yX2_init cX2_init 1 none :: ([.methodLink RX2 3 objectInit, .instanceMethod objectInit, .code objectInit ⟨#[0xb1]⟩ 1 none, .arrayClass .int, .fieldLink RX2 9 "DuneBench$Weathers" "count" "[I", .classLink RX2 15 "[[I", .fieldLink RX2 17 "DuneBench$Weathers" "kind" "[[I", .fieldLink RX2 20 "DuneBench$Weathers" "value" "[[I"] ++ wsX20)
def wsX2_add : List Cond := .code yX2_add cX2_add 5 (some .int) :: ([.fieldLink RX2 9 "DuneBench$Weathers" "count" "[I", .fieldLink RX2 17 "DuneBench$Weathers" "kind" "[[I", .fieldLink RX2 20 "DuneBench$Weathers" "value" "[[I"] ++ wsX20)
def wsX2_any : List Cond := .code yX2_any cX2_any 2 (some .boolean) :: ([.fieldLink RX2 9 "DuneBench$Weathers" "count" "[I"] ++ wsX20)
def wsX2_yearEnds : List Cond := .code yX2_yearEnds cX2_yearEnds 4 (some .int) :: ([.fieldLink RX2 9 "DuneBench$Weathers" "count" "[I", .fieldLink RX2 17 "DuneBench$Weathers" "kind" "[[I"] ++ wsX20)
def wsX2_lastYear : List Cond := .code yX2_lastYear cX2_lastYear 3 (some .int) :: ([.methodLink RX2 27 Lib.Math.max.name, .static Lib.Math.max.name, .initialized "java/lang/Math", .code Lib.Math.max.name Lib.Math.max.code 2 (some .int), .methodLink RX2 23 yX2_yearEnds, .instanceMethod yX2_yearEnds, .selects RX2 yX2_yearEnds yX2_yearEnds, .initialized RX2, .code yX2_yearEnds cX2_yearEnds 4 (some .int), .fieldLink RX2 9 "DuneBench$Weathers" "count" "[I", .fieldLink RX2 17 "DuneBench$Weathers" "kind" "[[I"] ++ wsX20)
def wsX3_init_r1 : List Cond := [Cond.methodLink RX3 1 objectInit, Cond.instanceMethod objectInit, Cond.code objectInit ⟨#[0xb1]⟩ 1 none, Cond.classLink RX3 7 RX0, Cond.instantiable RX0 8, Cond.initialized RX0, Cond.fieldLink RX3 10 "DuneBench" "shore" "LDuneBench$Coast;", Cond.fieldLink RX3 16 "DuneBench" "trial" "LDuneBench$Coast;", Cond.fieldLink RX3 19 "DuneBench" "saved" "LDuneBench$Coast;", Cond.fieldLink RX3 22 "DuneBench" "isSaved" "Z", Cond.classLink RX3 26 RX2, Cond.instantiable RX2 3, Cond.initialized RX2, Cond.fieldLink RX3 29 "DuneBench" "weathers" "LDuneBench$Weathers;", Cond.classLink RX3 33 RX1, Cond.instantiable RX1 1, Cond.initialized RX1, Cond.fieldLink RX3 36 "DuneBench" "survey" "LDuneBench$Survey;", Cond.fieldLink RX3 40 "DuneBench" "fenceSize" "I", Cond.arrayClass .int, Cond.fieldLink RX3 44 "DuneBench" "planCells" "[I", Cond.methodLink RX3 9 yX0_init, Cond.instanceMethod yX0_init, Cond.code yX0_init cX0_init 1 none]
def wsX3_init_r2 : List Cond := [Cond.methodLink RX0 3 objectInit, Cond.fieldLink RX0 9 "DuneBench$Coast" "height" "[I", Cond.fieldLink RX0 15 "DuneBench$Coast" "grass" "[I", Cond.fieldLink RX0 18 "DuneBench$Coast" "fence" "[I", Cond.fieldLink RX0 21 "DuneBench$Coast" "kept" "[I", Cond.methodLink RX0 24 yX0_renew, Cond.instanceMethod yX0_renew, Cond.selects RX0 yX0_renew yX0_renew, Cond.code yX0_renew cX0_renew 3 none, Cond.fieldLink RX0 28 "DuneBench$Coast" "cells" "I", Cond.fieldLink RX0 32 "DuneBench$Coast" "sea" "I", Cond.fieldLink RX0 35 "DuneBench$Coast" "behind" "I", Cond.fieldLink RX0 38 "DuneBench$Coast" "flooded" "I", Cond.methodLink RX3 28 yX2_init, Cond.instanceMethod yX2_init, Cond.code yX2_init cX2_init 1 none, Cond.methodLink RX2 3 objectInit, Cond.fieldLink RX2 9 "DuneBench$Weathers" "count" "[I", Cond.classLink RX2 15 "[[I", Cond.fieldLink RX2 17 "DuneBench$Weathers" "kind" "[[I", Cond.fieldLink RX2 20 "DuneBench$Weathers" "value" "[[I", Cond.methodLink RX3 35 yX1_init, Cond.instanceMethod yX1_init, Cond.code yX1_init cX1_init 1 none]
def wsX3_init_r3 : List Cond := [Cond.methodLink RX1 3 objectInit, Cond.fieldLink RX1 9 "DuneBench$Survey" "reading" "[I", Cond.methodLink RX1 15 yX1_forget, Cond.instanceMethod yX1_forget, Cond.selects RX1 yX1_forget yX1_forget, Cond.code yX1_forget cX1_forget 2 none]
def wsX3_init : List Cond := .code yX3_init cX3_init 1 none :: ((wsX3_init_r1 ++ (wsX3_init_r2 ++ wsX3_init_r3)) ++ wsX00 ++ wsX30 ++ wsX20 ++ wsX10)
def wsX3_coast_r1 : List Cond := [Cond.fieldLink RX3 10 "DuneBench" "shore" "LDuneBench$Coast;", Cond.fieldLink RX3 36 "DuneBench" "survey" "LDuneBench$Survey;", Cond.methodLink RX3 48 yX3_isWithin, Cond.static yX3_isWithin, Cond.initialized RX3, Cond.code yX3_isWithin cX3_isWithin 3 (some .boolean), Cond.methodLink RX3 52 yX0_renew, Cond.instanceMethod yX0_renew, Cond.selects RX0 yX0_renew yX0_renew, Cond.initialized RX0, Cond.code yX0_renew cX0_renew 3 none, Cond.fieldLink RX0 28 "DuneBench$Coast" "cells" "I", Cond.fieldLink RX0 9 "DuneBench$Coast" "height" "[I", Cond.fieldLink RX0 15 "DuneBench$Coast" "grass" "[I", Cond.fieldLink RX0 18 "DuneBench$Coast" "fence" "[I", Cond.fieldLink RX0 21 "DuneBench$Coast" "kept" "[I", Cond.fieldLink RX0 32 "DuneBench$Coast" "sea" "I", Cond.fieldLink RX0 35 "DuneBench$Coast" "behind" "I", Cond.fieldLink RX0 38 "DuneBench$Coast" "flooded" "I", Cond.methodLink RX3 56 yX1_forget, Cond.instanceMethod yX1_forget, Cond.selects RX1 yX1_forget yX1_forget, Cond.initialized RX1, Cond.code yX1_forget cX1_forget 2 none]
def wsX3_coast_r2 : List Cond := [Cond.fieldLink RX1 9 "DuneBench$Survey" "reading" "[I"]
def wsX3_coast : List Cond := .code yX3_coast cX3_coast 2 (some .int) :: ((wsX3_coast_r1 ++ wsX3_coast_r2) ++ wsX30 ++ wsX00 ++ wsX10)
def wsX3_mostOf : List Cond := .code yX3_mostOf cX3_mostOf 1 (some .int) :: ([])
def wsX3_set : List Cond := .code yX3_set cX3_set 6 (some .int) :: ([.fieldLink RX3 10 "DuneBench" "shore" "LDuneBench$Coast;", .methodLink RX3 59 yX0_has, .instanceMethod yX0_has, .selects RX0 yX0_has yX0_has, .initialized RX0, .code yX0_has cX0_has 2 (some .boolean), .fieldLink RX0 28 "DuneBench$Coast" "cells" "I", .methodLink RX3 48 yX3_isWithin, .static yX3_isWithin, .initialized RX3, .code yX3_isWithin cX3_isWithin 3 (some .boolean), .methodLink RX3 63 yX3_mostOf, .static yX3_mostOf, .code yX3_mostOf cX3_mostOf 1 (some .int), .methodLink RX3 67 yX0_row, .instanceMethod yX0_row, .selects RX0 yX0_row yX0_row, .code yX0_row cX0_row 2 (some (.array .int)), .fieldLink RX0 9 "DuneBench$Coast" "height" "[I", .fieldLink RX0 15 "DuneBench$Coast" "grass" "[I", .fieldLink RX0 18 "DuneBench$Coast" "fence" "[I", .fieldLink RX0 21 "DuneBench$Coast" "kept" "[I"] ++ wsX30 ++ wsX00)
def wsX3_of : List Cond := .code yX3_of cX3_of 3 (some .int) :: ([.fieldLink RX3 10 "DuneBench" "shore" "LDuneBench$Coast;", .methodLink RX3 59 yX0_has, .instanceMethod yX0_has, .selects RX0 yX0_has yX0_has, .initialized RX0, .code yX0_has cX0_has 2 (some .boolean), .fieldLink RX0 28 "DuneBench$Coast" "cells" "I", .methodLink RX3 48 yX3_isWithin, .static yX3_isWithin, .initialized RX3, .code yX3_isWithin cX3_isWithin 3 (some .boolean), .methodLink RX3 67 yX0_row, .instanceMethod yX0_row, .selects RX0 yX0_row yX0_row, .code yX0_row cX0_row 2 (some (.array .int)), .fieldLink RX0 9 "DuneBench$Coast" "height" "[I", .fieldLink RX0 15 "DuneBench$Coast" "grass" "[I", .fieldLink RX0 18 "DuneBench$Coast" "fence" "[I", .fieldLink RX0 21 "DuneBench$Coast" "kept" "[I"] ++ wsX30 ++ wsX00)
def wsX3_wind_r1 : List Cond := [Cond.fieldLink RX3 10 "DuneBench" "shore" "LDuneBench$Coast;", Cond.methodLink RX3 48 yX3_isWithin, Cond.static yX3_isWithin, Cond.initialized RX3, Cond.code yX3_isWithin cX3_isWithin 3 (some .boolean), Cond.methodLink RX3 71 yX0_blow, Cond.instanceMethod yX0_blow, Cond.selects RX0 yX0_blow yX0_blow, Cond.initialized RX0, Cond.code yX0_blow cX0_blow 6 (some .int), Cond.fieldLink RX0 28 "DuneBench$Coast" "cells" "I", Cond.fieldLink RX0 9 "DuneBench$Coast" "height" "[I", Cond.fieldLink RX0 15 "DuneBench$Coast" "grass" "[I", Cond.methodLink RX0 41 Lib.Math.max.name, Cond.static Lib.Math.max.name, Cond.initialized "java/lang/Math", Cond.code Lib.Math.max.name Lib.Math.max.code 2 (some .int), Cond.methodLink RX0 47 Lib.Math.min.name, Cond.static Lib.Math.min.name, Cond.code Lib.Math.min.name Lib.Math.min.code 2 (some .int), Cond.fieldLink RX0 35 "DuneBench$Coast" "behind" "I", Cond.methodLink RX0 50 yX0_hold, Cond.instanceMethod yX0_hold, Cond.selects RX0 yX0_hold yX0_hold]
def wsX3_wind_r2 : List Cond := [Cond.code yX0_hold cX0_hold 5 (some .int), Cond.fieldLink RX0 18 "DuneBench$Coast" "fence" "[I", Cond.fieldLink RX0 21 "DuneBench$Coast" "kept" "[I"]
def wsX3_wind : List Cond := .code yX3_wind cX3_wind 2 (some .int) :: ((wsX3_wind_r1 ++ wsX3_wind_r2) ++ wsX30 ++ wsX00)
def wsX3_storm : List Cond := .code yX3_storm cX3_storm 2 (some .int) :: ([.fieldLink RX3 10 "DuneBench" "shore" "LDuneBench$Coast;", .methodLink RX3 48 yX3_isWithin, .static yX3_isWithin, .initialized RX3, .code yX3_isWithin cX3_isWithin 3 (some .boolean), .methodLink RX3 74 yX0_surge, .instanceMethod yX0_surge, .selects RX0 yX0_surge yX0_surge, .initialized RX0, .code yX0_surge cX0_surge 3 (some .int), .fieldLink RX0 28 "DuneBench$Coast" "cells" "I", .fieldLink RX0 9 "DuneBench$Coast" "height" "[I", .fieldLink RX0 15 "DuneBench$Coast" "grass" "[I", .fieldLink RX0 18 "DuneBench$Coast" "fence" "[I", .fieldLink RX0 38 "DuneBench$Coast" "flooded" "I", .methodLink RX0 53 yX0_washOut, .instanceMethod yX0_washOut, .selects RX0 yX0_washOut yX0_washOut, .code yX0_washOut cX0_washOut 3 none, .fieldLink RX0 32 "DuneBench$Coast" "sea" "I"] ++ wsX30 ++ wsX00)
def wsX3_end : List Cond := .code yX3_end cX3_end 1 (some .int) :: ([.fieldLink RX3 10 "DuneBench" "shore" "LDuneBench$Coast;", .methodLink RX3 77 yX0_endYear, .instanceMethod yX0_endYear, .selects RX0 yX0_endYear yX0_endYear, .initialized RX0, .code yX0_endYear cX0_endYear 4 (some .int), .fieldLink RX0 28 "DuneBench$Coast" "cells" "I", .fieldLink RX0 15 "DuneBench$Coast" "grass" "[I", .fieldLink RX0 21 "DuneBench$Coast" "kept" "[I", .methodLink RX0 57 yX0_nextGrass, .static yX0_nextGrass, .code yX0_nextGrass cX0_nextGrass 2 (some .int), .methodLink RX0 47 Lib.Math.min.name, .static Lib.Math.min.name, .initialized "java/lang/Math", .code Lib.Math.min.name Lib.Math.min.code 2 (some .int), .static yX3_isWithin, .initialized RX3, .code yX3_isWithin cX3_isWithin 3 (some .boolean)] ++ wsX30 ++ wsX00)
def wsX3_nourish : List Cond := .code yX3_nourish cX3_nourish 2 (some .int) :: ([.fieldLink RX3 10 "DuneBench" "shore" "LDuneBench$Coast;", .methodLink RX3 48 yX3_isWithin, .static yX3_isWithin, .initialized RX3, .code yX3_isWithin cX3_isWithin 3 (some .boolean), .methodLink RX3 81 yX0_addSand, .instanceMethod yX0_addSand, .selects RX0 yX0_addSand yX0_addSand, .initialized RX0, .code yX0_addSand cX0_addSand 3 (some .int), .fieldLink RX0 9 "DuneBench$Coast" "height" "[I", .methodLink RX0 47 Lib.Math.min.name, .static Lib.Math.min.name, .initialized "java/lang/Math", .code Lib.Math.min.name Lib.Math.min.code 2 (some .int)] ++ wsX30 ++ wsX00)
def wsX3_isWeather : List Cond := .code yX3_isWeather cX3_isWeather 1 (some .boolean) :: ([.methodLink RX3 48 yX3_isWithin, .static yX3_isWithin, .initialized RX3, .code yX3_isWithin cX3_isWithin 3 (some .boolean)])
def wsX3_isEvent : List Cond := .code yX3_isEvent cX3_isEvent 2 (some .boolean) :: ([.methodLink RX3 48 yX3_isWithin, .static yX3_isWithin, .initialized RX3, .code yX3_isWithin cX3_isWithin 3 (some .boolean)])
def wsX3_event : List Cond := .code yX3_event cX3_event 4 (some .int) :: ([.fieldLink RX3 29 "DuneBench" "weathers" "LDuneBench$Weathers;", .fieldLink RX3 91 "DuneBench$Weathers" "count" "[I", .methodLink RX3 84 yX3_isWeather, .static yX3_isWeather, .initialized RX3, .code yX3_isWeather cX3_isWeather 1 (some .boolean), .methodLink RX3 48 yX3_isWithin, .static yX3_isWithin, .code yX3_isWithin cX3_isWithin 3 (some .boolean), .methodLink RX3 87 yX3_isEvent, .static yX3_isEvent, .code yX3_isEvent cX3_isEvent 2 (some .boolean), .methodLink RX3 94 yX2_add, .instanceMethod yX2_add, .selects RX2 yX2_add yX2_add, .initialized RX2, .code yX2_add cX2_add 5 (some .int), .fieldLink RX2 9 "DuneBench$Weathers" "count" "[I", .fieldLink RX2 17 "DuneBench$Weathers" "kind" "[[I", .fieldLink RX2 20 "DuneBench$Weathers" "value" "[[I"] ++ wsX30 ++ wsX20)
def wsX3_calm : List Cond := .code yX3_calm cX3_calm 3 (some .int) :: ([.fieldLink RX3 29 "DuneBench" "weathers" "LDuneBench$Weathers;", .fieldLink RX3 91 "DuneBench$Weathers" "count" "[I", .methodLink RX3 84 yX3_isWeather, .static yX3_isWeather, .initialized RX3, .code yX3_isWeather cX3_isWeather 1 (some .boolean), .methodLink RX3 48 yX3_isWithin, .static yX3_isWithin, .code yX3_isWithin cX3_isWithin 3 (some .boolean)] ++ wsX30 ++ wsX20)
def wsX3_size : List Cond := .code yX3_size cX3_size 3 (some .int) :: ([.fieldLink RX3 40 "DuneBench" "fenceSize" "I", .methodLink RX3 48 yX3_isWithin, .static yX3_isWithin, .initialized RX3, .code yX3_isWithin cX3_isWithin 3 (some .boolean)] ++ wsX30)
def wsX3_isCellOrNone : List Cond := .code yX3_isCellOrNone cX3_isCellOrNone 2 (some .boolean) :: ([.fieldLink RX3 10 "DuneBench" "shore" "LDuneBench$Coast;", .methodLink RX3 59 yX0_has, .instanceMethod yX0_has, .selects RX0 yX0_has yX0_has, .initialized RX0, .code yX0_has cX0_has 2 (some .boolean), .fieldLink RX0 28 "DuneBench$Coast" "cells" "I"] ++ wsX30 ++ wsX00)
def wsX3_beginYear : List Cond := .code yX3_beginYear cX3_beginYear 2 none :: ([.fieldLink RX3 16 "DuneBench" "trial" "LDuneBench$Coast;", .fieldLink RX3 44 "DuneBench" "planCells" "[I", .fieldLink RX3 192 "DuneBench$Coast" "fence" "[I", .fieldLink RX3 40 "DuneBench" "fenceSize" "I", .methodLink RX3 59 yX0_has, .instanceMethod yX0_has, .selects RX0 yX0_has yX0_has, .initialized RX0, .code yX0_has cX0_has 2 (some .boolean), .fieldLink RX0 28 "DuneBench$Coast" "cells" "I"] ++ wsX30 ++ wsX00)
def wsX3_play_r1 : List Cond := [Cond.fieldLink RX3 16 "DuneBench" "trial" "LDuneBench$Coast;", Cond.fieldLink RX3 10 "DuneBench" "shore" "LDuneBench$Coast;", Cond.fieldLink RX3 105 "DuneBench$Coast" "flooded" "I", Cond.fieldLink RX3 29 "DuneBench" "weathers" "LDuneBench$Weathers;", Cond.fieldLink RX3 91 "DuneBench$Weathers" "count" "[I", Cond.fieldLink RX3 185 "DuneBench$Weathers" "value" "[[I", Cond.fieldLink RX3 189 "DuneBench$Weathers" "kind" "[[I", Cond.methodLink RX3 172 yX0_copyFrom, Cond.instanceMethod yX0_copyFrom, Cond.selects RX0 yX0_copyFrom yX0_copyFrom, Cond.initialized RX0, Cond.code yX0_copyFrom cX0_copyFrom 3 none, Cond.fieldLink RX0 28 "DuneBench$Coast" "cells" "I", Cond.fieldLink RX0 9 "DuneBench$Coast" "height" "[I", Cond.fieldLink RX0 15 "DuneBench$Coast" "grass" "[I", Cond.fieldLink RX0 18 "DuneBench$Coast" "fence" "[I", Cond.fieldLink RX0 21 "DuneBench$Coast" "kept" "[I", Cond.fieldLink RX0 32 "DuneBench$Coast" "sea" "I", Cond.fieldLink RX0 35 "DuneBench$Coast" "behind" "I", Cond.fieldLink RX0 38 "DuneBench$Coast" "flooded" "I", Cond.methodLink RX3 182 yX3_beginYear, Cond.instanceMethod yX3_beginYear, Cond.selects RX3 yX3_beginYear yX3_beginYear, Cond.initialized RX3]
def wsX3_play_r2 : List Cond := [Cond.code yX3_beginYear cX3_beginYear 2 none, Cond.fieldLink RX3 44 "DuneBench" "planCells" "[I", Cond.fieldLink RX3 192 "DuneBench$Coast" "fence" "[I", Cond.fieldLink RX3 40 "DuneBench" "fenceSize" "I", Cond.methodLink RX3 59 yX0_has, Cond.instanceMethod yX0_has, Cond.selects RX0 yX0_has yX0_has, Cond.code yX0_has cX0_has 2 (some .boolean), Cond.methodLink RX3 71 yX0_blow, Cond.instanceMethod yX0_blow, Cond.selects RX0 yX0_blow yX0_blow, Cond.code yX0_blow cX0_blow 6 (some .int), Cond.methodLink RX0 41 Lib.Math.max.name, Cond.static Lib.Math.max.name, Cond.initialized "java/lang/Math", Cond.code Lib.Math.max.name Lib.Math.max.code 2 (some .int), Cond.methodLink RX0 47 Lib.Math.min.name, Cond.static Lib.Math.min.name, Cond.code Lib.Math.min.name Lib.Math.min.code 2 (some .int), Cond.methodLink RX0 50 yX0_hold, Cond.instanceMethod yX0_hold, Cond.selects RX0 yX0_hold yX0_hold, Cond.code yX0_hold cX0_hold 5 (some .int), Cond.methodLink RX3 74 yX0_surge]
def wsX3_play_r3 : List Cond := [Cond.instanceMethod yX0_surge, Cond.selects RX0 yX0_surge yX0_surge, Cond.code yX0_surge cX0_surge 3 (some .int), Cond.methodLink RX0 53 yX0_washOut, Cond.instanceMethod yX0_washOut, Cond.selects RX0 yX0_washOut yX0_washOut, Cond.code yX0_washOut cX0_washOut 3 none, Cond.methodLink RX3 77 yX0_endYear, Cond.instanceMethod yX0_endYear, Cond.selects RX0 yX0_endYear yX0_endYear, Cond.code yX0_endYear cX0_endYear 4 (some .int), Cond.methodLink RX0 57 yX0_nextGrass, Cond.static yX0_nextGrass, Cond.code yX0_nextGrass cX0_nextGrass 2 (some .int), Cond.static yX3_isWithin, Cond.code yX3_isWithin cX3_isWithin 3 (some .boolean)]
def wsX3_play : List Cond := .code yX3_play cX3_play 5 none :: ((wsX3_play_r1 ++ (wsX3_play_r2 ++ wsX3_play_r3)) ++ wsX30 ++ wsX00 ++ wsX20)
def wsX3_tryOut_r1 : List Cond := [Cond.fieldLink RX3 44 "DuneBench" "planCells" "[I", Cond.methodLink RX3 84 yX3_isWeather, Cond.static yX3_isWeather, Cond.initialized RX3, Cond.code yX3_isWeather cX3_isWeather 1 (some .boolean), Cond.methodLink RX3 48 yX3_isWithin, Cond.static yX3_isWithin, Cond.code yX3_isWithin cX3_isWithin 3 (some .boolean), Cond.methodLink RX3 176 yX3_isCellOrNone, Cond.instanceMethod yX3_isCellOrNone, Cond.selects RX3 yX3_isCellOrNone yX3_isCellOrNone, Cond.code yX3_isCellOrNone cX3_isCellOrNone 2 (some .boolean), Cond.fieldLink RX3 10 "DuneBench" "shore" "LDuneBench$Coast;", Cond.methodLink RX3 59 yX0_has, Cond.instanceMethod yX0_has, Cond.selects RX0 yX0_has yX0_has, Cond.initialized RX0, Cond.code yX0_has cX0_has 2 (some .boolean), Cond.fieldLink RX0 28 "DuneBench$Coast" "cells" "I", Cond.methodLink RX3 179 yX3_play, Cond.instanceMethod yX3_play, Cond.selects RX3 yX3_play yX3_play, Cond.code yX3_play cX3_play 5 none, Cond.fieldLink RX3 16 "DuneBench" "trial" "LDuneBench$Coast;"]
def wsX3_tryOut_r2 : List Cond := [Cond.fieldLink RX3 105 "DuneBench$Coast" "flooded" "I", Cond.fieldLink RX3 29 "DuneBench" "weathers" "LDuneBench$Weathers;", Cond.fieldLink RX3 91 "DuneBench$Weathers" "count" "[I", Cond.fieldLink RX3 185 "DuneBench$Weathers" "value" "[[I", Cond.fieldLink RX3 189 "DuneBench$Weathers" "kind" "[[I", Cond.methodLink RX3 172 yX0_copyFrom, Cond.instanceMethod yX0_copyFrom, Cond.selects RX0 yX0_copyFrom yX0_copyFrom, Cond.code yX0_copyFrom cX0_copyFrom 3 none, Cond.fieldLink RX0 9 "DuneBench$Coast" "height" "[I", Cond.fieldLink RX0 15 "DuneBench$Coast" "grass" "[I", Cond.fieldLink RX0 18 "DuneBench$Coast" "fence" "[I", Cond.fieldLink RX0 21 "DuneBench$Coast" "kept" "[I", Cond.fieldLink RX0 32 "DuneBench$Coast" "sea" "I", Cond.fieldLink RX0 35 "DuneBench$Coast" "behind" "I", Cond.fieldLink RX0 38 "DuneBench$Coast" "flooded" "I", Cond.methodLink RX3 182 yX3_beginYear, Cond.instanceMethod yX3_beginYear, Cond.selects RX3 yX3_beginYear yX3_beginYear, Cond.code yX3_beginYear cX3_beginYear 2 none, Cond.fieldLink RX3 192 "DuneBench$Coast" "fence" "[I", Cond.fieldLink RX3 40 "DuneBench" "fenceSize" "I", Cond.methodLink RX3 71 yX0_blow, Cond.instanceMethod yX0_blow]
def wsX3_tryOut_r3 : List Cond := [Cond.selects RX0 yX0_blow yX0_blow, Cond.code yX0_blow cX0_blow 6 (some .int), Cond.methodLink RX0 41 Lib.Math.max.name, Cond.static Lib.Math.max.name, Cond.initialized "java/lang/Math", Cond.code Lib.Math.max.name Lib.Math.max.code 2 (some .int), Cond.methodLink RX0 47 Lib.Math.min.name, Cond.static Lib.Math.min.name, Cond.code Lib.Math.min.name Lib.Math.min.code 2 (some .int), Cond.methodLink RX0 50 yX0_hold, Cond.instanceMethod yX0_hold, Cond.selects RX0 yX0_hold yX0_hold, Cond.code yX0_hold cX0_hold 5 (some .int), Cond.methodLink RX3 74 yX0_surge, Cond.instanceMethod yX0_surge, Cond.selects RX0 yX0_surge yX0_surge, Cond.code yX0_surge cX0_surge 3 (some .int), Cond.methodLink RX0 53 yX0_washOut, Cond.instanceMethod yX0_washOut, Cond.selects RX0 yX0_washOut yX0_washOut, Cond.code yX0_washOut cX0_washOut 3 none, Cond.methodLink RX3 77 yX0_endYear, Cond.instanceMethod yX0_endYear, Cond.selects RX0 yX0_endYear yX0_endYear]
def wsX3_tryOut_r4 : List Cond := [Cond.code yX0_endYear cX0_endYear 4 (some .int), Cond.methodLink RX0 57 yX0_nextGrass, Cond.static yX0_nextGrass, Cond.code yX0_nextGrass cX0_nextGrass 2 (some .int)]
def wsX3_tryOut : List Cond := .code yX3_tryOut cX3_tryOut 5 (some .boolean) :: ((wsX3_tryOut_r1 ++ (wsX3_tryOut_r2 ++ (wsX3_tryOut_r3 ++ wsX3_tryOut_r4))) ++ wsX30 ++ wsX00 ++ wsX20)
def wsX3_crest_r1 : List Cond := [Cond.fieldLink RX3 16 "DuneBench" "trial" "LDuneBench$Coast;", Cond.methodLink RX3 98 yX3_tryOut, Cond.instanceMethod yX3_tryOut, Cond.selects RX3 yX3_tryOut yX3_tryOut, Cond.initialized RX3, Cond.code yX3_tryOut cX3_tryOut 5 (some .boolean), Cond.fieldLink RX3 44 "DuneBench" "planCells" "[I", Cond.methodLink RX3 84 yX3_isWeather, Cond.static yX3_isWeather, Cond.code yX3_isWeather cX3_isWeather 1 (some .boolean), Cond.methodLink RX3 48 yX3_isWithin, Cond.static yX3_isWithin, Cond.code yX3_isWithin cX3_isWithin 3 (some .boolean), Cond.methodLink RX3 176 yX3_isCellOrNone, Cond.instanceMethod yX3_isCellOrNone, Cond.selects RX3 yX3_isCellOrNone yX3_isCellOrNone, Cond.code yX3_isCellOrNone cX3_isCellOrNone 2 (some .boolean), Cond.fieldLink RX3 10 "DuneBench" "shore" "LDuneBench$Coast;", Cond.methodLink RX3 59 yX0_has, Cond.instanceMethod yX0_has, Cond.selects RX0 yX0_has yX0_has, Cond.initialized RX0, Cond.code yX0_has cX0_has 2 (some .boolean), Cond.fieldLink RX0 28 "DuneBench$Coast" "cells" "I"]
def wsX3_crest_r2 : List Cond := [Cond.methodLink RX3 179 yX3_play, Cond.instanceMethod yX3_play, Cond.selects RX3 yX3_play yX3_play, Cond.code yX3_play cX3_play 5 none, Cond.fieldLink RX3 105 "DuneBench$Coast" "flooded" "I", Cond.fieldLink RX3 29 "DuneBench" "weathers" "LDuneBench$Weathers;", Cond.fieldLink RX3 91 "DuneBench$Weathers" "count" "[I", Cond.fieldLink RX3 185 "DuneBench$Weathers" "value" "[[I", Cond.fieldLink RX3 189 "DuneBench$Weathers" "kind" "[[I", Cond.methodLink RX3 172 yX0_copyFrom, Cond.instanceMethod yX0_copyFrom, Cond.selects RX0 yX0_copyFrom yX0_copyFrom, Cond.code yX0_copyFrom cX0_copyFrom 3 none, Cond.fieldLink RX0 9 "DuneBench$Coast" "height" "[I", Cond.fieldLink RX0 15 "DuneBench$Coast" "grass" "[I", Cond.fieldLink RX0 18 "DuneBench$Coast" "fence" "[I", Cond.fieldLink RX0 21 "DuneBench$Coast" "kept" "[I", Cond.fieldLink RX0 32 "DuneBench$Coast" "sea" "I", Cond.fieldLink RX0 35 "DuneBench$Coast" "behind" "I", Cond.fieldLink RX0 38 "DuneBench$Coast" "flooded" "I", Cond.methodLink RX3 182 yX3_beginYear, Cond.instanceMethod yX3_beginYear, Cond.selects RX3 yX3_beginYear yX3_beginYear, Cond.code yX3_beginYear cX3_beginYear 2 none]
def wsX3_crest_r3 : List Cond := [Cond.fieldLink RX3 192 "DuneBench$Coast" "fence" "[I", Cond.fieldLink RX3 40 "DuneBench" "fenceSize" "I", Cond.methodLink RX3 71 yX0_blow, Cond.instanceMethod yX0_blow, Cond.selects RX0 yX0_blow yX0_blow, Cond.code yX0_blow cX0_blow 6 (some .int), Cond.methodLink RX0 41 Lib.Math.max.name, Cond.static Lib.Math.max.name, Cond.initialized "java/lang/Math", Cond.code Lib.Math.max.name Lib.Math.max.code 2 (some .int), Cond.methodLink RX0 47 Lib.Math.min.name, Cond.static Lib.Math.min.name, Cond.code Lib.Math.min.name Lib.Math.min.code 2 (some .int), Cond.methodLink RX0 50 yX0_hold, Cond.instanceMethod yX0_hold, Cond.selects RX0 yX0_hold yX0_hold, Cond.code yX0_hold cX0_hold 5 (some .int), Cond.methodLink RX3 74 yX0_surge, Cond.instanceMethod yX0_surge, Cond.selects RX0 yX0_surge yX0_surge, Cond.code yX0_surge cX0_surge 3 (some .int), Cond.methodLink RX0 53 yX0_washOut, Cond.instanceMethod yX0_washOut, Cond.selects RX0 yX0_washOut yX0_washOut]
def wsX3_crest_r4 : List Cond := [Cond.code yX0_washOut cX0_washOut 3 none, Cond.methodLink RX3 77 yX0_endYear, Cond.instanceMethod yX0_endYear, Cond.selects RX0 yX0_endYear yX0_endYear, Cond.code yX0_endYear cX0_endYear 4 (some .int), Cond.methodLink RX0 57 yX0_nextGrass, Cond.static yX0_nextGrass, Cond.code yX0_nextGrass cX0_nextGrass 2 (some .int), Cond.methodLink RX3 102 yX0_greatestHeight, Cond.instanceMethod yX0_greatestHeight, Cond.selects RX0 yX0_greatestHeight yX0_greatestHeight, Cond.code yX0_greatestHeight cX0_greatestHeight 3 (some .int)]
def wsX3_crest : List Cond := .code yX3_crest cX3_crest 5 (some .int) :: ((wsX3_crest_r1 ++ (wsX3_crest_r2 ++ (wsX3_crest_r3 ++ wsX3_crest_r4))) ++ wsX30 ++ wsX00 ++ wsX20)
def wsX3_floods_r1 : List Cond := [Cond.fieldLink RX3 16 "DuneBench" "trial" "LDuneBench$Coast;", Cond.fieldLink RX3 105 "DuneBench$Coast" "flooded" "I", Cond.methodLink RX3 98 yX3_tryOut, Cond.instanceMethod yX3_tryOut, Cond.selects RX3 yX3_tryOut yX3_tryOut, Cond.initialized RX3, Cond.code yX3_tryOut cX3_tryOut 5 (some .boolean), Cond.fieldLink RX3 44 "DuneBench" "planCells" "[I", Cond.methodLink RX3 84 yX3_isWeather, Cond.static yX3_isWeather, Cond.code yX3_isWeather cX3_isWeather 1 (some .boolean), Cond.methodLink RX3 48 yX3_isWithin, Cond.static yX3_isWithin, Cond.code yX3_isWithin cX3_isWithin 3 (some .boolean), Cond.methodLink RX3 176 yX3_isCellOrNone, Cond.instanceMethod yX3_isCellOrNone, Cond.selects RX3 yX3_isCellOrNone yX3_isCellOrNone, Cond.code yX3_isCellOrNone cX3_isCellOrNone 2 (some .boolean), Cond.fieldLink RX3 10 "DuneBench" "shore" "LDuneBench$Coast;", Cond.methodLink RX3 59 yX0_has, Cond.instanceMethod yX0_has, Cond.selects RX0 yX0_has yX0_has, Cond.initialized RX0, Cond.code yX0_has cX0_has 2 (some .boolean)]
def wsX3_floods_r2 : List Cond := [Cond.fieldLink RX0 28 "DuneBench$Coast" "cells" "I", Cond.methodLink RX3 179 yX3_play, Cond.instanceMethod yX3_play, Cond.selects RX3 yX3_play yX3_play, Cond.code yX3_play cX3_play 5 none, Cond.fieldLink RX3 29 "DuneBench" "weathers" "LDuneBench$Weathers;", Cond.fieldLink RX3 91 "DuneBench$Weathers" "count" "[I", Cond.fieldLink RX3 185 "DuneBench$Weathers" "value" "[[I", Cond.fieldLink RX3 189 "DuneBench$Weathers" "kind" "[[I", Cond.methodLink RX3 172 yX0_copyFrom, Cond.instanceMethod yX0_copyFrom, Cond.selects RX0 yX0_copyFrom yX0_copyFrom, Cond.code yX0_copyFrom cX0_copyFrom 3 none, Cond.fieldLink RX0 9 "DuneBench$Coast" "height" "[I", Cond.fieldLink RX0 15 "DuneBench$Coast" "grass" "[I", Cond.fieldLink RX0 18 "DuneBench$Coast" "fence" "[I", Cond.fieldLink RX0 21 "DuneBench$Coast" "kept" "[I", Cond.fieldLink RX0 32 "DuneBench$Coast" "sea" "I", Cond.fieldLink RX0 35 "DuneBench$Coast" "behind" "I", Cond.fieldLink RX0 38 "DuneBench$Coast" "flooded" "I", Cond.methodLink RX3 182 yX3_beginYear, Cond.instanceMethod yX3_beginYear, Cond.selects RX3 yX3_beginYear yX3_beginYear, Cond.code yX3_beginYear cX3_beginYear 2 none]
def wsX3_floods_r3 : List Cond := [Cond.fieldLink RX3 192 "DuneBench$Coast" "fence" "[I", Cond.fieldLink RX3 40 "DuneBench" "fenceSize" "I", Cond.methodLink RX3 71 yX0_blow, Cond.instanceMethod yX0_blow, Cond.selects RX0 yX0_blow yX0_blow, Cond.code yX0_blow cX0_blow 6 (some .int), Cond.methodLink RX0 41 Lib.Math.max.name, Cond.static Lib.Math.max.name, Cond.initialized "java/lang/Math", Cond.code Lib.Math.max.name Lib.Math.max.code 2 (some .int), Cond.methodLink RX0 47 Lib.Math.min.name, Cond.static Lib.Math.min.name, Cond.code Lib.Math.min.name Lib.Math.min.code 2 (some .int), Cond.methodLink RX0 50 yX0_hold, Cond.instanceMethod yX0_hold, Cond.selects RX0 yX0_hold yX0_hold, Cond.code yX0_hold cX0_hold 5 (some .int), Cond.methodLink RX3 74 yX0_surge, Cond.instanceMethod yX0_surge, Cond.selects RX0 yX0_surge yX0_surge, Cond.code yX0_surge cX0_surge 3 (some .int), Cond.methodLink RX0 53 yX0_washOut, Cond.instanceMethod yX0_washOut, Cond.selects RX0 yX0_washOut yX0_washOut]
def wsX3_floods_r4 : List Cond := [Cond.code yX0_washOut cX0_washOut 3 none, Cond.methodLink RX3 77 yX0_endYear, Cond.instanceMethod yX0_endYear, Cond.selects RX0 yX0_endYear yX0_endYear, Cond.code yX0_endYear cX0_endYear 4 (some .int), Cond.methodLink RX0 57 yX0_nextGrass, Cond.static yX0_nextGrass, Cond.code yX0_nextGrass cX0_nextGrass 2 (some .int)]
def wsX3_floods : List Cond := .code yX3_floods cX3_floods 5 (some .int) :: ((wsX3_floods_r1 ++ (wsX3_floods_r2 ++ (wsX3_floods_r3 ++ wsX3_floods_r4))) ++ wsX30 ++ wsX00 ++ wsX20)
def wsX3_isAim : List Cond := .code yX3_isAim cX3_isAim 1 (some .boolean) :: ([.methodLink RX3 48 yX3_isWithin, .static yX3_isWithin, .initialized RX3, .code yX3_isWithin cX3_isWithin 3 (some .boolean)])
def wsX3_choosePlan : List Cond := .code yX3_choosePlan cX3_choosePlan 5 (some .boolean) :: ([.fieldLink RX3 44 "DuneBench" "planCells" "[I", .fieldLink RX3 10 "DuneBench" "shore" "LDuneBench$Coast;", .methodLink RX3 59 yX0_has, .instanceMethod yX0_has, .selects RX0 yX0_has yX0_has, .initialized RX0, .code yX0_has cX0_has 2 (some .boolean), .fieldLink RX0 28 "DuneBench$Coast" "cells" "I"] ++ wsX30 ++ wsX00)
def wsX3_plannedFences : List Cond := .code yX3_plannedFences cX3_plannedFences 3 (some .int) :: ([.fieldLink RX3 44 "DuneBench" "planCells" "[I"] ++ wsX30)
def wsX3_worstCrest_r1 : List Cond := [Cond.fieldLink RX3 29 "DuneBench" "weathers" "LDuneBench$Weathers;", Cond.fieldLink RX3 91 "DuneBench$Weathers" "count" "[I", Cond.fieldLink RX3 16 "DuneBench" "trial" "LDuneBench$Coast;", Cond.methodLink RX3 195 Lib.Math.min.name, Cond.static Lib.Math.min.name, Cond.initialized "java/lang/Math", Cond.code Lib.Math.min.name Lib.Math.min.code 2 (some .int), Cond.fieldLink RX3 105 "DuneBench$Coast" "flooded" "I", Cond.methodLink RX3 179 yX3_play, Cond.instanceMethod yX3_play, Cond.selects RX3 yX3_play yX3_play, Cond.initialized RX3, Cond.code yX3_play cX3_play 5 none, Cond.fieldLink RX3 10 "DuneBench" "shore" "LDuneBench$Coast;", Cond.fieldLink RX3 185 "DuneBench$Weathers" "value" "[[I", Cond.fieldLink RX3 189 "DuneBench$Weathers" "kind" "[[I", Cond.methodLink RX3 172 yX0_copyFrom, Cond.instanceMethod yX0_copyFrom, Cond.selects RX0 yX0_copyFrom yX0_copyFrom, Cond.initialized RX0, Cond.code yX0_copyFrom cX0_copyFrom 3 none, Cond.fieldLink RX0 28 "DuneBench$Coast" "cells" "I", Cond.fieldLink RX0 9 "DuneBench$Coast" "height" "[I", Cond.fieldLink RX0 15 "DuneBench$Coast" "grass" "[I"]
def wsX3_worstCrest_r2 : List Cond := [Cond.fieldLink RX0 18 "DuneBench$Coast" "fence" "[I", Cond.fieldLink RX0 21 "DuneBench$Coast" "kept" "[I", Cond.fieldLink RX0 32 "DuneBench$Coast" "sea" "I", Cond.fieldLink RX0 35 "DuneBench$Coast" "behind" "I", Cond.fieldLink RX0 38 "DuneBench$Coast" "flooded" "I", Cond.methodLink RX3 182 yX3_beginYear, Cond.instanceMethod yX3_beginYear, Cond.selects RX3 yX3_beginYear yX3_beginYear, Cond.code yX3_beginYear cX3_beginYear 2 none, Cond.fieldLink RX3 44 "DuneBench" "planCells" "[I", Cond.fieldLink RX3 192 "DuneBench$Coast" "fence" "[I", Cond.fieldLink RX3 40 "DuneBench" "fenceSize" "I", Cond.methodLink RX3 59 yX0_has, Cond.instanceMethod yX0_has, Cond.selects RX0 yX0_has yX0_has, Cond.code yX0_has cX0_has 2 (some .boolean), Cond.methodLink RX3 71 yX0_blow, Cond.instanceMethod yX0_blow, Cond.selects RX0 yX0_blow yX0_blow, Cond.code yX0_blow cX0_blow 6 (some .int), Cond.methodLink RX0 41 Lib.Math.max.name, Cond.static Lib.Math.max.name, Cond.code Lib.Math.max.name Lib.Math.max.code 2 (some .int), Cond.methodLink RX0 47 Lib.Math.min.name]
def wsX3_worstCrest_r3 : List Cond := [Cond.methodLink RX0 50 yX0_hold, Cond.instanceMethod yX0_hold, Cond.selects RX0 yX0_hold yX0_hold, Cond.code yX0_hold cX0_hold 5 (some .int), Cond.methodLink RX3 74 yX0_surge, Cond.instanceMethod yX0_surge, Cond.selects RX0 yX0_surge yX0_surge, Cond.code yX0_surge cX0_surge 3 (some .int), Cond.methodLink RX0 53 yX0_washOut, Cond.instanceMethod yX0_washOut, Cond.selects RX0 yX0_washOut yX0_washOut, Cond.code yX0_washOut cX0_washOut 3 none, Cond.methodLink RX3 77 yX0_endYear, Cond.instanceMethod yX0_endYear, Cond.selects RX0 yX0_endYear yX0_endYear, Cond.code yX0_endYear cX0_endYear 4 (some .int), Cond.methodLink RX0 57 yX0_nextGrass, Cond.static yX0_nextGrass, Cond.code yX0_nextGrass cX0_nextGrass 2 (some .int), Cond.static yX3_isWithin, Cond.code yX3_isWithin cX3_isWithin 3 (some .boolean), Cond.methodLink RX3 102 yX0_greatestHeight, Cond.instanceMethod yX0_greatestHeight, Cond.selects RX0 yX0_greatestHeight yX0_greatestHeight]
def wsX3_worstCrest_r4 : List Cond := [Cond.code yX0_greatestHeight cX0_greatestHeight 3 (some .int)]
def wsX3_worstCrest : List Cond := .code yX3_worstCrest cX3_worstCrest 4 (some .int) :: ((wsX3_worstCrest_r1 ++ (wsX3_worstCrest_r2 ++ (wsX3_worstCrest_r3 ++ wsX3_worstCrest_r4))) ++ wsX30 ++ wsX20 ++ wsX00)
def wsX3_findPlan_r1 : List Cond := [Cond.fieldLink RX3 29 "DuneBench" "weathers" "LDuneBench$Weathers;", Cond.methodLink RX3 121 yX2_lastYear, Cond.instanceMethod yX2_lastYear, Cond.selects RX2 yX2_lastYear yX2_lastYear, Cond.initialized RX2, Cond.code yX2_lastYear cX2_lastYear 3 (some .int), Cond.methodLink RX2 27 Lib.Math.max.name, Cond.static Lib.Math.max.name, Cond.initialized "java/lang/Math", Cond.code Lib.Math.max.name Lib.Math.max.code 2 (some .int), Cond.methodLink RX2 23 yX2_yearEnds, Cond.instanceMethod yX2_yearEnds, Cond.selects RX2 yX2_yearEnds yX2_yearEnds, Cond.code yX2_yearEnds cX2_yearEnds 4 (some .int), Cond.fieldLink RX2 9 "DuneBench$Weathers" "count" "[I", Cond.fieldLink RX2 17 "DuneBench$Weathers" "kind" "[[I", Cond.methodLink RX3 124 yX3_choosePlan, Cond.instanceMethod yX3_choosePlan, Cond.selects RX3 yX3_choosePlan yX3_choosePlan, Cond.initialized RX3, Cond.code yX3_choosePlan cX3_choosePlan 5 (some .boolean), Cond.fieldLink RX3 44 "DuneBench" "planCells" "[I", Cond.fieldLink RX3 10 "DuneBench" "shore" "LDuneBench$Coast;", Cond.methodLink RX3 59 yX0_has]
def wsX3_findPlan_r2 : List Cond := [Cond.instanceMethod yX0_has, Cond.selects RX0 yX0_has yX0_has, Cond.initialized RX0, Cond.code yX0_has cX0_has 2 (some .boolean), Cond.fieldLink RX0 28 "DuneBench$Coast" "cells" "I", Cond.methodLink RX3 114 yX3_plannedFences, Cond.instanceMethod yX3_plannedFences, Cond.selects RX3 yX3_plannedFences yX3_plannedFences, Cond.code yX3_plannedFences cX3_plannedFences 3 (some .int), Cond.methodLink RX3 127 yX3_worstCrest, Cond.instanceMethod yX3_worstCrest, Cond.selects RX3 yX3_worstCrest yX3_worstCrest, Cond.code yX3_worstCrest cX3_worstCrest 4 (some .int), Cond.fieldLink RX3 91 "DuneBench$Weathers" "count" "[I", Cond.fieldLink RX3 16 "DuneBench" "trial" "LDuneBench$Coast;", Cond.methodLink RX3 195 Lib.Math.min.name, Cond.static Lib.Math.min.name, Cond.code Lib.Math.min.name Lib.Math.min.code 2 (some .int), Cond.fieldLink RX3 105 "DuneBench$Coast" "flooded" "I", Cond.methodLink RX3 179 yX3_play, Cond.instanceMethod yX3_play, Cond.selects RX3 yX3_play yX3_play, Cond.code yX3_play cX3_play 5 none, Cond.fieldLink RX3 185 "DuneBench$Weathers" "value" "[[I"]
def wsX3_findPlan_r3 : List Cond := [Cond.fieldLink RX3 189 "DuneBench$Weathers" "kind" "[[I", Cond.methodLink RX3 172 yX0_copyFrom, Cond.instanceMethod yX0_copyFrom, Cond.selects RX0 yX0_copyFrom yX0_copyFrom, Cond.code yX0_copyFrom cX0_copyFrom 3 none, Cond.fieldLink RX0 9 "DuneBench$Coast" "height" "[I", Cond.fieldLink RX0 15 "DuneBench$Coast" "grass" "[I", Cond.fieldLink RX0 18 "DuneBench$Coast" "fence" "[I", Cond.fieldLink RX0 21 "DuneBench$Coast" "kept" "[I", Cond.fieldLink RX0 32 "DuneBench$Coast" "sea" "I", Cond.fieldLink RX0 35 "DuneBench$Coast" "behind" "I", Cond.fieldLink RX0 38 "DuneBench$Coast" "flooded" "I", Cond.methodLink RX3 182 yX3_beginYear, Cond.instanceMethod yX3_beginYear, Cond.selects RX3 yX3_beginYear yX3_beginYear, Cond.code yX3_beginYear cX3_beginYear 2 none, Cond.fieldLink RX3 192 "DuneBench$Coast" "fence" "[I", Cond.fieldLink RX3 40 "DuneBench" "fenceSize" "I", Cond.methodLink RX3 71 yX0_blow, Cond.instanceMethod yX0_blow, Cond.selects RX0 yX0_blow yX0_blow, Cond.code yX0_blow cX0_blow 6 (some .int), Cond.methodLink RX0 41 Lib.Math.max.name, Cond.methodLink RX0 47 Lib.Math.min.name]
def wsX3_findPlan_r4 : List Cond := [Cond.methodLink RX0 50 yX0_hold, Cond.instanceMethod yX0_hold, Cond.selects RX0 yX0_hold yX0_hold, Cond.code yX0_hold cX0_hold 5 (some .int), Cond.methodLink RX3 74 yX0_surge, Cond.instanceMethod yX0_surge, Cond.selects RX0 yX0_surge yX0_surge, Cond.code yX0_surge cX0_surge 3 (some .int), Cond.methodLink RX0 53 yX0_washOut, Cond.instanceMethod yX0_washOut, Cond.selects RX0 yX0_washOut yX0_washOut, Cond.code yX0_washOut cX0_washOut 3 none, Cond.methodLink RX3 77 yX0_endYear, Cond.instanceMethod yX0_endYear, Cond.selects RX0 yX0_endYear yX0_endYear, Cond.code yX0_endYear cX0_endYear 4 (some .int), Cond.methodLink RX0 57 yX0_nextGrass, Cond.static yX0_nextGrass, Cond.code yX0_nextGrass cX0_nextGrass 2 (some .int), Cond.static yX3_isWithin, Cond.code yX3_isWithin cX3_isWithin 3 (some .boolean), Cond.methodLink RX3 102 yX0_greatestHeight, Cond.instanceMethod yX0_greatestHeight, Cond.selects RX0 yX0_greatestHeight yX0_greatestHeight]
def wsX3_findPlan_r5 : List Cond := [Cond.code yX0_greatestHeight cX0_greatestHeight 3 (some .int)]
def wsX3_findPlan : List Cond := .code yX3_findPlan cX3_findPlan 5 (some .boolean) :: ((wsX3_findPlan_r1 ++ (wsX3_findPlan_r2 ++ (wsX3_findPlan_r3 ++ (wsX3_findPlan_r4 ++ wsX3_findPlan_r5)))) ++ wsX30 ++ wsX20 ++ wsX00)
def wsX3_plan_r1 : List Cond := [Cond.fieldLink RX3 44 "DuneBench" "planCells" "[I", Cond.methodLink RX3 108 yX3_isAim, Cond.static yX3_isAim, Cond.initialized RX3, Cond.code yX3_isAim cX3_isAim 1 (some .boolean), Cond.methodLink RX3 48 yX3_isWithin, Cond.static yX3_isWithin, Cond.code yX3_isWithin cX3_isWithin 3 (some .boolean), Cond.methodLink RX3 111 yX3_findPlan, Cond.instanceMethod yX3_findPlan, Cond.selects RX3 yX3_findPlan yX3_findPlan, Cond.code yX3_findPlan cX3_findPlan 5 (some .boolean), Cond.fieldLink RX3 29 "DuneBench" "weathers" "LDuneBench$Weathers;", Cond.methodLink RX3 121 yX2_lastYear, Cond.instanceMethod yX2_lastYear, Cond.selects RX2 yX2_lastYear yX2_lastYear, Cond.initialized RX2, Cond.code yX2_lastYear cX2_lastYear 3 (some .int), Cond.methodLink RX2 27 Lib.Math.max.name, Cond.static Lib.Math.max.name, Cond.initialized "java/lang/Math", Cond.code Lib.Math.max.name Lib.Math.max.code 2 (some .int), Cond.methodLink RX2 23 yX2_yearEnds, Cond.instanceMethod yX2_yearEnds]
def wsX3_plan_r2 : List Cond := [Cond.selects RX2 yX2_yearEnds yX2_yearEnds, Cond.code yX2_yearEnds cX2_yearEnds 4 (some .int), Cond.fieldLink RX2 9 "DuneBench$Weathers" "count" "[I", Cond.fieldLink RX2 17 "DuneBench$Weathers" "kind" "[[I", Cond.methodLink RX3 124 yX3_choosePlan, Cond.instanceMethod yX3_choosePlan, Cond.selects RX3 yX3_choosePlan yX3_choosePlan, Cond.code yX3_choosePlan cX3_choosePlan 5 (some .boolean), Cond.fieldLink RX3 10 "DuneBench" "shore" "LDuneBench$Coast;", Cond.methodLink RX3 59 yX0_has, Cond.instanceMethod yX0_has, Cond.selects RX0 yX0_has yX0_has, Cond.initialized RX0, Cond.code yX0_has cX0_has 2 (some .boolean), Cond.fieldLink RX0 28 "DuneBench$Coast" "cells" "I", Cond.methodLink RX3 114 yX3_plannedFences, Cond.instanceMethod yX3_plannedFences, Cond.selects RX3 yX3_plannedFences yX3_plannedFences, Cond.code yX3_plannedFences cX3_plannedFences 3 (some .int), Cond.methodLink RX3 127 yX3_worstCrest, Cond.instanceMethod yX3_worstCrest, Cond.selects RX3 yX3_worstCrest yX3_worstCrest, Cond.code yX3_worstCrest cX3_worstCrest 4 (some .int), Cond.fieldLink RX3 91 "DuneBench$Weathers" "count" "[I"]
def wsX3_plan_r3 : List Cond := [Cond.fieldLink RX3 16 "DuneBench" "trial" "LDuneBench$Coast;", Cond.methodLink RX3 195 Lib.Math.min.name, Cond.static Lib.Math.min.name, Cond.code Lib.Math.min.name Lib.Math.min.code 2 (some .int), Cond.fieldLink RX3 105 "DuneBench$Coast" "flooded" "I", Cond.methodLink RX3 179 yX3_play, Cond.instanceMethod yX3_play, Cond.selects RX3 yX3_play yX3_play, Cond.code yX3_play cX3_play 5 none, Cond.fieldLink RX3 185 "DuneBench$Weathers" "value" "[[I", Cond.fieldLink RX3 189 "DuneBench$Weathers" "kind" "[[I", Cond.methodLink RX3 172 yX0_copyFrom, Cond.instanceMethod yX0_copyFrom, Cond.selects RX0 yX0_copyFrom yX0_copyFrom, Cond.code yX0_copyFrom cX0_copyFrom 3 none, Cond.fieldLink RX0 9 "DuneBench$Coast" "height" "[I", Cond.fieldLink RX0 15 "DuneBench$Coast" "grass" "[I", Cond.fieldLink RX0 18 "DuneBench$Coast" "fence" "[I", Cond.fieldLink RX0 21 "DuneBench$Coast" "kept" "[I", Cond.fieldLink RX0 32 "DuneBench$Coast" "sea" "I", Cond.fieldLink RX0 35 "DuneBench$Coast" "behind" "I", Cond.fieldLink RX0 38 "DuneBench$Coast" "flooded" "I", Cond.methodLink RX3 182 yX3_beginYear, Cond.instanceMethod yX3_beginYear]
def wsX3_plan_r4 : List Cond := [Cond.selects RX3 yX3_beginYear yX3_beginYear, Cond.code yX3_beginYear cX3_beginYear 2 none, Cond.fieldLink RX3 192 "DuneBench$Coast" "fence" "[I", Cond.fieldLink RX3 40 "DuneBench" "fenceSize" "I", Cond.methodLink RX3 71 yX0_blow, Cond.instanceMethod yX0_blow, Cond.selects RX0 yX0_blow yX0_blow, Cond.code yX0_blow cX0_blow 6 (some .int), Cond.methodLink RX0 41 Lib.Math.max.name, Cond.methodLink RX0 47 Lib.Math.min.name, Cond.methodLink RX0 50 yX0_hold, Cond.instanceMethod yX0_hold, Cond.selects RX0 yX0_hold yX0_hold, Cond.code yX0_hold cX0_hold 5 (some .int), Cond.methodLink RX3 74 yX0_surge, Cond.instanceMethod yX0_surge, Cond.selects RX0 yX0_surge yX0_surge, Cond.code yX0_surge cX0_surge 3 (some .int), Cond.methodLink RX0 53 yX0_washOut, Cond.instanceMethod yX0_washOut, Cond.selects RX0 yX0_washOut yX0_washOut, Cond.code yX0_washOut cX0_washOut 3 none, Cond.methodLink RX3 77 yX0_endYear, Cond.instanceMethod yX0_endYear]
def wsX3_plan_r5 : List Cond := [Cond.selects RX0 yX0_endYear yX0_endYear, Cond.code yX0_endYear cX0_endYear 4 (some .int), Cond.methodLink RX0 57 yX0_nextGrass, Cond.static yX0_nextGrass, Cond.code yX0_nextGrass cX0_nextGrass 2 (some .int), Cond.methodLink RX3 102 yX0_greatestHeight, Cond.instanceMethod yX0_greatestHeight, Cond.selects RX0 yX0_greatestHeight yX0_greatestHeight, Cond.code yX0_greatestHeight cX0_greatestHeight 3 (some .int)]
def wsX3_plan : List Cond := .code yX3_plan cX3_plan 3 (some .int) :: ((wsX3_plan_r1 ++ (wsX3_plan_r2 ++ (wsX3_plan_r3 ++ (wsX3_plan_r4 ++ wsX3_plan_r5)))) ++ wsX30 ++ wsX20 ++ wsX00)
def wsX3_fences_r1 : List Cond := [Cond.methodLink RX3 108 yX3_isAim, Cond.static yX3_isAim, Cond.initialized RX3, Cond.code yX3_isAim cX3_isAim 1 (some .boolean), Cond.methodLink RX3 48 yX3_isWithin, Cond.static yX3_isWithin, Cond.code yX3_isWithin cX3_isWithin 3 (some .boolean), Cond.methodLink RX3 111 yX3_findPlan, Cond.instanceMethod yX3_findPlan, Cond.selects RX3 yX3_findPlan yX3_findPlan, Cond.code yX3_findPlan cX3_findPlan 5 (some .boolean), Cond.fieldLink RX3 29 "DuneBench" "weathers" "LDuneBench$Weathers;", Cond.methodLink RX3 121 yX2_lastYear, Cond.instanceMethod yX2_lastYear, Cond.selects RX2 yX2_lastYear yX2_lastYear, Cond.initialized RX2, Cond.code yX2_lastYear cX2_lastYear 3 (some .int), Cond.methodLink RX2 27 Lib.Math.max.name, Cond.static Lib.Math.max.name, Cond.initialized "java/lang/Math", Cond.code Lib.Math.max.name Lib.Math.max.code 2 (some .int), Cond.methodLink RX2 23 yX2_yearEnds, Cond.instanceMethod yX2_yearEnds, Cond.selects RX2 yX2_yearEnds yX2_yearEnds]
def wsX3_fences_r2 : List Cond := [Cond.code yX2_yearEnds cX2_yearEnds 4 (some .int), Cond.fieldLink RX2 9 "DuneBench$Weathers" "count" "[I", Cond.fieldLink RX2 17 "DuneBench$Weathers" "kind" "[[I", Cond.methodLink RX3 124 yX3_choosePlan, Cond.instanceMethod yX3_choosePlan, Cond.selects RX3 yX3_choosePlan yX3_choosePlan, Cond.code yX3_choosePlan cX3_choosePlan 5 (some .boolean), Cond.fieldLink RX3 44 "DuneBench" "planCells" "[I", Cond.fieldLink RX3 10 "DuneBench" "shore" "LDuneBench$Coast;", Cond.methodLink RX3 59 yX0_has, Cond.instanceMethod yX0_has, Cond.selects RX0 yX0_has yX0_has, Cond.initialized RX0, Cond.code yX0_has cX0_has 2 (some .boolean), Cond.fieldLink RX0 28 "DuneBench$Coast" "cells" "I", Cond.methodLink RX3 114 yX3_plannedFences, Cond.instanceMethod yX3_plannedFences, Cond.selects RX3 yX3_plannedFences yX3_plannedFences, Cond.code yX3_plannedFences cX3_plannedFences 3 (some .int), Cond.methodLink RX3 127 yX3_worstCrest, Cond.instanceMethod yX3_worstCrest, Cond.selects RX3 yX3_worstCrest yX3_worstCrest, Cond.code yX3_worstCrest cX3_worstCrest 4 (some .int), Cond.fieldLink RX3 91 "DuneBench$Weathers" "count" "[I"]
def wsX3_fences_r3 : List Cond := [Cond.fieldLink RX3 16 "DuneBench" "trial" "LDuneBench$Coast;", Cond.methodLink RX3 195 Lib.Math.min.name, Cond.static Lib.Math.min.name, Cond.code Lib.Math.min.name Lib.Math.min.code 2 (some .int), Cond.fieldLink RX3 105 "DuneBench$Coast" "flooded" "I", Cond.methodLink RX3 179 yX3_play, Cond.instanceMethod yX3_play, Cond.selects RX3 yX3_play yX3_play, Cond.code yX3_play cX3_play 5 none, Cond.fieldLink RX3 185 "DuneBench$Weathers" "value" "[[I", Cond.fieldLink RX3 189 "DuneBench$Weathers" "kind" "[[I", Cond.methodLink RX3 172 yX0_copyFrom, Cond.instanceMethod yX0_copyFrom, Cond.selects RX0 yX0_copyFrom yX0_copyFrom, Cond.code yX0_copyFrom cX0_copyFrom 3 none, Cond.fieldLink RX0 9 "DuneBench$Coast" "height" "[I", Cond.fieldLink RX0 15 "DuneBench$Coast" "grass" "[I", Cond.fieldLink RX0 18 "DuneBench$Coast" "fence" "[I", Cond.fieldLink RX0 21 "DuneBench$Coast" "kept" "[I", Cond.fieldLink RX0 32 "DuneBench$Coast" "sea" "I", Cond.fieldLink RX0 35 "DuneBench$Coast" "behind" "I", Cond.fieldLink RX0 38 "DuneBench$Coast" "flooded" "I", Cond.methodLink RX3 182 yX3_beginYear, Cond.instanceMethod yX3_beginYear]
def wsX3_fences_r4 : List Cond := [Cond.selects RX3 yX3_beginYear yX3_beginYear, Cond.code yX3_beginYear cX3_beginYear 2 none, Cond.fieldLink RX3 192 "DuneBench$Coast" "fence" "[I", Cond.fieldLink RX3 40 "DuneBench" "fenceSize" "I", Cond.methodLink RX3 71 yX0_blow, Cond.instanceMethod yX0_blow, Cond.selects RX0 yX0_blow yX0_blow, Cond.code yX0_blow cX0_blow 6 (some .int), Cond.methodLink RX0 41 Lib.Math.max.name, Cond.methodLink RX0 47 Lib.Math.min.name, Cond.methodLink RX0 50 yX0_hold, Cond.instanceMethod yX0_hold, Cond.selects RX0 yX0_hold yX0_hold, Cond.code yX0_hold cX0_hold 5 (some .int), Cond.methodLink RX3 74 yX0_surge, Cond.instanceMethod yX0_surge, Cond.selects RX0 yX0_surge yX0_surge, Cond.code yX0_surge cX0_surge 3 (some .int), Cond.methodLink RX0 53 yX0_washOut, Cond.instanceMethod yX0_washOut, Cond.selects RX0 yX0_washOut yX0_washOut, Cond.code yX0_washOut cX0_washOut 3 none, Cond.methodLink RX3 77 yX0_endYear, Cond.instanceMethod yX0_endYear]
def wsX3_fences_r5 : List Cond := [Cond.selects RX0 yX0_endYear yX0_endYear, Cond.code yX0_endYear cX0_endYear 4 (some .int), Cond.methodLink RX0 57 yX0_nextGrass, Cond.static yX0_nextGrass, Cond.code yX0_nextGrass cX0_nextGrass 2 (some .int), Cond.methodLink RX3 102 yX0_greatestHeight, Cond.instanceMethod yX0_greatestHeight, Cond.selects RX0 yX0_greatestHeight yX0_greatestHeight, Cond.code yX0_greatestHeight cX0_greatestHeight 3 (some .int)]
def wsX3_fences : List Cond := .code yX3_fences cX3_fences 2 (some .int) :: ((wsX3_fences_r1 ++ (wsX3_fences_r2 ++ (wsX3_fences_r3 ++ (wsX3_fences_r4 ++ wsX3_fences_r5)))) ++ wsX30 ++ wsX20 ++ wsX00)
def wsX3_most_r1 : List Cond := [Cond.fieldLink RX3 29 "DuneBench" "weathers" "LDuneBench$Weathers;", Cond.methodLink RX3 130 Lib.Math.max.name, Cond.static Lib.Math.max.name, Cond.initialized "java/lang/Math", Cond.code Lib.Math.max.name Lib.Math.max.code 2 (some .int), Cond.methodLink RX3 117 yX2_any, Cond.instanceMethod yX2_any, Cond.selects RX2 yX2_any yX2_any, Cond.initialized RX2, Cond.code yX2_any cX2_any 2 (some .boolean), Cond.fieldLink RX2 9 "DuneBench$Weathers" "count" "[I", Cond.methodLink RX3 121 yX2_lastYear, Cond.instanceMethod yX2_lastYear, Cond.selects RX2 yX2_lastYear yX2_lastYear, Cond.code yX2_lastYear cX2_lastYear 3 (some .int), Cond.methodLink RX2 27 Lib.Math.max.name, Cond.methodLink RX2 23 yX2_yearEnds, Cond.instanceMethod yX2_yearEnds, Cond.selects RX2 yX2_yearEnds yX2_yearEnds, Cond.code yX2_yearEnds cX2_yearEnds 4 (some .int), Cond.fieldLink RX2 17 "DuneBench$Weathers" "kind" "[[I", Cond.methodLink RX3 124 yX3_choosePlan, Cond.instanceMethod yX3_choosePlan, Cond.selects RX3 yX3_choosePlan yX3_choosePlan]
def wsX3_most_r2 : List Cond := [Cond.initialized RX3, Cond.code yX3_choosePlan cX3_choosePlan 5 (some .boolean), Cond.fieldLink RX3 44 "DuneBench" "planCells" "[I", Cond.fieldLink RX3 10 "DuneBench" "shore" "LDuneBench$Coast;", Cond.methodLink RX3 59 yX0_has, Cond.instanceMethod yX0_has, Cond.selects RX0 yX0_has yX0_has, Cond.initialized RX0, Cond.code yX0_has cX0_has 2 (some .boolean), Cond.fieldLink RX0 28 "DuneBench$Coast" "cells" "I", Cond.methodLink RX3 127 yX3_worstCrest, Cond.instanceMethod yX3_worstCrest, Cond.selects RX3 yX3_worstCrest yX3_worstCrest, Cond.code yX3_worstCrest cX3_worstCrest 4 (some .int), Cond.fieldLink RX3 91 "DuneBench$Weathers" "count" "[I", Cond.fieldLink RX3 16 "DuneBench" "trial" "LDuneBench$Coast;", Cond.methodLink RX3 195 Lib.Math.min.name, Cond.static Lib.Math.min.name, Cond.code Lib.Math.min.name Lib.Math.min.code 2 (some .int), Cond.fieldLink RX3 105 "DuneBench$Coast" "flooded" "I", Cond.methodLink RX3 179 yX3_play, Cond.instanceMethod yX3_play, Cond.selects RX3 yX3_play yX3_play, Cond.code yX3_play cX3_play 5 none]
def wsX3_most_r3 : List Cond := [Cond.fieldLink RX3 185 "DuneBench$Weathers" "value" "[[I", Cond.fieldLink RX3 189 "DuneBench$Weathers" "kind" "[[I", Cond.methodLink RX3 172 yX0_copyFrom, Cond.instanceMethod yX0_copyFrom, Cond.selects RX0 yX0_copyFrom yX0_copyFrom, Cond.code yX0_copyFrom cX0_copyFrom 3 none, Cond.fieldLink RX0 9 "DuneBench$Coast" "height" "[I", Cond.fieldLink RX0 15 "DuneBench$Coast" "grass" "[I", Cond.fieldLink RX0 18 "DuneBench$Coast" "fence" "[I", Cond.fieldLink RX0 21 "DuneBench$Coast" "kept" "[I", Cond.fieldLink RX0 32 "DuneBench$Coast" "sea" "I", Cond.fieldLink RX0 35 "DuneBench$Coast" "behind" "I", Cond.fieldLink RX0 38 "DuneBench$Coast" "flooded" "I", Cond.methodLink RX3 182 yX3_beginYear, Cond.instanceMethod yX3_beginYear, Cond.selects RX3 yX3_beginYear yX3_beginYear, Cond.code yX3_beginYear cX3_beginYear 2 none, Cond.fieldLink RX3 192 "DuneBench$Coast" "fence" "[I", Cond.fieldLink RX3 40 "DuneBench" "fenceSize" "I", Cond.methodLink RX3 71 yX0_blow, Cond.instanceMethod yX0_blow, Cond.selects RX0 yX0_blow yX0_blow, Cond.code yX0_blow cX0_blow 6 (some .int), Cond.methodLink RX0 41 Lib.Math.max.name]
def wsX3_most_r4 : List Cond := [Cond.methodLink RX0 47 Lib.Math.min.name, Cond.methodLink RX0 50 yX0_hold, Cond.instanceMethod yX0_hold, Cond.selects RX0 yX0_hold yX0_hold, Cond.code yX0_hold cX0_hold 5 (some .int), Cond.methodLink RX3 74 yX0_surge, Cond.instanceMethod yX0_surge, Cond.selects RX0 yX0_surge yX0_surge, Cond.code yX0_surge cX0_surge 3 (some .int), Cond.methodLink RX0 53 yX0_washOut, Cond.instanceMethod yX0_washOut, Cond.selects RX0 yX0_washOut yX0_washOut, Cond.code yX0_washOut cX0_washOut 3 none, Cond.methodLink RX3 77 yX0_endYear, Cond.instanceMethod yX0_endYear, Cond.selects RX0 yX0_endYear yX0_endYear, Cond.code yX0_endYear cX0_endYear 4 (some .int), Cond.methodLink RX0 57 yX0_nextGrass, Cond.static yX0_nextGrass, Cond.code yX0_nextGrass cX0_nextGrass 2 (some .int), Cond.static yX3_isWithin, Cond.code yX3_isWithin cX3_isWithin 3 (some .boolean), Cond.methodLink RX3 102 yX0_greatestHeight, Cond.instanceMethod yX0_greatestHeight]
def wsX3_most_r5 : List Cond := [Cond.selects RX0 yX0_greatestHeight yX0_greatestHeight, Cond.code yX0_greatestHeight cX0_greatestHeight 3 (some .int)]
def wsX3_most : List Cond := .code yX3_most cX3_most 4 (some .int) :: ((wsX3_most_r1 ++ (wsX3_most_r2 ++ (wsX3_most_r3 ++ (wsX3_most_r4 ++ wsX3_most_r5)))) ++ wsX30 ++ wsX20 ++ wsX00)
def wsX3_read : List Cond := .code yX3_read cX3_read 3 (some .int) :: ([.fieldLink RX3 10 "DuneBench" "shore" "LDuneBench$Coast;", .fieldLink RX3 36 "DuneBench" "survey" "LDuneBench$Survey;", .methodLink RX3 59 yX0_has, .instanceMethod yX0_has, .selects RX0 yX0_has yX0_has, .initialized RX0, .code yX0_has cX0_has 2 (some .boolean), .fieldLink RX0 28 "DuneBench$Coast" "cells" "I", .methodLink RX3 48 yX3_isWithin, .static yX3_isWithin, .initialized RX3, .code yX3_isWithin cX3_isWithin 3 (some .boolean), .methodLink RX3 136 yX1_put, .instanceMethod yX1_put, .selects RX1 yX1_put yX1_put, .initialized RX1, .code yX1_put cX1_put 4 (some .int), .fieldLink RX1 9 "DuneBench$Survey" "reading" "[I"] ++ wsX30 ++ wsX00 ++ wsX10)
def wsX3_take : List Cond := .code yX3_take cX3_take 3 (some .int) :: ([.fieldLink RX3 10 "DuneBench" "shore" "LDuneBench$Coast;", .fieldLink RX3 139 "DuneBench$Coast" "cells" "I", .fieldLink RX3 36 "DuneBench" "survey" "LDuneBench$Survey;", .fieldLink RX3 142 "DuneBench$Coast" "height" "[I", .methodLink RX3 136 yX1_put, .instanceMethod yX1_put, .selects RX1 yX1_put yX1_put, .initialized RX1, .code yX1_put cX1_put 4 (some .int), .fieldLink RX1 9 "DuneBench$Survey" "reading" "[I"] ++ wsX30 ++ wsX00 ++ wsX10)
def wsX3_isFractionPart : List Cond := .code yX3_isFractionPart cX3_isFractionPart 1 (some .boolean) :: ([.methodLink RX3 48 yX3_isWithin, .static yX3_isWithin, .initialized RX3, .code yX3_isWithin cX3_isWithin 3 (some .boolean)])
def wsX3_cleared : List Cond := .code yX3_cleared cX3_cleared 3 (some .int) :: ([])
def wsX3_level_r1 : List Cond := [Cond.fieldLink RX3 10 "DuneBench" "shore" "LDuneBench$Coast;", Cond.fieldLink RX3 36 "DuneBench" "survey" "LDuneBench$Survey;", Cond.fieldLink RX3 139 "DuneBench$Coast" "cells" "I", Cond.methodLink RX3 59 yX0_has, Cond.instanceMethod yX0_has, Cond.selects RX0 yX0_has yX0_has, Cond.initialized RX0, Cond.code yX0_has cX0_has 2 (some .boolean), Cond.fieldLink RX0 28 "DuneBench$Coast" "cells" "I", Cond.methodLink RX3 145 yX3_isFractionPart, Cond.static yX3_isFractionPart, Cond.initialized RX3, Cond.code yX3_isFractionPart cX3_isFractionPart 1 (some .boolean), Cond.methodLink RX3 48 yX3_isWithin, Cond.static yX3_isWithin, Cond.code yX3_isWithin cX3_isWithin 3 (some .boolean), Cond.methodLink RX3 148 yX1_readings, Cond.instanceMethod yX1_readings, Cond.selects RX1 yX1_readings yX1_readings, Cond.initialized RX1, Cond.code yX1_readings cX1_readings 3 (some .int), Cond.fieldLink RX1 9 "DuneBench$Survey" "reading" "[I", Cond.methodLink RX3 151 yX1_scaledLevel, Cond.instanceMethod yX1_scaledLevel]
def wsX3_level_r2 : List Cond := [Cond.selects RX1 yX1_scaledLevel yX1_scaledLevel, Cond.code yX1_scaledLevel cX1_scaledLevel 7 (some .int), Cond.methodLink RX1 18 yX1_nearest, Cond.instanceMethod yX1_nearest, Cond.selects RX1 yX1_nearest yX1_nearest, Cond.code yX1_nearest cX1_nearest 7 (some .int), Cond.methodLink RX3 154 yX3_cleared, Cond.static yX3_cleared, Cond.code yX3_cleared cX3_cleared 3 (some .int)]
def wsX3_level : List Cond := .code yX3_level cX3_level 3 (some .int) :: ((wsX3_level_r1 ++ wsX3_level_r2) ++ wsX30 ++ wsX00 ++ wsX10)
def wsX3_volume_r1 : List Cond := [Cond.fieldLink RX3 36 "DuneBench" "survey" "LDuneBench$Survey;", Cond.fieldLink RX3 10 "DuneBench" "shore" "LDuneBench$Coast;", Cond.fieldLink RX3 139 "DuneBench$Coast" "cells" "I", Cond.methodLink RX3 145 yX3_isFractionPart, Cond.static yX3_isFractionPart, Cond.initialized RX3, Cond.code yX3_isFractionPart cX3_isFractionPart 1 (some .boolean), Cond.methodLink RX3 48 yX3_isWithin, Cond.static yX3_isWithin, Cond.code yX3_isWithin cX3_isWithin 3 (some .boolean), Cond.methodLink RX3 148 yX1_readings, Cond.instanceMethod yX1_readings, Cond.selects RX1 yX1_readings yX1_readings, Cond.initialized RX1, Cond.code yX1_readings cX1_readings 3 (some .int), Cond.fieldLink RX1 9 "DuneBench$Survey" "reading" "[I", Cond.methodLink RX3 157 yX1_scaledVolume, Cond.instanceMethod yX1_scaledVolume, Cond.selects RX1 yX1_scaledVolume yX1_scaledVolume, Cond.code yX1_scaledVolume cX1_scaledVolume 5 (some .int), Cond.methodLink RX1 22 yX1_scaledLevel, Cond.instanceMethod yX1_scaledLevel, Cond.selects RX1 yX1_scaledLevel yX1_scaledLevel, Cond.code yX1_scaledLevel cX1_scaledLevel 7 (some .int)]
def wsX3_volume_r2 : List Cond := [Cond.methodLink RX1 18 yX1_nearest, Cond.instanceMethod yX1_nearest, Cond.selects RX1 yX1_nearest yX1_nearest, Cond.code yX1_nearest cX1_nearest 7 (some .int), Cond.methodLink RX3 154 yX3_cleared, Cond.static yX3_cleared, Cond.code yX3_cleared cX3_cleared 3 (some .int)]
def wsX3_volume : List Cond := .code yX3_volume cX3_volume 2 (some .int) :: ((wsX3_volume_r1 ++ wsX3_volume_r2) ++ wsX30 ++ wsX00 ++ wsX10)
def wsX3_doubt_r1 : List Cond := [Cond.fieldLink RX3 36 "DuneBench" "survey" "LDuneBench$Survey;", Cond.fieldLink RX3 10 "DuneBench" "shore" "LDuneBench$Coast;", Cond.fieldLink RX3 139 "DuneBench$Coast" "cells" "I", Cond.methodLink RX3 145 yX3_isFractionPart, Cond.static yX3_isFractionPart, Cond.initialized RX3, Cond.code yX3_isFractionPart cX3_isFractionPart 1 (some .boolean), Cond.methodLink RX3 48 yX3_isWithin, Cond.static yX3_isWithin, Cond.code yX3_isWithin cX3_isWithin 3 (some .boolean), Cond.methodLink RX3 148 yX1_readings, Cond.instanceMethod yX1_readings, Cond.selects RX1 yX1_readings yX1_readings, Cond.initialized RX1, Cond.code yX1_readings cX1_readings 3 (some .int), Cond.fieldLink RX1 9 "DuneBench$Survey" "reading" "[I", Cond.methodLink RX3 160 yX1_scaledDoubt, Cond.instanceMethod yX1_scaledDoubt, Cond.selects RX1 yX1_scaledDoubt yX1_scaledDoubt, Cond.code yX1_scaledDoubt cX1_scaledDoubt 5 (some .int), Cond.methodLink RX1 30 Lib.Math.abs.name, Cond.static Lib.Math.abs.name, Cond.initialized "java/lang/Math", Cond.code Lib.Math.abs.name Lib.Math.abs.code 1 (some .int)]
def wsX3_doubt_r2 : List Cond := [Cond.methodLink RX1 36 Lib.Math.max.name, Cond.static Lib.Math.max.name, Cond.code Lib.Math.max.name Lib.Math.max.code 2 (some .int), Cond.methodLink RX1 26 yX1_scaledVolume, Cond.instanceMethod yX1_scaledVolume, Cond.selects RX1 yX1_scaledVolume yX1_scaledVolume, Cond.code yX1_scaledVolume cX1_scaledVolume 5 (some .int), Cond.methodLink RX1 22 yX1_scaledLevel, Cond.instanceMethod yX1_scaledLevel, Cond.selects RX1 yX1_scaledLevel yX1_scaledLevel, Cond.code yX1_scaledLevel cX1_scaledLevel 7 (some .int), Cond.methodLink RX1 18 yX1_nearest, Cond.instanceMethod yX1_nearest, Cond.selects RX1 yX1_nearest yX1_nearest, Cond.code yX1_nearest cX1_nearest 7 (some .int), Cond.methodLink RX3 154 yX3_cleared, Cond.static yX3_cleared, Cond.code yX3_cleared cX3_cleared 3 (some .int)]
def wsX3_doubt : List Cond := .code yX3_doubt cX3_doubt 2 (some .int) :: ((wsX3_doubt_r1 ++ wsX3_doubt_r2) ++ wsX30 ++ wsX00 ++ wsX10)
def wsX3_many_r1 : List Cond := [Cond.fieldLink RX3 10 "DuneBench" "shore" "LDuneBench$Coast;", Cond.fieldLink RX3 139 "DuneBench$Coast" "cells" "I", Cond.fieldLink RX3 163 "DuneBench$Coast" "sea" "I", Cond.fieldLink RX3 166 "DuneBench$Coast" "behind" "I", Cond.fieldLink RX3 105 "DuneBench$Coast" "flooded" "I", Cond.fieldLink RX3 36 "DuneBench" "survey" "LDuneBench$Survey;", Cond.fieldLink RX3 29 "DuneBench" "weathers" "LDuneBench$Weathers;", Cond.fieldLink RX3 91 "DuneBench$Weathers" "count" "[I", Cond.methodLink RX3 169 yX0_heightsTogether, Cond.instanceMethod yX0_heightsTogether, Cond.selects RX0 yX0_heightsTogether yX0_heightsTogether, Cond.initialized RX0, Cond.code yX0_heightsTogether cX0_heightsTogether 3 (some .int), Cond.fieldLink RX0 28 "DuneBench$Coast" "cells" "I", Cond.fieldLink RX0 9 "DuneBench$Coast" "height" "[I", Cond.methodLink RX3 102 yX0_greatestHeight, Cond.instanceMethod yX0_greatestHeight, Cond.selects RX0 yX0_greatestHeight yX0_greatestHeight, Cond.code yX0_greatestHeight cX0_greatestHeight 3 (some .int), Cond.methodLink RX0 41 Lib.Math.max.name, Cond.static Lib.Math.max.name, Cond.initialized "java/lang/Math", Cond.code Lib.Math.max.name Lib.Math.max.code 2 (some .int), Cond.methodLink RX3 148 yX1_readings]
def wsX3_many_r2 : List Cond := [Cond.instanceMethod yX1_readings, Cond.selects RX1 yX1_readings yX1_readings, Cond.initialized RX1, Cond.code yX1_readings cX1_readings 3 (some .int), Cond.fieldLink RX1 9 "DuneBench$Survey" "reading" "[I", Cond.methodLink RX3 48 yX3_isWithin, Cond.static yX3_isWithin, Cond.initialized RX3, Cond.code yX3_isWithin cX3_isWithin 3 (some .boolean)]
def wsX3_many : List Cond := .code yX3_many cX3_many 2 (some .int) :: ((wsX3_many_r1 ++ wsX3_many_r2) ++ wsX30 ++ wsX00 ++ wsX20 ++ wsX10)
def wsX3_keep : List Cond := .code yX3_keep cX3_keep 1 (some .int) :: ([.fieldLink RX3 19 "DuneBench" "saved" "LDuneBench$Coast;", .fieldLink RX3 10 "DuneBench" "shore" "LDuneBench$Coast;", .fieldLink RX3 22 "DuneBench" "isSaved" "Z", .methodLink RX3 172 yX0_copyFrom, .instanceMethod yX0_copyFrom, .selects RX0 yX0_copyFrom yX0_copyFrom, .initialized RX0, .code yX0_copyFrom cX0_copyFrom 3 none, .fieldLink RX0 28 "DuneBench$Coast" "cells" "I", .fieldLink RX0 9 "DuneBench$Coast" "height" "[I", .fieldLink RX0 15 "DuneBench$Coast" "grass" "[I", .fieldLink RX0 18 "DuneBench$Coast" "fence" "[I", .fieldLink RX0 21 "DuneBench$Coast" "kept" "[I", .fieldLink RX0 32 "DuneBench$Coast" "sea" "I", .fieldLink RX0 35 "DuneBench$Coast" "behind" "I", .fieldLink RX0 38 "DuneBench$Coast" "flooded" "I"] ++ wsX30 ++ wsX00)
def wsX3_back : List Cond := .code yX3_back cX3_back 1 (some .int) :: ([.fieldLink RX3 22 "DuneBench" "isSaved" "Z", .fieldLink RX3 19 "DuneBench" "saved" "LDuneBench$Coast;", .fieldLink RX3 139 "DuneBench$Coast" "cells" "I", .fieldLink RX3 10 "DuneBench" "shore" "LDuneBench$Coast;", .methodLink RX3 172 yX0_copyFrom, .instanceMethod yX0_copyFrom, .selects RX0 yX0_copyFrom yX0_copyFrom, .initialized RX0, .code yX0_copyFrom cX0_copyFrom 3 none, .fieldLink RX0 28 "DuneBench$Coast" "cells" "I", .fieldLink RX0 9 "DuneBench$Coast" "height" "[I", .fieldLink RX0 15 "DuneBench$Coast" "grass" "[I", .fieldLink RX0 18 "DuneBench$Coast" "fence" "[I", .fieldLink RX0 21 "DuneBench$Coast" "kept" "[I", .fieldLink RX0 32 "DuneBench$Coast" "sea" "I", .fieldLink RX0 35 "DuneBench$Coast" "behind" "I", .fieldLink RX0 38 "DuneBench$Coast" "flooded" "I"] ++ wsX30 ++ wsX00)
def wsX4_begin : List Cond := .code yX4_begin cX4_begin 3 none :: ([.fieldLink RX4 7 "DuneBenchModel" "n" "I", .fieldLink RX4 16 "DuneBenchModel" "height" "[I", .fieldLink RX4 20 "DuneBenchModel" "grass" "[I", .fieldLink RX4 23 "DuneBenchModel" "fence" "[I", .fieldLink RX4 26 "DuneBenchModel" "gained" "[I", .fieldLink RX4 47 "DuneBenchModel" "reading" "[I", .fieldLink RX4 29 "DuneBenchModel" "sea" "[I", .fieldLink RX4 32 "DuneBenchModel" "behind" "[I", .fieldLink RX4 35 "DuneBenchModel" "flooded" "[I"] ++ wsX40)
def wsX4_init : List Cond := .code yX4_init cX4_init 1 none :: ([.methodLink RX4 1 objectInit, .instanceMethod objectInit, .code objectInit ⟨#[0xb1]⟩ 1 none, .fieldLink RX4 7 "DuneBenchModel" "n" "I", .fieldLink RX4 13 "DuneBenchModel" "size" "I", .arrayClass .int, .fieldLink RX4 16 "DuneBenchModel" "height" "[I", .fieldLink RX4 20 "DuneBenchModel" "grass" "[I", .fieldLink RX4 23 "DuneBenchModel" "fence" "[I", .fieldLink RX4 26 "DuneBenchModel" "gained" "[I", .fieldLink RX4 29 "DuneBenchModel" "sea" "[I", .fieldLink RX4 32 "DuneBenchModel" "behind" "[I", .fieldLink RX4 35 "DuneBenchModel" "flooded" "[I", .fieldLink RX4 38 "DuneBenchModel" "events" "[I", .fieldLink RX4 41 "DuneBenchModel" "kindOf" "[I", .fieldLink RX4 44 "DuneBenchModel" "valueOf" "[I", .fieldLink RX4 47 "DuneBenchModel" "reading" "[I", .fieldLink RX4 50 "DuneBenchModel" "fences" "[I", .fieldLink RX4 53 "DuneBenchModel" "best" "[I", .methodLink RX4 56 yX4_begin, .instanceMethod yX4_begin, .selects RX4 yX4_begin yX4_begin, .initialized RX4, .code yX4_begin cX4_begin 3 none] ++ wsX40)
def wsX4_in : List Cond := .code yX4_in cX4_in 3 (some .boolean) :: ([])
def wsX4_isCell : List Cond := .code yX4_isCell cX4_isCell 2 (some .boolean) :: ([.fieldLink RX4 7 "DuneBenchModel" "n" "I", .methodLink RX4 60 yX4_in, .static yX4_in, .initialized RX4, .code yX4_in cX4_in 3 (some .boolean)] ++ wsX40)
def wsX4_isWeather : List Cond := .code yX4_isWeather cX4_isWeather 1 (some .boolean) :: ([.methodLink RX4 60 yX4_in, .static yX4_in, .initialized RX4, .code yX4_in cX4_in 3 (some .boolean)])
def wsX4_copy : List Cond := .code yX4_copy cX4_copy 4 none :: ([.fieldLink RX4 16 "DuneBenchModel" "height" "[I", .fieldLink RX4 20 "DuneBenchModel" "grass" "[I", .fieldLink RX4 23 "DuneBenchModel" "fence" "[I", .fieldLink RX4 26 "DuneBenchModel" "gained" "[I", .fieldLink RX4 29 "DuneBenchModel" "sea" "[I", .fieldLink RX4 32 "DuneBenchModel" "behind" "[I", .fieldLink RX4 35 "DuneBenchModel" "flooded" "[I"] ++ wsX40)
def wsX4_coast : List Cond := .code yX4_coast cX4_coast 2 (some .int) :: ([.methodLink RX4 60 yX4_in, .static yX4_in, .initialized RX4, .code yX4_in cX4_in 3 (some .boolean), .methodLink RX4 56 yX4_begin, .instanceMethod yX4_begin, .selects RX4 yX4_begin yX4_begin, .code yX4_begin cX4_begin 3 none, .fieldLink RX4 7 "DuneBenchModel" "n" "I", .fieldLink RX4 16 "DuneBenchModel" "height" "[I", .fieldLink RX4 20 "DuneBenchModel" "grass" "[I", .fieldLink RX4 23 "DuneBenchModel" "fence" "[I", .fieldLink RX4 26 "DuneBenchModel" "gained" "[I", .fieldLink RX4 47 "DuneBenchModel" "reading" "[I", .fieldLink RX4 29 "DuneBenchModel" "sea" "[I", .fieldLink RX4 32 "DuneBenchModel" "behind" "[I", .fieldLink RX4 35 "DuneBenchModel" "flooded" "[I"] ++ wsX40)
def wsX4_set : List Cond := .code yX4_set cX4_set 5 (some .int) :: ([.fieldLink RX4 16 "DuneBenchModel" "height" "[I", .fieldLink RX4 20 "DuneBenchModel" "grass" "[I", .fieldLink RX4 23 "DuneBenchModel" "fence" "[I", .methodLink RX4 64 yX4_isCell, .instanceMethod yX4_isCell, .selects RX4 yX4_isCell yX4_isCell, .initialized RX4, .code yX4_isCell cX4_isCell 2 (some .boolean), .fieldLink RX4 7 "DuneBenchModel" "n" "I", .methodLink RX4 60 yX4_in, .static yX4_in, .code yX4_in cX4_in 3 (some .boolean)] ++ wsX40)
def wsX4_of : List Cond := .code yX4_of cX4_of 3 (some .int) :: ([.fieldLink RX4 16 "DuneBenchModel" "height" "[I", .fieldLink RX4 20 "DuneBenchModel" "grass" "[I", .fieldLink RX4 23 "DuneBenchModel" "fence" "[I", .fieldLink RX4 26 "DuneBenchModel" "gained" "[I", .methodLink RX4 64 yX4_isCell, .instanceMethod yX4_isCell, .selects RX4 yX4_isCell yX4_isCell, .initialized RX4, .code yX4_isCell cX4_isCell 2 (some .boolean), .fieldLink RX4 7 "DuneBenchModel" "n" "I", .methodLink RX4 60 yX4_in, .static yX4_in, .code yX4_in cX4_in 3 (some .boolean)] ++ wsX40)
def wsX4_keeps : List Cond := .code yX4_keeps cX4_keeps 6 (some .int) :: ([.fieldLink RX4 20 "DuneBenchModel" "grass" "[I", .fieldLink RX4 23 "DuneBenchModel" "fence" "[I", .fieldLink RX4 16 "DuneBenchModel" "height" "[I", .fieldLink RX4 26 "DuneBenchModel" "gained" "[I"] ++ wsX40)
def wsX4_blow : List Cond := .code yX4_blow cX4_blow 8 (some .int) :: ([.fieldLink RX4 7 "DuneBenchModel" "n" "I", .fieldLink RX4 20 "DuneBenchModel" "grass" "[I", .fieldLink RX4 16 "DuneBenchModel" "height" "[I", .fieldLink RX4 32 "DuneBenchModel" "behind" "[I", .methodLink RX4 68 yX4_keeps, .instanceMethod yX4_keeps, .selects RX4 yX4_keeps yX4_keeps, .initialized RX4, .code yX4_keeps cX4_keeps 6 (some .int), .fieldLink RX4 23 "DuneBenchModel" "fence" "[I", .fieldLink RX4 26 "DuneBenchModel" "gained" "[I"] ++ wsX40)
def wsX4_flood : List Cond := .code yX4_flood cX4_flood 6 (some .int) :: ([.fieldLink RX4 7 "DuneBenchModel" "n" "I", .fieldLink RX4 16 "DuneBenchModel" "height" "[I", .fieldLink RX4 29 "DuneBenchModel" "sea" "[I", .fieldLink RX4 20 "DuneBenchModel" "grass" "[I", .fieldLink RX4 23 "DuneBenchModel" "fence" "[I", .fieldLink RX4 35 "DuneBenchModel" "flooded" "[I"] ++ wsX40)
def wsX4_endYear : List Cond := .code yX4_endYear cX4_endYear 5 (some .int) :: ([.fieldLink RX4 7 "DuneBenchModel" "n" "I", .fieldLink RX4 20 "DuneBenchModel" "grass" "[I", .fieldLink RX4 26 "DuneBenchModel" "gained" "[I", .methodLink RX4 60 yX4_in, .static yX4_in, .initialized RX4, .code yX4_in cX4_in 3 (some .boolean)] ++ wsX40)
def wsX4_wind : List Cond := .code yX4_wind cX4_wind 2 (some .int) :: ([.methodLink RX4 60 yX4_in, .static yX4_in, .initialized RX4, .code yX4_in cX4_in 3 (some .boolean), .methodLink RX4 72 yX4_blow, .instanceMethod yX4_blow, .selects RX4 yX4_blow yX4_blow, .code yX4_blow cX4_blow 8 (some .int), .fieldLink RX4 7 "DuneBenchModel" "n" "I", .fieldLink RX4 20 "DuneBenchModel" "grass" "[I", .fieldLink RX4 16 "DuneBenchModel" "height" "[I", .fieldLink RX4 32 "DuneBenchModel" "behind" "[I", .methodLink RX4 68 yX4_keeps, .instanceMethod yX4_keeps, .selects RX4 yX4_keeps yX4_keeps, .code yX4_keeps cX4_keeps 6 (some .int), .fieldLink RX4 23 "DuneBenchModel" "fence" "[I", .fieldLink RX4 26 "DuneBenchModel" "gained" "[I"] ++ wsX40)
def wsX4_storm : List Cond := .code yX4_storm cX4_storm 2 (some .int) :: ([.methodLink RX4 60 yX4_in, .static yX4_in, .initialized RX4, .code yX4_in cX4_in 3 (some .boolean), .methodLink RX4 75 yX4_flood, .instanceMethod yX4_flood, .selects RX4 yX4_flood yX4_flood, .code yX4_flood cX4_flood 6 (some .int), .fieldLink RX4 7 "DuneBenchModel" "n" "I", .fieldLink RX4 16 "DuneBenchModel" "height" "[I", .fieldLink RX4 29 "DuneBenchModel" "sea" "[I", .fieldLink RX4 20 "DuneBenchModel" "grass" "[I", .fieldLink RX4 23 "DuneBenchModel" "fence" "[I", .fieldLink RX4 35 "DuneBenchModel" "flooded" "[I"] ++ wsX40)
def wsX4_end : List Cond := .code yX4_end cX4_end 1 (some .int) :: ([.methodLink RX4 78 yX4_endYear, .instanceMethod yX4_endYear, .selects RX4 yX4_endYear yX4_endYear, .initialized RX4, .code yX4_endYear cX4_endYear 5 (some .int), .fieldLink RX4 7 "DuneBenchModel" "n" "I", .fieldLink RX4 20 "DuneBenchModel" "grass" "[I", .fieldLink RX4 26 "DuneBenchModel" "gained" "[I", .methodLink RX4 60 yX4_in, .static yX4_in, .code yX4_in cX4_in 3 (some .boolean)] ++ wsX40)
def wsX4_nourish : List Cond := .code yX4_nourish cX4_nourish 3 (some .int) :: ([.fieldLink RX4 16 "DuneBenchModel" "height" "[I", .methodLink RX4 60 yX4_in, .static yX4_in, .initialized RX4, .code yX4_in cX4_in 3 (some .boolean)] ++ wsX40)
def wsX4_event : List Cond := .code yX4_event cX4_event 4 (some .int) :: ([.fieldLink RX4 38 "DuneBenchModel" "events" "[I", .fieldLink RX4 41 "DuneBenchModel" "kindOf" "[I", .fieldLink RX4 44 "DuneBenchModel" "valueOf" "[I", .methodLink RX4 82 yX4_isWeather, .static yX4_isWeather, .initialized RX4, .code yX4_isWeather cX4_isWeather 1 (some .boolean), .methodLink RX4 60 yX4_in, .static yX4_in, .code yX4_in cX4_in 3 (some .boolean)] ++ wsX40)
def wsX4_calm : List Cond := .code yX4_calm cX4_calm 3 (some .int) :: ([.fieldLink RX4 38 "DuneBenchModel" "events" "[I", .methodLink RX4 82 yX4_isWeather, .static yX4_isWeather, .initialized RX4, .code yX4_isWeather cX4_isWeather 1 (some .boolean), .methodLink RX4 60 yX4_in, .static yX4_in, .code yX4_in cX4_in 3 (some .boolean)] ++ wsX40)
def wsX4_size : List Cond := .code yX4_size cX4_size 3 (some .int) :: ([.fieldLink RX4 13 "DuneBenchModel" "size" "I", .methodLink RX4 60 yX4_in, .static yX4_in, .initialized RX4, .code yX4_in cX4_in 3 (some .boolean)] ++ wsX40)
def wsX4_setFence : List Cond := .code yX4_setFence cX4_setFence 2 none :: ([.fieldLink RX4 50 "DuneBenchModel" "fences" "[I", .fieldLink RX4 23 "DuneBenchModel" "fence" "[I", .fieldLink RX4 13 "DuneBenchModel" "size" "I"] ++ wsX40)
def wsX4_tryOut_r1 : List Cond := [Cond.fieldLink RX4 35 "DuneBenchModel" "flooded" "[I", Cond.fieldLink RX4 38 "DuneBenchModel" "events" "[I", Cond.fieldLink RX4 41 "DuneBenchModel" "kindOf" "[I", Cond.fieldLink RX4 44 "DuneBenchModel" "valueOf" "[I", Cond.methodLink RX4 85 yX4_copy, Cond.instanceMethod yX4_copy, Cond.selects RX4 yX4_copy yX4_copy, Cond.initialized RX4, Cond.code yX4_copy cX4_copy 4 none, Cond.fieldLink RX4 16 "DuneBenchModel" "height" "[I", Cond.fieldLink RX4 20 "DuneBenchModel" "grass" "[I", Cond.fieldLink RX4 23 "DuneBenchModel" "fence" "[I", Cond.fieldLink RX4 26 "DuneBenchModel" "gained" "[I", Cond.fieldLink RX4 29 "DuneBenchModel" "sea" "[I", Cond.fieldLink RX4 32 "DuneBenchModel" "behind" "[I", Cond.methodLink RX4 89 yX4_setFence, Cond.instanceMethod yX4_setFence, Cond.selects RX4 yX4_setFence yX4_setFence, Cond.code yX4_setFence cX4_setFence 2 none, Cond.fieldLink RX4 50 "DuneBenchModel" "fences" "[I", Cond.fieldLink RX4 13 "DuneBenchModel" "size" "I", Cond.methodLink RX4 72 yX4_blow, Cond.instanceMethod yX4_blow, Cond.selects RX4 yX4_blow yX4_blow]
def wsX4_tryOut_r2 : List Cond := [Cond.code yX4_blow cX4_blow 8 (some .int), Cond.fieldLink RX4 7 "DuneBenchModel" "n" "I", Cond.methodLink RX4 68 yX4_keeps, Cond.instanceMethod yX4_keeps, Cond.selects RX4 yX4_keeps yX4_keeps, Cond.code yX4_keeps cX4_keeps 6 (some .int), Cond.methodLink RX4 75 yX4_flood, Cond.instanceMethod yX4_flood, Cond.selects RX4 yX4_flood yX4_flood, Cond.code yX4_flood cX4_flood 6 (some .int), Cond.methodLink RX4 78 yX4_endYear, Cond.instanceMethod yX4_endYear, Cond.selects RX4 yX4_endYear yX4_endYear, Cond.code yX4_endYear cX4_endYear 5 (some .int), Cond.methodLink RX4 60 yX4_in, Cond.static yX4_in, Cond.code yX4_in cX4_in 3 (some .boolean)]
def wsX4_tryOut : List Cond := .code yX4_tryOut cX4_tryOut 5 none :: ((wsX4_tryOut_r1 ++ wsX4_tryOut_r2) ++ wsX40)
def wsX4_crestOf : List Cond := .code yX4_crestOf cX4_crestOf 4 (some .int) :: ([.fieldLink RX4 7 "DuneBenchModel" "n" "I", .fieldLink RX4 16 "DuneBenchModel" "height" "[I"] ++ wsX40)
def wsX4_isFence : List Cond := .code yX4_isFence cX4_isFence 2 (some .boolean) :: ([.methodLink RX4 64 yX4_isCell, .instanceMethod yX4_isCell, .selects RX4 yX4_isCell yX4_isCell, .initialized RX4, .code yX4_isCell cX4_isCell 2 (some .boolean), .fieldLink RX4 7 "DuneBenchModel" "n" "I", .methodLink RX4 60 yX4_in, .static yX4_in, .code yX4_in cX4_in 3 (some .boolean)] ++ wsX40)
def wsX4_ask_r1 : List Cond := [Cond.fieldLink RX4 50 "DuneBenchModel" "fences" "[I", Cond.methodLink RX4 82 yX4_isWeather, Cond.static yX4_isWeather, Cond.initialized RX4, Cond.code yX4_isWeather cX4_isWeather 1 (some .boolean), Cond.methodLink RX4 60 yX4_in, Cond.static yX4_in, Cond.code yX4_in cX4_in 3 (some .boolean), Cond.methodLink RX4 92 yX4_isFence, Cond.instanceMethod yX4_isFence, Cond.selects RX4 yX4_isFence yX4_isFence, Cond.code yX4_isFence cX4_isFence 2 (some .boolean), Cond.methodLink RX4 64 yX4_isCell, Cond.instanceMethod yX4_isCell, Cond.selects RX4 yX4_isCell yX4_isCell, Cond.code yX4_isCell cX4_isCell 2 (some .boolean), Cond.fieldLink RX4 7 "DuneBenchModel" "n" "I", Cond.methodLink RX4 95 yX4_tryOut, Cond.instanceMethod yX4_tryOut, Cond.selects RX4 yX4_tryOut yX4_tryOut, Cond.code yX4_tryOut cX4_tryOut 5 none, Cond.fieldLink RX4 35 "DuneBenchModel" "flooded" "[I", Cond.fieldLink RX4 38 "DuneBenchModel" "events" "[I", Cond.fieldLink RX4 41 "DuneBenchModel" "kindOf" "[I"]
def wsX4_ask_r2 : List Cond := [Cond.fieldLink RX4 44 "DuneBenchModel" "valueOf" "[I", Cond.methodLink RX4 85 yX4_copy, Cond.instanceMethod yX4_copy, Cond.selects RX4 yX4_copy yX4_copy, Cond.code yX4_copy cX4_copy 4 none, Cond.fieldLink RX4 16 "DuneBenchModel" "height" "[I", Cond.fieldLink RX4 20 "DuneBenchModel" "grass" "[I", Cond.fieldLink RX4 23 "DuneBenchModel" "fence" "[I", Cond.fieldLink RX4 26 "DuneBenchModel" "gained" "[I", Cond.fieldLink RX4 29 "DuneBenchModel" "sea" "[I", Cond.fieldLink RX4 32 "DuneBenchModel" "behind" "[I", Cond.methodLink RX4 89 yX4_setFence, Cond.instanceMethod yX4_setFence, Cond.selects RX4 yX4_setFence yX4_setFence, Cond.code yX4_setFence cX4_setFence 2 none, Cond.fieldLink RX4 13 "DuneBenchModel" "size" "I", Cond.methodLink RX4 72 yX4_blow, Cond.instanceMethod yX4_blow, Cond.selects RX4 yX4_blow yX4_blow, Cond.code yX4_blow cX4_blow 8 (some .int), Cond.methodLink RX4 68 yX4_keeps, Cond.instanceMethod yX4_keeps, Cond.selects RX4 yX4_keeps yX4_keeps, Cond.code yX4_keeps cX4_keeps 6 (some .int)]
def wsX4_ask_r3 : List Cond := [Cond.methodLink RX4 75 yX4_flood, Cond.instanceMethod yX4_flood, Cond.selects RX4 yX4_flood yX4_flood, Cond.code yX4_flood cX4_flood 6 (some .int), Cond.methodLink RX4 78 yX4_endYear, Cond.instanceMethod yX4_endYear, Cond.selects RX4 yX4_endYear yX4_endYear, Cond.code yX4_endYear cX4_endYear 5 (some .int)]
def wsX4_ask : List Cond := .code yX4_ask cX4_ask 5 (some .boolean) :: ((wsX4_ask_r1 ++ (wsX4_ask_r2 ++ wsX4_ask_r3)) ++ wsX40)
def wsX4_crest_r1 : List Cond := [Cond.methodLink RX4 98 yX4_ask, Cond.instanceMethod yX4_ask, Cond.selects RX4 yX4_ask yX4_ask, Cond.initialized RX4, Cond.code yX4_ask cX4_ask 5 (some .boolean), Cond.fieldLink RX4 50 "DuneBenchModel" "fences" "[I", Cond.methodLink RX4 82 yX4_isWeather, Cond.static yX4_isWeather, Cond.code yX4_isWeather cX4_isWeather 1 (some .boolean), Cond.methodLink RX4 60 yX4_in, Cond.static yX4_in, Cond.code yX4_in cX4_in 3 (some .boolean), Cond.methodLink RX4 92 yX4_isFence, Cond.instanceMethod yX4_isFence, Cond.selects RX4 yX4_isFence yX4_isFence, Cond.code yX4_isFence cX4_isFence 2 (some .boolean), Cond.methodLink RX4 64 yX4_isCell, Cond.instanceMethod yX4_isCell, Cond.selects RX4 yX4_isCell yX4_isCell, Cond.code yX4_isCell cX4_isCell 2 (some .boolean), Cond.fieldLink RX4 7 "DuneBenchModel" "n" "I", Cond.methodLink RX4 95 yX4_tryOut, Cond.instanceMethod yX4_tryOut, Cond.selects RX4 yX4_tryOut yX4_tryOut]
def wsX4_crest_r2 : List Cond := [Cond.code yX4_tryOut cX4_tryOut 5 none, Cond.fieldLink RX4 35 "DuneBenchModel" "flooded" "[I", Cond.fieldLink RX4 38 "DuneBenchModel" "events" "[I", Cond.fieldLink RX4 41 "DuneBenchModel" "kindOf" "[I", Cond.fieldLink RX4 44 "DuneBenchModel" "valueOf" "[I", Cond.methodLink RX4 85 yX4_copy, Cond.instanceMethod yX4_copy, Cond.selects RX4 yX4_copy yX4_copy, Cond.code yX4_copy cX4_copy 4 none, Cond.fieldLink RX4 16 "DuneBenchModel" "height" "[I", Cond.fieldLink RX4 20 "DuneBenchModel" "grass" "[I", Cond.fieldLink RX4 23 "DuneBenchModel" "fence" "[I", Cond.fieldLink RX4 26 "DuneBenchModel" "gained" "[I", Cond.fieldLink RX4 29 "DuneBenchModel" "sea" "[I", Cond.fieldLink RX4 32 "DuneBenchModel" "behind" "[I", Cond.methodLink RX4 89 yX4_setFence, Cond.instanceMethod yX4_setFence, Cond.selects RX4 yX4_setFence yX4_setFence, Cond.code yX4_setFence cX4_setFence 2 none, Cond.fieldLink RX4 13 "DuneBenchModel" "size" "I", Cond.methodLink RX4 72 yX4_blow, Cond.instanceMethod yX4_blow, Cond.selects RX4 yX4_blow yX4_blow, Cond.code yX4_blow cX4_blow 8 (some .int)]
def wsX4_crest_r3 : List Cond := [Cond.methodLink RX4 68 yX4_keeps, Cond.instanceMethod yX4_keeps, Cond.selects RX4 yX4_keeps yX4_keeps, Cond.code yX4_keeps cX4_keeps 6 (some .int), Cond.methodLink RX4 75 yX4_flood, Cond.instanceMethod yX4_flood, Cond.selects RX4 yX4_flood yX4_flood, Cond.code yX4_flood cX4_flood 6 (some .int), Cond.methodLink RX4 78 yX4_endYear, Cond.instanceMethod yX4_endYear, Cond.selects RX4 yX4_endYear yX4_endYear, Cond.code yX4_endYear cX4_endYear 5 (some .int), Cond.methodLink RX4 102 yX4_crestOf, Cond.instanceMethod yX4_crestOf, Cond.selects RX4 yX4_crestOf yX4_crestOf, Cond.code yX4_crestOf cX4_crestOf 4 (some .int)]
def wsX4_crest : List Cond := .code yX4_crest cX4_crest 5 (some .int) :: ((wsX4_crest_r1 ++ (wsX4_crest_r2 ++ wsX4_crest_r3)) ++ wsX40)
def wsX4_floods_r1 : List Cond := [Cond.fieldLink RX4 35 "DuneBenchModel" "flooded" "[I", Cond.methodLink RX4 98 yX4_ask, Cond.instanceMethod yX4_ask, Cond.selects RX4 yX4_ask yX4_ask, Cond.initialized RX4, Cond.code yX4_ask cX4_ask 5 (some .boolean), Cond.fieldLink RX4 50 "DuneBenchModel" "fences" "[I", Cond.methodLink RX4 82 yX4_isWeather, Cond.static yX4_isWeather, Cond.code yX4_isWeather cX4_isWeather 1 (some .boolean), Cond.methodLink RX4 60 yX4_in, Cond.static yX4_in, Cond.code yX4_in cX4_in 3 (some .boolean), Cond.methodLink RX4 92 yX4_isFence, Cond.instanceMethod yX4_isFence, Cond.selects RX4 yX4_isFence yX4_isFence, Cond.code yX4_isFence cX4_isFence 2 (some .boolean), Cond.methodLink RX4 64 yX4_isCell, Cond.instanceMethod yX4_isCell, Cond.selects RX4 yX4_isCell yX4_isCell, Cond.code yX4_isCell cX4_isCell 2 (some .boolean), Cond.fieldLink RX4 7 "DuneBenchModel" "n" "I", Cond.methodLink RX4 95 yX4_tryOut, Cond.instanceMethod yX4_tryOut]
def wsX4_floods_r2 : List Cond := [Cond.selects RX4 yX4_tryOut yX4_tryOut, Cond.code yX4_tryOut cX4_tryOut 5 none, Cond.fieldLink RX4 38 "DuneBenchModel" "events" "[I", Cond.fieldLink RX4 41 "DuneBenchModel" "kindOf" "[I", Cond.fieldLink RX4 44 "DuneBenchModel" "valueOf" "[I", Cond.methodLink RX4 85 yX4_copy, Cond.instanceMethod yX4_copy, Cond.selects RX4 yX4_copy yX4_copy, Cond.code yX4_copy cX4_copy 4 none, Cond.fieldLink RX4 16 "DuneBenchModel" "height" "[I", Cond.fieldLink RX4 20 "DuneBenchModel" "grass" "[I", Cond.fieldLink RX4 23 "DuneBenchModel" "fence" "[I", Cond.fieldLink RX4 26 "DuneBenchModel" "gained" "[I", Cond.fieldLink RX4 29 "DuneBenchModel" "sea" "[I", Cond.fieldLink RX4 32 "DuneBenchModel" "behind" "[I", Cond.methodLink RX4 89 yX4_setFence, Cond.instanceMethod yX4_setFence, Cond.selects RX4 yX4_setFence yX4_setFence, Cond.code yX4_setFence cX4_setFence 2 none, Cond.fieldLink RX4 13 "DuneBenchModel" "size" "I", Cond.methodLink RX4 72 yX4_blow, Cond.instanceMethod yX4_blow, Cond.selects RX4 yX4_blow yX4_blow, Cond.code yX4_blow cX4_blow 8 (some .int)]
def wsX4_floods_r3 : List Cond := [Cond.methodLink RX4 68 yX4_keeps, Cond.instanceMethod yX4_keeps, Cond.selects RX4 yX4_keeps yX4_keeps, Cond.code yX4_keeps cX4_keeps 6 (some .int), Cond.methodLink RX4 75 yX4_flood, Cond.instanceMethod yX4_flood, Cond.selects RX4 yX4_flood yX4_flood, Cond.code yX4_flood cX4_flood 6 (some .int), Cond.methodLink RX4 78 yX4_endYear, Cond.instanceMethod yX4_endYear, Cond.selects RX4 yX4_endYear yX4_endYear, Cond.code yX4_endYear cX4_endYear 5 (some .int)]
def wsX4_floods : List Cond := .code yX4_floods cX4_floods 5 (some .int) :: ((wsX4_floods_r1 ++ (wsX4_floods_r2 ++ wsX4_floods_r3)) ++ wsX40)
def wsX4_holds_r1 : List Cond := [Cond.fieldLink RX4 38 "DuneBenchModel" "events" "[I", Cond.fieldLink RX4 35 "DuneBenchModel" "flooded" "[I", Cond.methodLink RX4 95 yX4_tryOut, Cond.instanceMethod yX4_tryOut, Cond.selects RX4 yX4_tryOut yX4_tryOut, Cond.initialized RX4, Cond.code yX4_tryOut cX4_tryOut 5 none, Cond.fieldLink RX4 41 "DuneBenchModel" "kindOf" "[I", Cond.fieldLink RX4 44 "DuneBenchModel" "valueOf" "[I", Cond.methodLink RX4 85 yX4_copy, Cond.instanceMethod yX4_copy, Cond.selects RX4 yX4_copy yX4_copy, Cond.code yX4_copy cX4_copy 4 none, Cond.fieldLink RX4 16 "DuneBenchModel" "height" "[I", Cond.fieldLink RX4 20 "DuneBenchModel" "grass" "[I", Cond.fieldLink RX4 23 "DuneBenchModel" "fence" "[I", Cond.fieldLink RX4 26 "DuneBenchModel" "gained" "[I", Cond.fieldLink RX4 29 "DuneBenchModel" "sea" "[I", Cond.fieldLink RX4 32 "DuneBenchModel" "behind" "[I", Cond.methodLink RX4 89 yX4_setFence, Cond.instanceMethod yX4_setFence, Cond.selects RX4 yX4_setFence yX4_setFence, Cond.code yX4_setFence cX4_setFence 2 none, Cond.fieldLink RX4 50 "DuneBenchModel" "fences" "[I"]
def wsX4_holds_r2 : List Cond := [Cond.fieldLink RX4 13 "DuneBenchModel" "size" "I", Cond.methodLink RX4 72 yX4_blow, Cond.instanceMethod yX4_blow, Cond.selects RX4 yX4_blow yX4_blow, Cond.code yX4_blow cX4_blow 8 (some .int), Cond.fieldLink RX4 7 "DuneBenchModel" "n" "I", Cond.methodLink RX4 68 yX4_keeps, Cond.instanceMethod yX4_keeps, Cond.selects RX4 yX4_keeps yX4_keeps, Cond.code yX4_keeps cX4_keeps 6 (some .int), Cond.methodLink RX4 75 yX4_flood, Cond.instanceMethod yX4_flood, Cond.selects RX4 yX4_flood yX4_flood, Cond.code yX4_flood cX4_flood 6 (some .int), Cond.methodLink RX4 78 yX4_endYear, Cond.instanceMethod yX4_endYear, Cond.selects RX4 yX4_endYear yX4_endYear, Cond.code yX4_endYear cX4_endYear 5 (some .int), Cond.methodLink RX4 60 yX4_in, Cond.static yX4_in, Cond.code yX4_in cX4_in 3 (some .boolean), Cond.methodLink RX4 102 yX4_crestOf, Cond.instanceMethod yX4_crestOf, Cond.selects RX4 yX4_crestOf yX4_crestOf]
def wsX4_holds_r3 : List Cond := [Cond.code yX4_crestOf cX4_crestOf 4 (some .int)]
def wsX4_holds : List Cond := .code yX4_holds cX4_holds 4 (some .int) :: ((wsX4_holds_r1 ++ (wsX4_holds_r2 ++ wsX4_holds_r3)) ++ wsX40)
def wsX4_lay : List Cond := .code yX4_lay cX4_lay 6 (some .int) :: ([.fieldLink RX4 7 "DuneBenchModel" "n" "I", .fieldLink RX4 50 "DuneBenchModel" "fences" "[I"] ++ wsX40)
def wsX4_findPlan_r1 : List Cond := [Cond.fieldLink RX4 7 "DuneBenchModel" "n" "I", Cond.fieldLink RX4 53 "DuneBenchModel" "best" "[I", Cond.fieldLink RX4 50 "DuneBenchModel" "fences" "[I", Cond.methodLink RX4 105 yX4_lay, Cond.instanceMethod yX4_lay, Cond.selects RX4 yX4_lay yX4_lay, Cond.initialized RX4, Cond.code yX4_lay cX4_lay 6 (some .int), Cond.methodLink RX4 108 yX4_holds, Cond.instanceMethod yX4_holds, Cond.selects RX4 yX4_holds yX4_holds, Cond.code yX4_holds cX4_holds 4 (some .int), Cond.fieldLink RX4 38 "DuneBenchModel" "events" "[I", Cond.fieldLink RX4 35 "DuneBenchModel" "flooded" "[I", Cond.methodLink RX4 95 yX4_tryOut, Cond.instanceMethod yX4_tryOut, Cond.selects RX4 yX4_tryOut yX4_tryOut, Cond.code yX4_tryOut cX4_tryOut 5 none, Cond.fieldLink RX4 41 "DuneBenchModel" "kindOf" "[I", Cond.fieldLink RX4 44 "DuneBenchModel" "valueOf" "[I", Cond.methodLink RX4 85 yX4_copy, Cond.instanceMethod yX4_copy, Cond.selects RX4 yX4_copy yX4_copy, Cond.code yX4_copy cX4_copy 4 none]
def wsX4_findPlan_r2 : List Cond := [Cond.fieldLink RX4 16 "DuneBenchModel" "height" "[I", Cond.fieldLink RX4 20 "DuneBenchModel" "grass" "[I", Cond.fieldLink RX4 23 "DuneBenchModel" "fence" "[I", Cond.fieldLink RX4 26 "DuneBenchModel" "gained" "[I", Cond.fieldLink RX4 29 "DuneBenchModel" "sea" "[I", Cond.fieldLink RX4 32 "DuneBenchModel" "behind" "[I", Cond.methodLink RX4 89 yX4_setFence, Cond.instanceMethod yX4_setFence, Cond.selects RX4 yX4_setFence yX4_setFence, Cond.code yX4_setFence cX4_setFence 2 none, Cond.fieldLink RX4 13 "DuneBenchModel" "size" "I", Cond.methodLink RX4 72 yX4_blow, Cond.instanceMethod yX4_blow, Cond.selects RX4 yX4_blow yX4_blow, Cond.code yX4_blow cX4_blow 8 (some .int), Cond.methodLink RX4 68 yX4_keeps, Cond.instanceMethod yX4_keeps, Cond.selects RX4 yX4_keeps yX4_keeps, Cond.code yX4_keeps cX4_keeps 6 (some .int), Cond.methodLink RX4 75 yX4_flood, Cond.instanceMethod yX4_flood, Cond.selects RX4 yX4_flood yX4_flood, Cond.code yX4_flood cX4_flood 6 (some .int), Cond.methodLink RX4 78 yX4_endYear]
def wsX4_findPlan_r3 : List Cond := [Cond.instanceMethod yX4_endYear, Cond.selects RX4 yX4_endYear yX4_endYear, Cond.code yX4_endYear cX4_endYear 5 (some .int), Cond.methodLink RX4 60 yX4_in, Cond.static yX4_in, Cond.code yX4_in cX4_in 3 (some .boolean), Cond.methodLink RX4 102 yX4_crestOf, Cond.instanceMethod yX4_crestOf, Cond.selects RX4 yX4_crestOf yX4_crestOf, Cond.code yX4_crestOf cX4_crestOf 4 (some .int)]
def wsX4_findPlan : List Cond := .code yX4_findPlan cX4_findPlan 6 (some .int) :: ((wsX4_findPlan_r1 ++ (wsX4_findPlan_r2 ++ wsX4_findPlan_r3)) ++ wsX40)
def wsX4_plan_r1 : List Cond := [Cond.fieldLink RX4 53 "DuneBenchModel" "best" "[I", Cond.methodLink RX4 60 yX4_in, Cond.static yX4_in, Cond.initialized RX4, Cond.code yX4_in cX4_in 3 (some .boolean), Cond.methodLink RX4 112 yX4_findPlan, Cond.instanceMethod yX4_findPlan, Cond.selects RX4 yX4_findPlan yX4_findPlan, Cond.code yX4_findPlan cX4_findPlan 6 (some .int), Cond.fieldLink RX4 7 "DuneBenchModel" "n" "I", Cond.fieldLink RX4 50 "DuneBenchModel" "fences" "[I", Cond.methodLink RX4 105 yX4_lay, Cond.instanceMethod yX4_lay, Cond.selects RX4 yX4_lay yX4_lay, Cond.code yX4_lay cX4_lay 6 (some .int), Cond.methodLink RX4 108 yX4_holds, Cond.instanceMethod yX4_holds, Cond.selects RX4 yX4_holds yX4_holds, Cond.code yX4_holds cX4_holds 4 (some .int), Cond.fieldLink RX4 38 "DuneBenchModel" "events" "[I", Cond.fieldLink RX4 35 "DuneBenchModel" "flooded" "[I", Cond.methodLink RX4 95 yX4_tryOut, Cond.instanceMethod yX4_tryOut, Cond.selects RX4 yX4_tryOut yX4_tryOut]
def wsX4_plan_r2 : List Cond := [Cond.code yX4_tryOut cX4_tryOut 5 none, Cond.fieldLink RX4 41 "DuneBenchModel" "kindOf" "[I", Cond.fieldLink RX4 44 "DuneBenchModel" "valueOf" "[I", Cond.methodLink RX4 85 yX4_copy, Cond.instanceMethod yX4_copy, Cond.selects RX4 yX4_copy yX4_copy, Cond.code yX4_copy cX4_copy 4 none, Cond.fieldLink RX4 16 "DuneBenchModel" "height" "[I", Cond.fieldLink RX4 20 "DuneBenchModel" "grass" "[I", Cond.fieldLink RX4 23 "DuneBenchModel" "fence" "[I", Cond.fieldLink RX4 26 "DuneBenchModel" "gained" "[I", Cond.fieldLink RX4 29 "DuneBenchModel" "sea" "[I", Cond.fieldLink RX4 32 "DuneBenchModel" "behind" "[I", Cond.methodLink RX4 89 yX4_setFence, Cond.instanceMethod yX4_setFence, Cond.selects RX4 yX4_setFence yX4_setFence, Cond.code yX4_setFence cX4_setFence 2 none, Cond.fieldLink RX4 13 "DuneBenchModel" "size" "I", Cond.methodLink RX4 72 yX4_blow, Cond.instanceMethod yX4_blow, Cond.selects RX4 yX4_blow yX4_blow, Cond.code yX4_blow cX4_blow 8 (some .int), Cond.methodLink RX4 68 yX4_keeps, Cond.instanceMethod yX4_keeps]
def wsX4_plan_r3 : List Cond := [Cond.selects RX4 yX4_keeps yX4_keeps, Cond.code yX4_keeps cX4_keeps 6 (some .int), Cond.methodLink RX4 75 yX4_flood, Cond.instanceMethod yX4_flood, Cond.selects RX4 yX4_flood yX4_flood, Cond.code yX4_flood cX4_flood 6 (some .int), Cond.methodLink RX4 78 yX4_endYear, Cond.instanceMethod yX4_endYear, Cond.selects RX4 yX4_endYear yX4_endYear, Cond.code yX4_endYear cX4_endYear 5 (some .int), Cond.methodLink RX4 102 yX4_crestOf, Cond.instanceMethod yX4_crestOf, Cond.selects RX4 yX4_crestOf yX4_crestOf, Cond.code yX4_crestOf cX4_crestOf 4 (some .int)]
def wsX4_plan : List Cond := .code yX4_plan cX4_plan 3 (some .int) :: ((wsX4_plan_r1 ++ (wsX4_plan_r2 ++ wsX4_plan_r3)) ++ wsX40)
def wsX4_fences_r1 : List Cond := [Cond.methodLink RX4 60 yX4_in, Cond.static yX4_in, Cond.initialized RX4, Cond.code yX4_in cX4_in 3 (some .boolean), Cond.methodLink RX4 112 yX4_findPlan, Cond.instanceMethod yX4_findPlan, Cond.selects RX4 yX4_findPlan yX4_findPlan, Cond.code yX4_findPlan cX4_findPlan 6 (some .int), Cond.fieldLink RX4 7 "DuneBenchModel" "n" "I", Cond.fieldLink RX4 53 "DuneBenchModel" "best" "[I", Cond.fieldLink RX4 50 "DuneBenchModel" "fences" "[I", Cond.methodLink RX4 105 yX4_lay, Cond.instanceMethod yX4_lay, Cond.selects RX4 yX4_lay yX4_lay, Cond.code yX4_lay cX4_lay 6 (some .int), Cond.methodLink RX4 108 yX4_holds, Cond.instanceMethod yX4_holds, Cond.selects RX4 yX4_holds yX4_holds, Cond.code yX4_holds cX4_holds 4 (some .int), Cond.fieldLink RX4 38 "DuneBenchModel" "events" "[I", Cond.fieldLink RX4 35 "DuneBenchModel" "flooded" "[I", Cond.methodLink RX4 95 yX4_tryOut, Cond.instanceMethod yX4_tryOut, Cond.selects RX4 yX4_tryOut yX4_tryOut]
def wsX4_fences_r2 : List Cond := [Cond.code yX4_tryOut cX4_tryOut 5 none, Cond.fieldLink RX4 41 "DuneBenchModel" "kindOf" "[I", Cond.fieldLink RX4 44 "DuneBenchModel" "valueOf" "[I", Cond.methodLink RX4 85 yX4_copy, Cond.instanceMethod yX4_copy, Cond.selects RX4 yX4_copy yX4_copy, Cond.code yX4_copy cX4_copy 4 none, Cond.fieldLink RX4 16 "DuneBenchModel" "height" "[I", Cond.fieldLink RX4 20 "DuneBenchModel" "grass" "[I", Cond.fieldLink RX4 23 "DuneBenchModel" "fence" "[I", Cond.fieldLink RX4 26 "DuneBenchModel" "gained" "[I", Cond.fieldLink RX4 29 "DuneBenchModel" "sea" "[I", Cond.fieldLink RX4 32 "DuneBenchModel" "behind" "[I", Cond.methodLink RX4 89 yX4_setFence, Cond.instanceMethod yX4_setFence, Cond.selects RX4 yX4_setFence yX4_setFence, Cond.code yX4_setFence cX4_setFence 2 none, Cond.fieldLink RX4 13 "DuneBenchModel" "size" "I", Cond.methodLink RX4 72 yX4_blow, Cond.instanceMethod yX4_blow, Cond.selects RX4 yX4_blow yX4_blow, Cond.code yX4_blow cX4_blow 8 (some .int), Cond.methodLink RX4 68 yX4_keeps, Cond.instanceMethod yX4_keeps]
def wsX4_fences_r3 : List Cond := [Cond.selects RX4 yX4_keeps yX4_keeps, Cond.code yX4_keeps cX4_keeps 6 (some .int), Cond.methodLink RX4 75 yX4_flood, Cond.instanceMethod yX4_flood, Cond.selects RX4 yX4_flood yX4_flood, Cond.code yX4_flood cX4_flood 6 (some .int), Cond.methodLink RX4 78 yX4_endYear, Cond.instanceMethod yX4_endYear, Cond.selects RX4 yX4_endYear yX4_endYear, Cond.code yX4_endYear cX4_endYear 5 (some .int), Cond.methodLink RX4 102 yX4_crestOf, Cond.instanceMethod yX4_crestOf, Cond.selects RX4 yX4_crestOf yX4_crestOf, Cond.code yX4_crestOf cX4_crestOf 4 (some .int)]
def wsX4_fences : List Cond := .code yX4_fences cX4_fences 2 (some .int) :: ((wsX4_fences_r1 ++ (wsX4_fences_r2 ++ wsX4_fences_r3)) ++ wsX40)
def wsX4_most_r1 : List Cond := [Cond.fieldLink RX4 38 "DuneBenchModel" "events" "[I", Cond.fieldLink RX4 7 "DuneBenchModel" "n" "I", Cond.methodLink RX4 105 yX4_lay, Cond.instanceMethod yX4_lay, Cond.selects RX4 yX4_lay yX4_lay, Cond.initialized RX4, Cond.code yX4_lay cX4_lay 6 (some .int), Cond.fieldLink RX4 50 "DuneBenchModel" "fences" "[I", Cond.methodLink RX4 108 yX4_holds, Cond.instanceMethod yX4_holds, Cond.selects RX4 yX4_holds yX4_holds, Cond.code yX4_holds cX4_holds 4 (some .int), Cond.fieldLink RX4 35 "DuneBenchModel" "flooded" "[I", Cond.methodLink RX4 95 yX4_tryOut, Cond.instanceMethod yX4_tryOut, Cond.selects RX4 yX4_tryOut yX4_tryOut, Cond.code yX4_tryOut cX4_tryOut 5 none, Cond.fieldLink RX4 41 "DuneBenchModel" "kindOf" "[I", Cond.fieldLink RX4 44 "DuneBenchModel" "valueOf" "[I", Cond.methodLink RX4 85 yX4_copy, Cond.instanceMethod yX4_copy, Cond.selects RX4 yX4_copy yX4_copy, Cond.code yX4_copy cX4_copy 4 none, Cond.fieldLink RX4 16 "DuneBenchModel" "height" "[I"]
def wsX4_most_r2 : List Cond := [Cond.fieldLink RX4 20 "DuneBenchModel" "grass" "[I", Cond.fieldLink RX4 23 "DuneBenchModel" "fence" "[I", Cond.fieldLink RX4 26 "DuneBenchModel" "gained" "[I", Cond.fieldLink RX4 29 "DuneBenchModel" "sea" "[I", Cond.fieldLink RX4 32 "DuneBenchModel" "behind" "[I", Cond.methodLink RX4 89 yX4_setFence, Cond.instanceMethod yX4_setFence, Cond.selects RX4 yX4_setFence yX4_setFence, Cond.code yX4_setFence cX4_setFence 2 none, Cond.fieldLink RX4 13 "DuneBenchModel" "size" "I", Cond.methodLink RX4 72 yX4_blow, Cond.instanceMethod yX4_blow, Cond.selects RX4 yX4_blow yX4_blow, Cond.code yX4_blow cX4_blow 8 (some .int), Cond.methodLink RX4 68 yX4_keeps, Cond.instanceMethod yX4_keeps, Cond.selects RX4 yX4_keeps yX4_keeps, Cond.code yX4_keeps cX4_keeps 6 (some .int), Cond.methodLink RX4 75 yX4_flood, Cond.instanceMethod yX4_flood, Cond.selects RX4 yX4_flood yX4_flood, Cond.code yX4_flood cX4_flood 6 (some .int), Cond.methodLink RX4 78 yX4_endYear, Cond.instanceMethod yX4_endYear]
def wsX4_most_r3 : List Cond := [Cond.selects RX4 yX4_endYear yX4_endYear, Cond.code yX4_endYear cX4_endYear 5 (some .int), Cond.methodLink RX4 60 yX4_in, Cond.static yX4_in, Cond.code yX4_in cX4_in 3 (some .boolean), Cond.methodLink RX4 102 yX4_crestOf, Cond.instanceMethod yX4_crestOf, Cond.selects RX4 yX4_crestOf yX4_crestOf, Cond.code yX4_crestOf cX4_crestOf 4 (some .int)]
def wsX4_most : List Cond := .code yX4_most cX4_most 5 (some .int) :: ((wsX4_most_r1 ++ (wsX4_most_r2 ++ wsX4_most_r3)) ++ wsX40)
def wsX4_read : List Cond := .code yX4_read cX4_read 4 (some .int) :: ([.fieldLink RX4 47 "DuneBenchModel" "reading" "[I", .methodLink RX4 64 yX4_isCell, .instanceMethod yX4_isCell, .selects RX4 yX4_isCell yX4_isCell, .initialized RX4, .code yX4_isCell cX4_isCell 2 (some .boolean), .fieldLink RX4 7 "DuneBenchModel" "n" "I", .methodLink RX4 60 yX4_in, .static yX4_in, .code yX4_in cX4_in 3 (some .boolean)] ++ wsX40)
def wsX4_take : List Cond := .code yX4_take cX4_take 3 (some .int) :: ([.fieldLink RX4 7 "DuneBenchModel" "n" "I", .fieldLink RX4 47 "DuneBenchModel" "reading" "[I", .fieldLink RX4 16 "DuneBenchModel" "height" "[I"] ++ wsX40)
def wsX4_readings : List Cond := .code yX4_readings cX4_readings 3 (some .int) :: ([.fieldLink RX4 7 "DuneBenchModel" "n" "I", .fieldLink RX4 47 "DuneBenchModel" "reading" "[I"] ++ wsX40)
def wsX4_levelOf : List Cond := .code yX4_levelOf cX4_levelOf 4 (some .int) :: ([.fieldLink RX4 47 "DuneBenchModel" "reading" "[I", .fieldLink RX4 7 "DuneBenchModel" "n" "I"] ++ wsX40)
def wsX4_volumeNow : List Cond := .code yX4_volumeNow cX4_volumeNow 3 (some .int) :: ([.fieldLink RX4 7 "DuneBenchModel" "n" "I", .methodLink RX4 115 yX4_levelOf, .instanceMethod yX4_levelOf, .selects RX4 yX4_levelOf yX4_levelOf, .initialized RX4, .code yX4_levelOf cX4_levelOf 4 (some .int), .fieldLink RX4 47 "DuneBenchModel" "reading" "[I"] ++ wsX40)
def wsX4_part : List Cond := .code yX4_part cX4_part 5 (some .int) :: ([])
def wsX4_level : List Cond := .code yX4_level cX4_level 3 (some .int) :: ([.methodLink RX4 64 yX4_isCell, .instanceMethod yX4_isCell, .selects RX4 yX4_isCell yX4_isCell, .initialized RX4, .code yX4_isCell cX4_isCell 2 (some .boolean), .fieldLink RX4 7 "DuneBenchModel" "n" "I", .methodLink RX4 60 yX4_in, .static yX4_in, .code yX4_in cX4_in 3 (some .boolean), .methodLink RX4 118 yX4_readings, .instanceMethod yX4_readings, .selects RX4 yX4_readings yX4_readings, .code yX4_readings cX4_readings 3 (some .int), .fieldLink RX4 47 "DuneBenchModel" "reading" "[I", .methodLink RX4 115 yX4_levelOf, .instanceMethod yX4_levelOf, .selects RX4 yX4_levelOf yX4_levelOf, .code yX4_levelOf cX4_levelOf 4 (some .int), .methodLink RX4 121 yX4_part, .static yX4_part, .code yX4_part cX4_part 5 (some .int)] ++ wsX40)
def wsX4_volume : List Cond := .code yX4_volume cX4_volume 2 (some .int) :: ([.methodLink RX4 60 yX4_in, .static yX4_in, .initialized RX4, .code yX4_in cX4_in 3 (some .boolean), .methodLink RX4 118 yX4_readings, .instanceMethod yX4_readings, .selects RX4 yX4_readings yX4_readings, .code yX4_readings cX4_readings 3 (some .int), .fieldLink RX4 7 "DuneBenchModel" "n" "I", .fieldLink RX4 47 "DuneBenchModel" "reading" "[I", .methodLink RX4 124 yX4_volumeNow, .instanceMethod yX4_volumeNow, .selects RX4 yX4_volumeNow yX4_volumeNow, .code yX4_volumeNow cX4_volumeNow 3 (some .int), .methodLink RX4 115 yX4_levelOf, .instanceMethod yX4_levelOf, .selects RX4 yX4_levelOf yX4_levelOf, .code yX4_levelOf cX4_levelOf 4 (some .int), .methodLink RX4 121 yX4_part, .static yX4_part, .code yX4_part cX4_part 5 (some .int)] ++ wsX40)
def wsX4_doubt : List Cond := .code yX4_doubt cX4_doubt 7 (some .int) :: ([.fieldLink RX4 7 "DuneBenchModel" "n" "I", .fieldLink RX4 47 "DuneBenchModel" "reading" "[I", .methodLink RX4 60 yX4_in, .static yX4_in, .initialized RX4, .code yX4_in cX4_in 3 (some .boolean), .methodLink RX4 118 yX4_readings, .instanceMethod yX4_readings, .selects RX4 yX4_readings yX4_readings, .code yX4_readings cX4_readings 3 (some .int), .methodLink RX4 124 yX4_volumeNow, .instanceMethod yX4_volumeNow, .selects RX4 yX4_volumeNow yX4_volumeNow, .code yX4_volumeNow cX4_volumeNow 3 (some .int), .methodLink RX4 115 yX4_levelOf, .instanceMethod yX4_levelOf, .selects RX4 yX4_levelOf yX4_levelOf, .code yX4_levelOf cX4_levelOf 4 (some .int), .methodLink RX4 121 yX4_part, .static yX4_part, .code yX4_part cX4_part 5 (some .int)] ++ wsX40)
def wsX4_sand : List Cond := .code yX4_sand cX4_sand 3 (some .int) :: ([.fieldLink RX4 7 "DuneBenchModel" "n" "I", .fieldLink RX4 16 "DuneBenchModel" "height" "[I"] ++ wsX40)
def wsX4_many : List Cond := .code yX4_many cX4_many 2 (some .int) :: ([.fieldLink RX4 7 "DuneBenchModel" "n" "I", .fieldLink RX4 29 "DuneBenchModel" "sea" "[I", .fieldLink RX4 32 "DuneBenchModel" "behind" "[I", .fieldLink RX4 35 "DuneBenchModel" "flooded" "[I", .fieldLink RX4 38 "DuneBenchModel" "events" "[I", .methodLink RX4 127 yX4_sand, .instanceMethod yX4_sand, .selects RX4 yX4_sand yX4_sand, .initialized RX4, .code yX4_sand cX4_sand 3 (some .int), .fieldLink RX4 16 "DuneBenchModel" "height" "[I", .methodLink RX4 102 yX4_crestOf, .instanceMethod yX4_crestOf, .selects RX4 yX4_crestOf yX4_crestOf, .code yX4_crestOf cX4_crestOf 4 (some .int), .methodLink RX4 118 yX4_readings, .instanceMethod yX4_readings, .selects RX4 yX4_readings yX4_readings, .code yX4_readings cX4_readings 3 (some .int), .fieldLink RX4 47 "DuneBenchModel" "reading" "[I"] ++ wsX40)
def wsX4_keep : List Cond := .code yX4_keep cX4_keep 1 (some .int) :: ([.fieldLink RX4 7 "DuneBenchModel" "n" "I", .fieldLink RX4 130 "DuneBenchModel" "keptN" "I", .methodLink RX4 85 yX4_copy, .instanceMethod yX4_copy, .selects RX4 yX4_copy yX4_copy, .initialized RX4, .code yX4_copy cX4_copy 4 none, .fieldLink RX4 16 "DuneBenchModel" "height" "[I", .fieldLink RX4 20 "DuneBenchModel" "grass" "[I", .fieldLink RX4 23 "DuneBenchModel" "fence" "[I", .fieldLink RX4 26 "DuneBenchModel" "gained" "[I", .fieldLink RX4 29 "DuneBenchModel" "sea" "[I", .fieldLink RX4 32 "DuneBenchModel" "behind" "[I", .fieldLink RX4 35 "DuneBenchModel" "flooded" "[I"] ++ wsX40)
def wsX4_back : List Cond := .code yX4_back cX4_back 1 (some .int) :: ([.fieldLink RX4 130 "DuneBenchModel" "keptN" "I", .fieldLink RX4 7 "DuneBenchModel" "n" "I", .methodLink RX4 85 yX4_copy, .instanceMethod yX4_copy, .selects RX4 yX4_copy yX4_copy, .initialized RX4, .code yX4_copy cX4_copy 4 none, .fieldLink RX4 16 "DuneBenchModel" "height" "[I", .fieldLink RX4 20 "DuneBenchModel" "grass" "[I", .fieldLink RX4 23 "DuneBenchModel" "fence" "[I", .fieldLink RX4 26 "DuneBenchModel" "gained" "[I", .fieldLink RX4 29 "DuneBenchModel" "sea" "[I", .fieldLink RX4 32 "DuneBenchModel" "behind" "[I", .fieldLink RX4 35 "DuneBenchModel" "flooded" "[I"] ++ wsX40)
def wsJ9_abs_0f7a4 : List Cond := .code yJ9_abs_0f7a4 cJ9_abs_0f7a4 1 (some .int) :: ([])
def wsJ9_max_7cf53 : List Cond := .code yJ9_max_7cf53 cJ9_max_7cf53 2 (some .int) :: ([])
def wsJ9_min_7cf53 : List Cond := .code yJ9_min_7cf53 cJ9_min_7cf53 2 (some .int) :: ([])
abbrev vwCl : List vw_C := [(RX0, TX0, 8), (RX1, TX1, 1), (RX2, TX2, 3), (RX3, TX3, 8), (RX4, TX4, 16)]
