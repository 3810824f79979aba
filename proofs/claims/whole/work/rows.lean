section
-- ===== PART A: goes FIRST, ahead of the names: the tables' words, and 'selects' of the private methods out of them =====
/-- a private method of a class that the tables say can be made, by its rows of tables_1 -/
def lw_okq (q : MethodName × Nat) : Prop := (q.1.cls ≠ "java/lang/invoke/MethodHandle" ∧ q.1.cls ≠ "java/lang/invoke/VarHandle") ∧ Cond.instantiable q.1.cls q.2 ∈ tables_1 ∧ Cond.privateMethod q.1 ∈ tables_1 ∧ Cond.instanceMethod q.1 ∈ tables_1
theorem lw_p0 : lw_okq (⟨"DuneBench$Coast", "hold", "(II)I"⟩, 8) := ⟨⟨by decide +kernel, by decide +kernel⟩, List.mem_of_getElem? (i := 16) (by decide +kernel), List.mem_of_getElem? (i := 160) (by decide +kernel), List.mem_of_getElem? (i := 161) (by decide +kernel)⟩
theorem lw_p1 : lw_okq (⟨"DuneBench$Coast", "washOut", "(II)V"⟩, 8) := ⟨⟨by decide +kernel, by decide +kernel⟩, List.mem_of_getElem? (i := 16) (by decide +kernel), List.mem_of_getElem? (i := 172) (by decide +kernel), List.mem_of_getElem? (i := 173) (by decide +kernel)⟩
theorem lw_p2 : lw_okq (⟨"DuneBench", "tryOut", "(IIII)Z"⟩, 8) := ⟨⟨by decide +kernel, by decide +kernel⟩, List.mem_of_getElem? (i := 8) (by decide +kernel), List.mem_of_getElem? (i := 222) (by decide +kernel), List.mem_of_getElem? (i := 223) (by decide +kernel)⟩
theorem lw_p3 : lw_okq (⟨"DuneBench", "isCellOrNone", "(I)Z"⟩, 8) := ⟨⟨by decide +kernel, by decide +kernel⟩, List.mem_of_getElem? (i := 8) (by decide +kernel), List.mem_of_getElem? (i := 226) (by decide +kernel), List.mem_of_getElem? (i := 227) (by decide +kernel)⟩
theorem lw_p4 : lw_okq (⟨"DuneBench", "play", "(I)V"⟩, 8) := ⟨⟨by decide +kernel, by decide +kernel⟩, List.mem_of_getElem? (i := 8) (by decide +kernel), List.mem_of_getElem? (i := 230) (by decide +kernel), List.mem_of_getElem? (i := 231) (by decide +kernel)⟩
theorem lw_p5 : lw_okq (⟨"DuneBench", "beginYear", "(I)V"⟩, 8) := ⟨⟨by decide +kernel, by decide +kernel⟩, List.mem_of_getElem? (i := 8) (by decide +kernel), List.mem_of_getElem? (i := 238) (by decide +kernel), List.mem_of_getElem? (i := 239) (by decide +kernel)⟩
theorem lw_p6 : lw_okq (⟨"DuneBench", "findPlan", "(I)Z"⟩, 8) := ⟨⟨by decide +kernel, by decide +kernel⟩, List.mem_of_getElem? (i := 8) (by decide +kernel), List.mem_of_getElem? (i := 257) (by decide +kernel), List.mem_of_getElem? (i := 258) (by decide +kernel)⟩
theorem lw_p7 : lw_okq (⟨"DuneBench$Weathers", "yearEnds", "(I)I"⟩, 3) := ⟨⟨by decide +kernel, by decide +kernel⟩, List.mem_of_getElem? (i := 58) (by decide +kernel), List.mem_of_getElem? (i := 265) (by decide +kernel), List.mem_of_getElem? (i := 266) (by decide +kernel)⟩
theorem lw_p8 : lw_okq (⟨"DuneBench", "choosePlan", "(II)Z"⟩, 8) := ⟨⟨by decide +kernel, by decide +kernel⟩, List.mem_of_getElem? (i := 8) (by decide +kernel), List.mem_of_getElem? (i := 270) (by decide +kernel), List.mem_of_getElem? (i := 271) (by decide +kernel)⟩
theorem lw_p9 : lw_okq (⟨"DuneBench", "plannedFences", "()I"⟩, 8) := ⟨⟨by decide +kernel, by decide +kernel⟩, List.mem_of_getElem? (i := 8) (by decide +kernel), List.mem_of_getElem? (i := 274) (by decide +kernel), List.mem_of_getElem? (i := 275) (by decide +kernel)⟩
theorem lw_p10 : lw_okq (⟨"DuneBench", "worstCrest", "(I)I"⟩, 8) := ⟨⟨by decide +kernel, by decide +kernel⟩, List.mem_of_getElem? (i := 8) (by decide +kernel), List.mem_of_getElem? (i := 278) (by decide +kernel), List.mem_of_getElem? (i := 279) (by decide +kernel)⟩
theorem lw_p11 : lw_okq (⟨"DuneBench$Survey", "nearest", "(IIII)I"⟩, 1) := ⟨⟨by decide +kernel, by decide +kernel⟩, List.mem_of_getElem? (i := 79) (by decide +kernel), List.mem_of_getElem? (i := 323) (by decide +kernel), List.mem_of_getElem? (i := 324) (by decide +kernel)⟩
theorem lw_p12 : lw_okq (⟨"DuneBenchModel", "begin", "(I)V"⟩, 16) := ⟨⟨by decide +kernel, by decide +kernel⟩, List.mem_of_getElem? (i := 368) (by decide +kernel), List.mem_of_getElem? (i := 374) (by decide +kernel), List.mem_of_getElem? (i := 375) (by decide +kernel)⟩
theorem lw_p13 : lw_okq (⟨"DuneBenchModel", "isCell", "(I)Z"⟩, 16) := ⟨⟨by decide +kernel, by decide +kernel⟩, List.mem_of_getElem? (i := 368) (by decide +kernel), List.mem_of_getElem? (i := 438) (by decide +kernel), List.mem_of_getElem? (i := 439) (by decide +kernel)⟩
theorem lw_p14 : lw_okq (⟨"DuneBenchModel", "blow", "(II)I"⟩, 16) := ⟨⟨by decide +kernel, by decide +kernel⟩, List.mem_of_getElem? (i := 368) (by decide +kernel), List.mem_of_getElem? (i := 450) (by decide +kernel), List.mem_of_getElem? (i := 451) (by decide +kernel)⟩
theorem lw_p15 : lw_okq (⟨"DuneBenchModel", "keeps", "(II)I"⟩, 16) := ⟨⟨by decide +kernel, by decide +kernel⟩, List.mem_of_getElem? (i := 368) (by decide +kernel), List.mem_of_getElem? (i := 454) (by decide +kernel), List.mem_of_getElem? (i := 455) (by decide +kernel)⟩
def lw_privs_1 : List (MethodName × Nat) := [(⟨"DuneBench$Coast", "hold", "(II)I"⟩, 8), (⟨"DuneBench$Coast", "washOut", "(II)V"⟩, 8), (⟨"DuneBench", "tryOut", "(IIII)Z"⟩, 8), (⟨"DuneBench", "isCellOrNone", "(I)Z"⟩, 8), (⟨"DuneBench", "play", "(I)V"⟩, 8), (⟨"DuneBench", "beginYear", "(I)V"⟩, 8), (⟨"DuneBench", "findPlan", "(I)Z"⟩, 8), (⟨"DuneBench$Weathers", "yearEnds", "(I)I"⟩, 3), (⟨"DuneBench", "choosePlan", "(II)Z"⟩, 8), (⟨"DuneBench", "plannedFences", "()I"⟩, 8), (⟨"DuneBench", "worstCrest", "(I)I"⟩, 8), (⟨"DuneBench$Survey", "nearest", "(IIII)I"⟩, 1), (⟨"DuneBenchModel", "begin", "(I)V"⟩, 16), (⟨"DuneBenchModel", "isCell", "(I)Z"⟩, 16), (⟨"DuneBenchModel", "blow", "(II)I"⟩, 16), (⟨"DuneBenchModel", "keeps", "(II)I"⟩, 16)]
theorem lw_r1 : ∀ q ∈ lw_privs_1, lw_okq q := List.forall_mem_cons.mpr ⟨lw_p0, List.forall_mem_cons.mpr ⟨lw_p1, List.forall_mem_cons.mpr ⟨lw_p2, List.forall_mem_cons.mpr ⟨lw_p3, List.forall_mem_cons.mpr ⟨lw_p4, List.forall_mem_cons.mpr ⟨lw_p5, List.forall_mem_cons.mpr ⟨lw_p6, List.forall_mem_cons.mpr ⟨lw_p7, List.forall_mem_cons.mpr ⟨lw_p8, List.forall_mem_cons.mpr ⟨lw_p9, List.forall_mem_cons.mpr ⟨lw_p10, List.forall_mem_cons.mpr ⟨lw_p11, List.forall_mem_cons.mpr ⟨lw_p12, List.forall_mem_cons.mpr ⟨lw_p13, List.forall_mem_cons.mpr ⟨lw_p14, List.forall_mem_cons.mpr ⟨lw_p15, fun _ h => absurd h List.not_mem_nil⟩⟩⟩⟩⟩⟩⟩⟩⟩⟩⟩⟩⟩⟩⟩⟩
theorem lw_p16 : lw_okq (⟨"DuneBenchModel", "flood", "(II)I"⟩, 16) := ⟨⟨by decide +kernel, by decide +kernel⟩, List.mem_of_getElem? (i := 368) (by decide +kernel), List.mem_of_getElem? (i := 462) (by decide +kernel), List.mem_of_getElem? (i := 463) (by decide +kernel)⟩
theorem lw_p17 : lw_okq (⟨"DuneBenchModel", "endYear", "(I)I"⟩, 16) := ⟨⟨by decide +kernel, by decide +kernel⟩, List.mem_of_getElem? (i := 368) (by decide +kernel), List.mem_of_getElem? (i := 470) (by decide +kernel), List.mem_of_getElem? (i := 471) (by decide +kernel)⟩
theorem lw_p18 : lw_okq (⟨"DuneBenchModel", "ask", "(IIII)Z"⟩, 16) := ⟨⟨by decide +kernel, by decide +kernel⟩, List.mem_of_getElem? (i := 368) (by decide +kernel), List.mem_of_getElem? (i := 497) (by decide +kernel), List.mem_of_getElem? (i := 498) (by decide +kernel)⟩
theorem lw_p19 : lw_okq (⟨"DuneBenchModel", "isFence", "(I)Z"⟩, 16) := ⟨⟨by decide +kernel, by decide +kernel⟩, List.mem_of_getElem? (i := 368) (by decide +kernel), List.mem_of_getElem? (i := 501) (by decide +kernel), List.mem_of_getElem? (i := 502) (by decide +kernel)⟩
theorem lw_p20 : lw_okq (⟨"DuneBenchModel", "tryOut", "(I)V"⟩, 16) := ⟨⟨by decide +kernel, by decide +kernel⟩, List.mem_of_getElem? (i := 368) (by decide +kernel), List.mem_of_getElem? (i := 505) (by decide +kernel), List.mem_of_getElem? (i := 506) (by decide +kernel)⟩
theorem lw_p21 : lw_okq (⟨"DuneBenchModel", "copy", "(II)V"⟩, 16) := ⟨⟨by decide +kernel, by decide +kernel⟩, List.mem_of_getElem? (i := 368) (by decide +kernel), List.mem_of_getElem? (i := 509) (by decide +kernel), List.mem_of_getElem? (i := 510) (by decide +kernel)⟩
theorem lw_p22 : lw_okq (⟨"DuneBenchModel", "setFence", "(I)V"⟩, 16) := ⟨⟨by decide +kernel, by decide +kernel⟩, List.mem_of_getElem? (i := 368) (by decide +kernel), List.mem_of_getElem? (i := 513) (by decide +kernel), List.mem_of_getElem? (i := 514) (by decide +kernel)⟩
theorem lw_p23 : lw_okq (⟨"DuneBenchModel", "crestOf", "(I)I"⟩, 16) := ⟨⟨by decide +kernel, by decide +kernel⟩, List.mem_of_getElem? (i := 368) (by decide +kernel), List.mem_of_getElem? (i := 517) (by decide +kernel), List.mem_of_getElem? (i := 518) (by decide +kernel)⟩
theorem lw_p24 : lw_okq (⟨"DuneBenchModel", "findPlan", "(I)I"⟩, 16) := ⟨⟨by decide +kernel, by decide +kernel⟩, List.mem_of_getElem? (i := 368) (by decide +kernel), List.mem_of_getElem? (i := 529) (by decide +kernel), List.mem_of_getElem? (i := 530) (by decide +kernel)⟩
theorem lw_p25 : lw_okq (⟨"DuneBenchModel", "lay", "(I)I"⟩, 16) := ⟨⟨by decide +kernel, by decide +kernel⟩, List.mem_of_getElem? (i := 368) (by decide +kernel), List.mem_of_getElem? (i := 533) (by decide +kernel), List.mem_of_getElem? (i := 534) (by decide +kernel)⟩
theorem lw_p26 : lw_okq (⟨"DuneBenchModel", "holds", "()I"⟩, 16) := ⟨⟨by decide +kernel, by decide +kernel⟩, List.mem_of_getElem? (i := 368) (by decide +kernel), List.mem_of_getElem? (i := 537) (by decide +kernel), List.mem_of_getElem? (i := 538) (by decide +kernel)⟩
theorem lw_p27 : lw_okq (⟨"DuneBenchModel", "readings", "()I"⟩, 16) := ⟨⟨by decide +kernel, by decide +kernel⟩, List.mem_of_getElem? (i := 368) (by decide +kernel), List.mem_of_getElem? (i := 561) (by decide +kernel), List.mem_of_getElem? (i := 562) (by decide +kernel)⟩
theorem lw_p28 : lw_okq (⟨"DuneBenchModel", "levelOf", "(I)I"⟩, 16) := ⟨⟨by decide +kernel, by decide +kernel⟩, List.mem_of_getElem? (i := 368) (by decide +kernel), List.mem_of_getElem? (i := 565) (by decide +kernel), List.mem_of_getElem? (i := 566) (by decide +kernel)⟩
theorem lw_p29 : lw_okq (⟨"DuneBenchModel", "volumeNow", "()I"⟩, 16) := ⟨⟨by decide +kernel, by decide +kernel⟩, List.mem_of_getElem? (i := 368) (by decide +kernel), List.mem_of_getElem? (i := 576) (by decide +kernel), List.mem_of_getElem? (i := 577) (by decide +kernel)⟩
theorem lw_p30 : lw_okq (⟨"DuneBenchModel", "sand", "()I"⟩, 16) := ⟨⟨by decide +kernel, by decide +kernel⟩, List.mem_of_getElem? (i := 368) (by decide +kernel), List.mem_of_getElem? (i := 588) (by decide +kernel), List.mem_of_getElem? (i := 589) (by decide +kernel)⟩
def lw_privs_2 : List (MethodName × Nat) := [(⟨"DuneBenchModel", "flood", "(II)I"⟩, 16), (⟨"DuneBenchModel", "endYear", "(I)I"⟩, 16), (⟨"DuneBenchModel", "ask", "(IIII)Z"⟩, 16), (⟨"DuneBenchModel", "isFence", "(I)Z"⟩, 16), (⟨"DuneBenchModel", "tryOut", "(I)V"⟩, 16), (⟨"DuneBenchModel", "copy", "(II)V"⟩, 16), (⟨"DuneBenchModel", "setFence", "(I)V"⟩, 16), (⟨"DuneBenchModel", "crestOf", "(I)I"⟩, 16), (⟨"DuneBenchModel", "findPlan", "(I)I"⟩, 16), (⟨"DuneBenchModel", "lay", "(I)I"⟩, 16), (⟨"DuneBenchModel", "holds", "()I"⟩, 16), (⟨"DuneBenchModel", "readings", "()I"⟩, 16), (⟨"DuneBenchModel", "levelOf", "(I)I"⟩, 16), (⟨"DuneBenchModel", "volumeNow", "()I"⟩, 16), (⟨"DuneBenchModel", "sand", "()I"⟩, 16)]
theorem lw_r2 : ∀ q ∈ lw_privs_2, lw_okq q := List.forall_mem_cons.mpr ⟨lw_p16, List.forall_mem_cons.mpr ⟨lw_p17, List.forall_mem_cons.mpr ⟨lw_p18, List.forall_mem_cons.mpr ⟨lw_p19, List.forall_mem_cons.mpr ⟨lw_p20, List.forall_mem_cons.mpr ⟨lw_p21, List.forall_mem_cons.mpr ⟨lw_p22, List.forall_mem_cons.mpr ⟨lw_p23, List.forall_mem_cons.mpr ⟨lw_p24, List.forall_mem_cons.mpr ⟨lw_p25, List.forall_mem_cons.mpr ⟨lw_p26, List.forall_mem_cons.mpr ⟨lw_p27, List.forall_mem_cons.mpr ⟨lw_p28, List.forall_mem_cons.mpr ⟨lw_p29, List.forall_mem_cons.mpr ⟨lw_p30, fun _ h => absurd h List.not_mem_nil⟩⟩⟩⟩⟩⟩⟩⟩⟩⟩⟩⟩⟩⟩⟩
def lw_privs : List (MethodName × Nat) := lw_privs_1 ++ (lw_privs_2)
def lw_tbl : List Cond := k2_sels lw_privs ++ tables_1
theorem lw_privs_ok : ∀ q ∈ lw_privs, lw_okq q := by
  show ∀ q ∈ lw_privs_1 ++ (lw_privs_2), lw_okq q
  exact List.forall_mem_append.mpr ⟨lw_r1, lw_r2⟩
end
section
/-! ===== BEGIN words of one list among another's, by their places ===== -/
theorem goodIn_r {big : List Cond} (ws : List Cond) (ps : List Nat) (hp : ws = ps.filterMap (fun i => big[i]?)) (h : ws.all goodWord = true) : GoodIn big ws := by
  intro w hw
  have h1 := List.all_eq_true.mp h w hw
  rw [hp] at hw
  obtain ⟨i, -, hi⟩ := List.mem_filterMap.mp hw
  have hm : w ∈ big := by first | exact List.mem_of_getElem? hi | exact List.getElem?_mem hi
  exact ⟨hm, good_of_word h1⟩
theorem goodIn_app {big a b : List Cond} (ha : GoodIn big a) (hb : GoodIn big b) : GoodIn big (a ++ b) := fun w h => (List.mem_append.mp h).elim (ha w) (hb w)
theorem goodIn_ca {big a b : List Cond} {c : Cond} (ha : GoodIn big (c :: a)) (hb : GoodIn big b) : GoodIn big (c :: (a ++ b)) := fun w h => (List.mem_cons.mp h).elim (fun e => ha w (List.mem_cons.mpr (Or.inl e))) (fun h => (List.mem_append.mp h).elim (fun h => ha w (List.mem_cons.mpr (Or.inr h))) (hb w))
theorem goodIn_sub {big ws : List Cond} (hm : ∀ w ∈ ws, w ∈ big) (h : ws.all goodWord = true) : GoodIn big ws := fun w hw => ⟨hm w hw, good_of_word (List.all_eq_true.mp h w hw)⟩
/-! ===== END ===== -/

/-! ===== BEGIN new T[n][m]: the outer array a place, the inner ones among the pooled ===== -/
/-- f, but v at every address of l -/
def vr_up {α : Type} (f : Nat → α) (l : List Nat) (v : α) : Nat → α := fun a => if a ∈ l then v else f a
theorem vr_up_in {α : Type} {f : Nat → α} {l : List Nat} {v : α} {a : Nat} (h : a ∈ l) : vr_up f l v a = v := if_pos h
theorem vr_up_ne {α : Type} {f : Nat → α} {l : List Nat} {v : α} {a : Nat} (h : a ∉ l) : vr_up f l v a = f a := if_neg h
theorem vr_rows {L l : List Nat} {f : Nat → va_E} {e : va_E} (h : ∀ a, a ∈ l → a ∉ L) : va_pl L f ++ l.map (fun a => (a, e)) = va_pl (L ++ l) (vr_up f l e) := by
  unfold va_pl
  rw [List.map_append]
  congr 1
  · apply List.map_congr_left
    intro a ha
    rw [vr_up_ne (fun q => h a q ha)]
  · apply List.map_congr_left
    intro a ha
    rw [vr_up_in ha]
theorem vr_lay {X rows : va_W} {x : Nat × va_E} {pl : va_W} {D : va_G} {cl : List vw_C} {H : Heap} (hP : va_P D cl (((X ++ pl) ++ [x]) ++ rows) H) : va_P D cl ((X ++ [x]) ++ (pl ++ rows)) H := by
  rw [List.append_assoc (X ++ pl)] at hP
  have h := va_P.swap hP
  rw [← List.append_assoc X] at h
  have h2 := va_P.swap h
  rw [List.append_assoc (X ++ [x])] at h2
  exact h2
theorem vr_layD {X rows : va_W} {x : Nat × va_E} {pl : va_W} {A : Nat → Prop} (hD : va_D A (((X ++ pl) ++ [x]) ++ rows)) : va_D A ((X ++ [x]) ++ (pl ++ rows)) := by
  rw [List.append_assoc (X ++ pl)] at hD
  have h := va_D.swap hD
  rw [← List.append_assoc X] at h
  have h2 := va_D.swap h
  rw [List.append_assoc (X ++ [x])] at h2
  exact h2
theorem vr_outer (c : ClassId) (N h0 : Nat) : ∀ i : Nat, Jvm.Free.Multi.outerC c N h0 i = arrV c N (fun j => va_rf (if j < i then some (h0 + 1 + j) else none))
  | 0 => by
    show ({ cls := c, slots := Array.replicate N .null, vm := .none } : Cell) = _
    rw [arrV_new]
    refine congrArg (arrV c N) (funext fun j => ?_)
    simp [va_rf]
  | i + 1 => by
    show (Jvm.Free.Multi.outerC c N h0 i).setSlot i (.ref (h0 + 1 + i)) = _
    rw [vr_outer c N h0 i, arrV_store]
    refine congrArg (arrV c N) (funext fun j => ?_)
    by_cases e : j = i
    · subst e
      simp [updV, va_rf]
    · by_cases h : j < i
      · simp [updV, e, h, Nat.lt_succ_of_lt h]
      · simp [updV, e, h, show ¬ j < i + 1 by omega]
/-- an array class over arrays, as the tables say it -/
def va_AOA (ty : FieldType) (U : State) : Prop := (Cond.arrayOver (.array ty)).before #[] U = true
theorem va_AOA.of {ty : FieldType} {A : Array Value} {U : State} (h : (Cond.arrayOver (.array ty)).before A U = true) : va_AOA ty U := h
theorem va_AOA.use {ty : FieldType} {A : Array Value} {U : State} (h : va_AOA ty U) : (Cond.arrayOver (.array ty)).before A U = true := h
section VGM
variable {p : Program} {l : Launch} {e : Env} {R : Room} {s : State} {m : MethodId} {args : Array Value} {below : List Frame} {meth : Method} {c : Code} {H : Heap} {locs : List Loc} {cells slots : Nat} {Q : State → Prop}
variable {cc : ByteArray} {pc : Nat} {ls : Array Slot} {rest : List Value} {D : va_G} {cl : List vw_C} {A : Nat → Prop} {a : Nat} {tys : List (ClassId × FieldType)} {ws : va_W} {H0 : Heap}
theorem va_mna {X : va_W} {L : List Nat} {f : Nat → va_E} {cc : ByteArray} (hexec : p.tables.exec = Jvm.exec) (hb : c.code = cc) {own : String} {index : Nat} {ty : FieldType} {cy : ClassId} (hown : s.vm.findClass own = some m.cls) (hclink : (Cond.classLink own index ("[" ++ (FieldType.array ty).toString)).before args s = true) (hover : va_AOA ty s) (harr : (Cond.arrayClass ty).before args s = true) (hcy : s.vm.findClass (FieldType.array ty).toString = some cy)
    (hK : va_K D cl tys s) (hP : va_P D cl (X ++ va_pl L f) H) (hD : va_D A (X ++ va_pl L f)) (hS : va_S A H0 H locs) (hA : ∀ q, H0.size ≤ q → A q) {n k : Int32} {N' K' : Nat} {z : vp_A} (hn : ¬ n < 0) (hk : ¬ k < 0) (hN : n.toNatClampNeg = N') (hM : k.toNatClampNeg = K')
    (hb1 : N' * 4 ≤ 536870912) (hb2 : K' * componentBytes ty ≤ 536870912) (hb3 : K' ≤ 536870912) (hdf : fits ty (defaultValue ty) = true) (hdd : (defaultValue ty).isDefault = true) (hcells : cells + (1 + N') ≤ R.cells) (hslots : slots + (N' + N' * K') ≤ R.slots) (hz : ∀ c : ClassId, Jvm.Free.Multi.innerC c K' (defaultValue ty) = vp_cell c z) (hdg : decode cc pc = .ok (.multianewarray index 2, 4))
    (kk : ∀ (q : Nat) (r : Nat → Nat) (cA : ClassId) (H1 : Heap), (∀ i j : Nat, i < N' → j < N' → r i = r j → i = j) → (∀ i : Nat, i < N' → r i ∉ L) → va_K D cl (tys ++ [(cA, .array ty)]) s →
      va_P D cl ((X ++ [(q, .inl (cA, N', .inr (.inr (.inr (.inr (fun i => if i < N' then some (r i) else none))))))]) ++ va_pl (L ++ (List.range N').map r) (vr_up f ((List.range N').map r) (.inl (cy, z)))) H1 → va_D A ((X ++ [(q, .inl (cA, N', .inr (.inr (.inr (.inr (fun i => if i < N' then some (r i) else none))))))]) ++ va_pl (L ++ (List.range N').map r) (vr_up f ((List.range N').map r) (.inl (cy, z)))) → va_S A H0 H1 locs →
      W p l e R s m args below meth c H1 locs (cells + 1 + N') (slots + N' + N' * K') Q (F0 m (pc + 4) ls (.ref q :: rest))) : W p l e R s m args below meth c H locs cells slots Q (F0 m pc ls (.int k :: .int n :: rest)) := by
  subst hN
  subst hM
  intro T hT Xs
  obtain ⟨vm₁, cA, comp, -, fA, fC, hO, -, X', step⟩ := Xs.multianewarray2F hexec hown hclink (va_AOA.use hover) harr (g := F0 m pc ls (.int k :: .int n :: rest)) rfl (by rw [hb]; exact hdg) rfl hn hk hb1 hb2 hb3 hdf hdd hcells hslots
  have ec : some cy = some comp := hcy.symm.trans fC
  cases ec
  generalize hF : Jvm.Free.Multi.fill (T.setVm vm₁) cA cy n.toNatClampNeg k.toNatClampNeg (defaultValue ty) n.toNatClampNeg = F at X' step
  have hTh : (T.setVm vm₁).heap = H := hT
  obtain ⟨f1, f2, -, -⟩ := Jvm.Free.Multi.fill_facts (T.setVm vm₁) cA cy n.toNatClampNeg k.toNatClampNeg (defaultValue ty) n.toNatClampNeg
  rw [hF, hTh] at f1 f2
  have hold : ∀ x : Nat, x < H.size → F.heap[x]? = H[x]? := fun x hx => by
    have := Jvm.Free.Multi.fill_old (T.setVm vm₁) cA cy n.toNatClampNeg k.toNatClampNeg (defaultValue ty) (a := x) (by rw [hTh]; exact hx) n.toNatClampNeg
    rw [hF, hTh] at this
    exact this
  have hrow : ∀ j : Nat, j < n.toNatClampNeg → F.heap[H.size + 1 + j]? = some (vp_cell cy z) := fun j hj => by
    have := Jvm.Free.Multi.fill_inner (T.setVm vm₁) cA cy n.toNatClampNeg k.toNatClampNeg (defaultValue ty) n.toNatClampNeg j hj
    rw [hF, hTh, hz] at this
    exact this
  have hout : Jvm.Free.Multi.outerC cA n.toNatClampNeg H.size n.toNatClampNeg = vp_cell cA (n.toNatClampNeg, .inr (.inr (.inr (.inr (fun i => if i < n.toNatClampNeg then some (H.size + 1 + i) else none))))) := by
    rw [vp_cell_q]
    exact vr_outer cA n.toNatClampNeg H.size n.toNatClampNeg
  rw [hout] at f2
  have hlt : ∀ a, a ∈ L → a < H.size := fun a ha => by
    obtain ⟨k9, hk9⟩ := va_pl_get (X := X) (f := f) ha
    exact (hP k9 _ hk9).lt
  have hnl : ∀ i : Nat, i < n.toNatClampNeg → H.size + 1 + i ∉ L := fun i _ h => by
    have := hlt _ h
    omega
  have hnm : ∀ a, a ∈ (List.range n.toNatClampNeg).map (fun i => H.size + 1 + i) → a ∉ L := fun a ha h => by
    obtain ⟨i, -, rfl⟩ := List.mem_map.mp ha
    have := hlt _ h
    omega
  have hP0 : va_P D cl (X ++ va_pl L f) F.heap := hP.kept (fun k9 x hx => hold x.1 ((hP k9 x hx).lt))
  have hP1 : va_P D cl ((X ++ va_pl L f) ++ [(H.size, .inl (cA, n.toNatClampNeg, .inr (.inr (.inr (.inr (fun i => if i < n.toNatClampNeg then some (H.size + 1 + i) else none))))))]) F.heap := hP0.app (fun k9 x hx => by
    have h0 : k9 < 1 := (List.getElem?_eq_some_iff.mp hx).1
    rw [show k9 = 0 by omega] at hx
    cases hx
    exact f2)
  have hP2 : va_P D cl (((X ++ va_pl L f) ++ [(H.size, .inl (cA, n.toNatClampNeg, .inr (.inr (.inr (.inr (fun i => if i < n.toNatClampNeg then some (H.size + 1 + i) else none))))))]) ++ ((List.range n.toNatClampNeg).map (fun i => H.size + 1 + i)).map (fun a => (a, .inl (cy, z)))) F.heap := hP1.app (fun k9 x hx => by
    obtain ⟨a, ha, rfl⟩ := List.mem_map.mp (List.mem_of_getElem? hx)
    obtain ⟨i, hi, rfl⟩ := List.mem_map.mp ha
    exact hrow i (List.mem_range.mp hi))
  have hD2 : va_D A (((X ++ va_pl L f) ++ [(H.size, .inl (cA, n.toNatClampNeg, .inr (.inr (.inr (.inr (fun i => if i < n.toNatClampNeg then some (H.size + 1 + i) else none))))))]) ++ ((List.range n.toNatClampNeg).map (fun i => H.size + 1 + i)).map (fun a => (a, .inl (cy, z)))) := by
    have hD1 := hD.push (e := .inl (cA, n.toNatClampNeg, .inr (.inr (.inr (.inr (fun i => if i < n.toNatClampNeg then some (H.size + 1 + i) else none)))))) hP rfl (hA _ hS.1)
    generalize hW1 : (X ++ va_pl L f) ++ [(H.size, .inl (cA, n.toNatClampNeg, .inr (.inr (.inr (.inr (fun i => if i < n.toNatClampNeg then some (H.size + 1 + i) else none))))))] = W1 at hD1 hP1 ⊢
    have hle : ∀ (k9 : Nat) (x : Nat × va_E), W1[k9]? = some x → x.1 ≤ H.size := fun k9 x hx => by
      rw [← hW1] at hx
      by_cases hl : k9 < (X ++ va_pl L f).length
      · rw [List.getElem?_append_left hl] at hx
        exact Nat.le_of_lt ((hP k9 x hx).lt)
      · rw [List.getElem?_append_right (by omega)] at hx
        have h0 : k9 - (X ++ va_pl L f).length < 1 := (List.getElem?_eq_some_iff.mp hx).1
        rw [show k9 - (X ++ va_pl L f).length = 0 by omega] at hx
        cases hx
        exact Nat.le_refl _
    have hr : ∀ (k9 : Nat) (x : Nat × va_E), (((List.range n.toNatClampNeg).map (fun i => H.size + 1 + i)).map (fun a => ((a, .inl (cy, z)) : Nat × va_E)))[k9]? = some x → x.1 = H.size + 1 + k9 := fun k9 x hx => by
      rw [List.getElem?_map, List.getElem?_map] at hx
      by_cases h9 : k9 < n.toNatClampNeg
      · rw [List.getElem?_range h9] at hx
        cases hx
        rfl
      · have hn0 : (List.range n.toNatClampNeg)[k9]? = none := List.getElem?_eq_none (by rw [List.length_range]; omega)
        rw [hn0] at hx
        cases hx
    refine ⟨fun i j x y hi hj hxy => ?_, fun k9 x hx => ?_⟩
    · by_cases h1 : i < W1.length <;> by_cases h2 : j < W1.length
      · rw [List.getElem?_append_left h1] at hi
        rw [List.getElem?_append_left h2] at hj
        exact hD1.1 i j x y hi hj hxy
      · rw [List.getElem?_append_left h1] at hi
        rw [List.getElem?_append_right (by omega)] at hj
        have := hle _ _ hi
        have := hr _ _ hj
        omega
      · rw [List.getElem?_append_right (by omega)] at hi
        rw [List.getElem?_append_left h2] at hj
        have := hle _ _ hj
        have := hr _ _ hi
        omega
      · rw [List.getElem?_append_right (by omega)] at hi hj
        have := hr _ _ hi
        have := hr _ _ hj
        omega
    · by_cases h1 : k9 < W1.length
      · rw [List.getElem?_append_left h1] at hx
        exact hD1.2 k9 x hx
      · rw [List.getElem?_append_right (by omega)] at hx
        have := hr _ _ hx
        exact hA _ (by have := hS.1; omega)
  have hAr : ArrOfT s cA (.array ty) := fun N9 z9 => by
    obtain ⟨-, k9, hk9, cm9, hkk9⟩ := (hO 0 0 0).1
    exact ⟨(fun q hq => by cases hq), k9, hk9, cm9, hkk9⟩
  have hK2 : va_K D cl (tys ++ [(cA, .array ty)]) s := ⟨hK.1, fun k9 x hx => by
    by_cases hl : k9 < tys.length
    · rw [List.getElem?_append_left hl] at hx
      exact hK.2 k9 x hx
    · rw [List.getElem?_append_right (by omega)] at hx
      have h0 : k9 - tys.length < 1 := (List.getElem?_eq_some_iff.mp hx).1
      rw [show k9 - tys.length = 0 by omega] at hx
      cases hx
      exact ⟨hAr, fA⟩⟩
  obtain ⟨t, a1, b1⟩ := kk H.size (fun i => H.size + 1 + i) cA F.heap (fun i j _ _ h => by have h9 : H.size + 1 + i = H.size + 1 + j := h; omega) hnl hK2 (by rw [← vr_rows hnm]; exact vr_lay hP2) (by rw [← vr_rows hnm]; exact vr_layD hD2) ⟨by rw [f1]; have := hS.1; omega, fun x h1 h2 => (hold x (Nat.lt_of_lt_of_le h1 hS.1)).trans (hS.2.1 x h1 h2), hS.2.2⟩ F rfl X'
  refine ⟨t, step t ?_, b1⟩
  have e : T.heap.size = H.size := by rw [hT]
  rw [e]
  exact a1
end VGM
/-! ===== END ===== -/

/-! ===== BEGIN printed: names, fields, word lists, decode rows ===== -/
def RX0 : String := "DuneBench$Coast"
def TX0 : u_T := fun k => match k with
  | 0 => ("DuneBench$Coast", "cells", "I", false)
  | 1 => ("DuneBench$Coast", "height", "[I", true)
  | 2 => ("DuneBench$Coast", "grass", "[I", true)
  | 3 => ("DuneBench$Coast", "fence", "[I", true)
  | 4 => ("DuneBench$Coast", "kept", "[I", true)
  | 5 => ("DuneBench$Coast", "sea", "I", false)
  | 6 => ("DuneBench$Coast", "behind", "I", false)
  | _ => ("DuneBench$Coast", "flooded", "I", false)
def tyX0 : Nat → FieldType := fun k => match k with
  | 0 => .int
  | 1 => .array .int
  | 2 => .array .int
  | 3 => .array .int
  | 4 => .array .int
  | 5 => .int
  | 6 => .int
  | _ => .int
abbrev wsX00 : List Cond := u_ws RX0 TX0 8
theorem nmX0 : ∀ a, a < 8 → ∀ b, b < 8 → a ≠ b → (TX0 a).2.1 ≠ (TX0 b).2.1 := by decide +kernel
theorem tyX0_ok : ∀ k, k < 8 → parseFieldDescriptor (TX0 k).2.2.1 = some (tyX0 k) := by decide +kernel
abbrev cX0_init : ByteArray := prog_2_method_1_code
def yX0_init : MethodName := ⟨RX0, "<init>", "()V"⟩
abbrev cX0_renew : ByteArray := prog_2_method_2_code
def yX0_renew : MethodName := ⟨RX0, "renew", "(I)V"⟩
abbrev cX0_copyFrom : ByteArray := prog_2_method_3_code
def yX0_copyFrom : MethodName := ⟨RX0, "copyFrom", "(LDuneBench$Coast;)V"⟩
abbrev cX0_has : ByteArray := prog_2_method_4_code
def yX0_has : MethodName := ⟨RX0, "has", "(I)Z"⟩
abbrev cX0_row : ByteArray := prog_2_method_5_code
def yX0_row : MethodName := ⟨RX0, "row", "(I)[I"⟩
abbrev cX0_blow : ByteArray := prog_2_method_6_code
def yX0_blow : MethodName := ⟨RX0, "blow", "(I)I"⟩
abbrev cX0_hold : ByteArray := prog_2_method_7_code
def yX0_hold : MethodName := ⟨RX0, "hold", "(II)I"⟩
abbrev cX0_surge : ByteArray := prog_2_method_8_code
def yX0_surge : MethodName := ⟨RX0, "surge", "(I)I"⟩
abbrev cX0_washOut : ByteArray := prog_2_method_9_code
def yX0_washOut : MethodName := ⟨RX0, "washOut", "(II)V"⟩
abbrev cX0_endYear : ByteArray := prog_2_method_10_code
def yX0_endYear : MethodName := ⟨RX0, "endYear", "()I"⟩
abbrev cX0_nextGrass : ByteArray := prog_2_method_11_code
def yX0_nextGrass : MethodName := ⟨RX0, "nextGrass", "(II)I"⟩
abbrev cX0_addSand : ByteArray := prog_2_method_12_code
def yX0_addSand : MethodName := ⟨RX0, "addSand", "(I)I"⟩
abbrev cX0_heightsTogether : ByteArray := prog_2_method_13_code
def yX0_heightsTogether : MethodName := ⟨RX0, "heightsTogether", "()I"⟩
abbrev cX0_greatestHeight : ByteArray := prog_2_method_14_code
def yX0_greatestHeight : MethodName := ⟨RX0, "greatestHeight", "()I"⟩
def RX1 : String := "DuneBench$Survey"
def TX1 : u_T := fun k => match k with
  | _ => ("DuneBench$Survey", "reading", "[I", true)
def tyX1 : Nat → FieldType := fun k => match k with
  | _ => .array .int
abbrev wsX10 : List Cond := u_ws RX1 TX1 1
theorem nmX1 : ∀ a, a < 1 → ∀ b, b < 1 → a ≠ b → (TX1 a).2.1 ≠ (TX1 b).2.1 := by decide +kernel
theorem tyX1_ok : ∀ k, k < 1 → parseFieldDescriptor (TX1 k).2.2.1 = some (tyX1 k) := by decide +kernel
abbrev cX1_init : ByteArray := prog_3_method_1_code
def yX1_init : MethodName := ⟨RX1, "<init>", "()V"⟩
abbrev cX1_forget : ByteArray := prog_3_method_2_code
def yX1_forget : MethodName := ⟨RX1, "forget", "()V"⟩
abbrev cX1_put : ByteArray := prog_3_method_3_code
def yX1_put : MethodName := ⟨RX1, "put", "(II)I"⟩
abbrev cX1_readings : ByteArray := prog_3_method_4_code
def yX1_readings : MethodName := ⟨RX1, "readings", "()I"⟩
abbrev cX1_nearest : ByteArray := prog_3_method_5_code
def yX1_nearest : MethodName := ⟨RX1, "nearest", "(IIII)I"⟩
abbrev cX1_scaledLevel : ByteArray := prog_3_method_6_code
def yX1_scaledLevel : MethodName := ⟨RX1, "scaledLevel", "(III)I"⟩
abbrev cX1_scaledVolume : ByteArray := prog_3_method_7_code
def yX1_scaledVolume : MethodName := ⟨RX1, "scaledVolume", "(II)I"⟩
abbrev cX1_scaledDoubt : ByteArray := prog_3_method_8_code
def yX1_scaledDoubt : MethodName := ⟨RX1, "scaledDoubt", "(I)I"⟩
def RX2 : String := "DuneBench$Weathers"
def TX2 : u_T := fun k => match k with
  | 0 => ("DuneBench$Weathers", "count", "[I", true)
  | 1 => ("DuneBench$Weathers", "kind", "[[I", true)
  | _ => ("DuneBench$Weathers", "value", "[[I", true)
def tyX2 : Nat → FieldType := fun k => match k with
  | 0 => .array .int
  | 1 => .array (.array .int)
  | _ => .array (.array .int)
abbrev wsX20 : List Cond := u_ws RX2 TX2 3
theorem nmX2 : ∀ a, a < 3 → ∀ b, b < 3 → a ≠ b → (TX2 a).2.1 ≠ (TX2 b).2.1 := by decide +kernel
theorem tyX2_ok : ∀ k, k < 3 → parseFieldDescriptor (TX2 k).2.2.1 = some (tyX2 k) := by decide +kernel
abbrev cX2_init : ByteArray := prog_4_method_1_code
def yX2_init : MethodName := ⟨RX2, "<init>", "()V"⟩
abbrev cX2_add : ByteArray := prog_4_method_2_code
def yX2_add : MethodName := ⟨RX2, "add", "(III)I"⟩
abbrev cX2_any : ByteArray := prog_4_method_3_code
def yX2_any : MethodName := ⟨RX2, "any", "()Z"⟩
abbrev cX2_lastYear : ByteArray := prog_4_method_4_code
def yX2_lastYear : MethodName := ⟨RX2, "lastYear", "()I"⟩
abbrev cX2_yearEnds : ByteArray := prog_4_method_5_code
def yX2_yearEnds : MethodName := ⟨RX2, "yearEnds", "(I)I"⟩
def RX3 : String := "DuneBench"
def TX3 : u_T := fun k => match k with
  | 0 => ("DuneBench", "shore", "LDuneBench$Coast;", true)
  | 1 => ("DuneBench", "trial", "LDuneBench$Coast;", true)
  | 2 => ("DuneBench", "saved", "LDuneBench$Coast;", true)
  | 3 => ("DuneBench", "isSaved", "Z", false)
  | 4 => ("DuneBench", "weathers", "LDuneBench$Weathers;", true)
  | 5 => ("DuneBench", "survey", "LDuneBench$Survey;", true)
  | 6 => ("DuneBench", "fenceSize", "I", false)
  | _ => ("DuneBench", "planCells", "[I", true)
def tyX3 : Nat → FieldType := fun k => match k with
  | 0 => .object "DuneBench$Coast"
  | 1 => .object "DuneBench$Coast"
  | 2 => .object "DuneBench$Coast"
  | 3 => .boolean
  | 4 => .object "DuneBench$Weathers"
  | 5 => .object "DuneBench$Survey"
  | 6 => .int
  | _ => .array .int
abbrev wsX30 : List Cond := u_ws RX3 TX3 8
theorem nmX3 : ∀ a, a < 8 → ∀ b, b < 8 → a ≠ b → (TX3 a).2.1 ≠ (TX3 b).2.1 := by decide +kernel
theorem tyX3_ok : ∀ k, k < 8 → parseFieldDescriptor (TX3 k).2.2.1 = some (tyX3 k) := by decide +kernel
abbrev cX3_init : ByteArray := prog_1_method_1_code
def yX3_init : MethodName := ⟨RX3, "<init>", "()V"⟩
abbrev cX3_coast : ByteArray := prog_1_method_2_code
def yX3_coast : MethodName := ⟨RX3, "coast", "(I)I"⟩
abbrev cX3_set : ByteArray := prog_1_method_3_code
def yX3_set : MethodName := ⟨RX3, "set", "(III)I"⟩
abbrev cX3_of : ByteArray := prog_1_method_4_code
def yX3_of : MethodName := ⟨RX3, "of", "(II)I"⟩
abbrev cX3_wind : ByteArray := prog_1_method_5_code
def yX3_wind : MethodName := ⟨RX3, "wind", "(I)I"⟩
abbrev cX3_storm : ByteArray := prog_1_method_6_code
def yX3_storm : MethodName := ⟨RX3, "storm", "(I)I"⟩
abbrev cX3_end : ByteArray := prog_1_method_7_code
def yX3_end : MethodName := ⟨RX3, "end", "()I"⟩
abbrev cX3_nourish : ByteArray := prog_1_method_8_code
def yX3_nourish : MethodName := ⟨RX3, "nourish", "(I)I"⟩
abbrev cX3_event : ByteArray := prog_1_method_9_code
def yX3_event : MethodName := ⟨RX3, "event", "(III)I"⟩
abbrev cX3_calm : ByteArray := prog_1_method_10_code
def yX3_calm : MethodName := ⟨RX3, "calm", "(I)I"⟩
abbrev cX3_size : ByteArray := prog_1_method_11_code
def yX3_size : MethodName := ⟨RX3, "size", "(I)I"⟩
abbrev cX3_crest : ByteArray := prog_1_method_12_code
def yX3_crest : MethodName := ⟨RX3, "crest", "(IIII)I"⟩
abbrev cX3_floods : ByteArray := prog_1_method_13_code
def yX3_floods : MethodName := ⟨RX3, "floods", "(IIII)I"⟩
abbrev cX3_plan : ByteArray := prog_1_method_14_code
def yX3_plan : MethodName := ⟨RX3, "plan", "(II)I"⟩
abbrev cX3_fences : ByteArray := prog_1_method_15_code
def yX3_fences : MethodName := ⟨RX3, "fences", "(I)I"⟩
abbrev cX3_most : ByteArray := prog_1_method_16_code
def yX3_most : MethodName := ⟨RX3, "most", "()I"⟩
abbrev cX3_read : ByteArray := prog_1_method_17_code
def yX3_read : MethodName := ⟨RX3, "read", "(II)I"⟩
abbrev cX3_take : ByteArray := prog_1_method_18_code
def yX3_take : MethodName := ⟨RX3, "take", "()I"⟩
abbrev cX3_level : ByteArray := prog_1_method_19_code
def yX3_level : MethodName := ⟨RX3, "level", "(II)I"⟩
abbrev cX3_volume : ByteArray := prog_1_method_20_code
def yX3_volume : MethodName := ⟨RX3, "volume", "(I)I"⟩
abbrev cX3_doubt : ByteArray := prog_1_method_21_code
def yX3_doubt : MethodName := ⟨RX3, "doubt", "(I)I"⟩
abbrev cX3_many : ByteArray := prog_1_method_22_code
def yX3_many : MethodName := ⟨RX3, "many", "(I)I"⟩
abbrev cX3_keep : ByteArray := prog_1_method_23_code
def yX3_keep : MethodName := ⟨RX3, "keep", "()I"⟩
abbrev cX3_back : ByteArray := prog_1_method_24_code
def yX3_back : MethodName := ⟨RX3, "back", "()I"⟩
abbrev cX3_isWithin : ByteArray := prog_1_method_25_code
def yX3_isWithin : MethodName := ⟨RX3, "isWithin", "(III)Z"⟩
abbrev cX3_mostOf : ByteArray := prog_1_method_26_code
def yX3_mostOf : MethodName := ⟨RX3, "mostOf", "(I)I"⟩
abbrev cX3_isWeather : ByteArray := prog_1_method_27_code
def yX3_isWeather : MethodName := ⟨RX3, "isWeather", "(I)Z"⟩
abbrev cX3_isEvent : ByteArray := prog_1_method_28_code
def yX3_isEvent : MethodName := ⟨RX3, "isEvent", "(II)Z"⟩
abbrev cX3_isAim : ByteArray := prog_1_method_29_code
def yX3_isAim : MethodName := ⟨RX3, "isAim", "(I)Z"⟩
abbrev cX3_isFractionPart : ByteArray := prog_1_method_30_code
def yX3_isFractionPart : MethodName := ⟨RX3, "isFractionPart", "(I)Z"⟩
abbrev cX3_isCellOrNone : ByteArray := prog_1_method_31_code
def yX3_isCellOrNone : MethodName := ⟨RX3, "isCellOrNone", "(I)Z"⟩
abbrev cX3_tryOut : ByteArray := prog_1_method_32_code
def yX3_tryOut : MethodName := ⟨RX3, "tryOut", "(IIII)Z"⟩
abbrev cX3_play : ByteArray := prog_1_method_33_code
def yX3_play : MethodName := ⟨RX3, "play", "(I)V"⟩
abbrev cX3_beginYear : ByteArray := prog_1_method_34_code
def yX3_beginYear : MethodName := ⟨RX3, "beginYear", "(I)V"⟩
abbrev cX3_findPlan : ByteArray := prog_1_method_35_code
def yX3_findPlan : MethodName := ⟨RX3, "findPlan", "(I)Z"⟩
abbrev cX3_choosePlan : ByteArray := prog_1_method_36_code
def yX3_choosePlan : MethodName := ⟨RX3, "choosePlan", "(II)Z"⟩
abbrev cX3_plannedFences : ByteArray := prog_1_method_37_code
def yX3_plannedFences : MethodName := ⟨RX3, "plannedFences", "()I"⟩
abbrev cX3_worstCrest : ByteArray := prog_1_method_38_code
def yX3_worstCrest : MethodName := ⟨RX3, "worstCrest", "(I)I"⟩
abbrev cX3_cleared : ByteArray := prog_1_method_39_code
def yX3_cleared : MethodName := ⟨RX3, "cleared", "(II)I"⟩
def RX4 : String := "DuneBenchModel"
def TX4 : u_T := fun k => match k with
  | 0 => ("DuneBenchModel", "n", "I", false)
  | 1 => ("DuneBenchModel", "keptN", "I", false)
  | 2 => ("DuneBenchModel", "size", "I", false)
  | 3 => ("DuneBenchModel", "height", "[I", true)
  | 4 => ("DuneBenchModel", "grass", "[I", true)
  | 5 => ("DuneBenchModel", "fence", "[I", true)
  | 6 => ("DuneBenchModel", "gained", "[I", true)
  | 7 => ("DuneBenchModel", "sea", "[I", true)
  | 8 => ("DuneBenchModel", "behind", "[I", true)
  | 9 => ("DuneBenchModel", "flooded", "[I", true)
  | 10 => ("DuneBenchModel", "events", "[I", true)
  | 11 => ("DuneBenchModel", "kindOf", "[I", true)
  | 12 => ("DuneBenchModel", "valueOf", "[I", true)
  | 13 => ("DuneBenchModel", "reading", "[I", true)
  | 14 => ("DuneBenchModel", "fences", "[I", true)
  | _ => ("DuneBenchModel", "best", "[I", true)
def tyX4 : Nat → FieldType := fun k => match k with
  | 0 => .int
  | 1 => .int
  | 2 => .int
  | 3 => .array .int
  | 4 => .array .int
  | 5 => .array .int
  | 6 => .array .int
  | 7 => .array .int
  | 8 => .array .int
  | 9 => .array .int
  | 10 => .array .int
  | 11 => .array .int
  | 12 => .array .int
  | 13 => .array .int
  | 14 => .array .int
  | _ => .array .int
abbrev wsX40 : List Cond := u_ws RX4 TX4 16
theorem nmX4 : ∀ a, a < 16 → ∀ b, b < 16 → a ≠ b → (TX4 a).2.1 ≠ (TX4 b).2.1 := by decide +kernel
theorem tyX4_ok : ∀ k, k < 16 → parseFieldDescriptor (TX4 k).2.2.1 = some (tyX4 k) := by decide +kernel
abbrev cX4_init : ByteArray := prog_6_method_1_code
def yX4_init : MethodName := ⟨RX4, "<init>", "()V"⟩
abbrev cX4_in : ByteArray := prog_6_method_2_code
def yX4_in : MethodName := ⟨RX4, "in", "(III)Z"⟩
abbrev cX4_isCell : ByteArray := prog_6_method_3_code
def yX4_isCell : MethodName := ⟨RX4, "isCell", "(I)Z"⟩
abbrev cX4_isWeather : ByteArray := prog_6_method_4_code
def yX4_isWeather : MethodName := ⟨RX4, "isWeather", "(I)Z"⟩
abbrev cX4_begin : ByteArray := prog_6_method_5_code
def yX4_begin : MethodName := ⟨RX4, "begin", "(I)V"⟩
abbrev cX4_copy : ByteArray := prog_6_method_6_code
def yX4_copy : MethodName := ⟨RX4, "copy", "(II)V"⟩
abbrev cX4_coast : ByteArray := prog_6_method_7_code
def yX4_coast : MethodName := ⟨RX4, "coast", "(I)I"⟩
abbrev cX4_set : ByteArray := prog_6_method_8_code
def yX4_set : MethodName := ⟨RX4, "set", "(III)I"⟩
abbrev cX4_of : ByteArray := prog_6_method_9_code
def yX4_of : MethodName := ⟨RX4, "of", "(II)I"⟩
abbrev cX4_keeps : ByteArray := prog_6_method_10_code
def yX4_keeps : MethodName := ⟨RX4, "keeps", "(II)I"⟩
abbrev cX4_blow : ByteArray := prog_6_method_11_code
def yX4_blow : MethodName := ⟨RX4, "blow", "(II)I"⟩
abbrev cX4_flood : ByteArray := prog_6_method_12_code
def yX4_flood : MethodName := ⟨RX4, "flood", "(II)I"⟩
abbrev cX4_endYear : ByteArray := prog_6_method_13_code
def yX4_endYear : MethodName := ⟨RX4, "endYear", "(I)I"⟩
abbrev cX4_wind : ByteArray := prog_6_method_14_code
def yX4_wind : MethodName := ⟨RX4, "wind", "(I)I"⟩
abbrev cX4_storm : ByteArray := prog_6_method_15_code
def yX4_storm : MethodName := ⟨RX4, "storm", "(I)I"⟩
abbrev cX4_end : ByteArray := prog_6_method_16_code
def yX4_end : MethodName := ⟨RX4, "end", "()I"⟩
abbrev cX4_nourish : ByteArray := prog_6_method_17_code
def yX4_nourish : MethodName := ⟨RX4, "nourish", "(I)I"⟩
abbrev cX4_event : ByteArray := prog_6_method_18_code
def yX4_event : MethodName := ⟨RX4, "event", "(III)I"⟩
abbrev cX4_calm : ByteArray := prog_6_method_19_code
def yX4_calm : MethodName := ⟨RX4, "calm", "(I)I"⟩
abbrev cX4_size : ByteArray := prog_6_method_20_code
def yX4_size : MethodName := ⟨RX4, "size", "(I)I"⟩
abbrev cX4_setFence : ByteArray := prog_6_method_21_code
def yX4_setFence : MethodName := ⟨RX4, "setFence", "(I)V"⟩
abbrev cX4_tryOut : ByteArray := prog_6_method_22_code
def yX4_tryOut : MethodName := ⟨RX4, "tryOut", "(I)V"⟩
abbrev cX4_crestOf : ByteArray := prog_6_method_23_code
def yX4_crestOf : MethodName := ⟨RX4, "crestOf", "(I)I"⟩
abbrev cX4_isFence : ByteArray := prog_6_method_24_code
def yX4_isFence : MethodName := ⟨RX4, "isFence", "(I)Z"⟩
abbrev cX4_ask : ByteArray := prog_6_method_25_code
def yX4_ask : MethodName := ⟨RX4, "ask", "(IIII)Z"⟩
abbrev cX4_crest : ByteArray := prog_6_method_26_code
def yX4_crest : MethodName := ⟨RX4, "crest", "(IIII)I"⟩
abbrev cX4_floods : ByteArray := prog_6_method_27_code
def yX4_floods : MethodName := ⟨RX4, "floods", "(IIII)I"⟩
abbrev cX4_holds : ByteArray := prog_6_method_28_code
def yX4_holds : MethodName := ⟨RX4, "holds", "()I"⟩
abbrev cX4_lay : ByteArray := prog_6_method_29_code
def yX4_lay : MethodName := ⟨RX4, "lay", "(I)I"⟩
abbrev cX4_findPlan : ByteArray := prog_6_method_30_code
def yX4_findPlan : MethodName := ⟨RX4, "findPlan", "(I)I"⟩
abbrev cX4_plan : ByteArray := prog_6_method_31_code
def yX4_plan : MethodName := ⟨RX4, "plan", "(II)I"⟩
abbrev cX4_fences : ByteArray := prog_6_method_32_code
def yX4_fences : MethodName := ⟨RX4, "fences", "(I)I"⟩
abbrev cX4_most : ByteArray := prog_6_method_33_code
def yX4_most : MethodName := ⟨RX4, "most", "()I"⟩
abbrev cX4_read : ByteArray := prog_6_method_34_code
def yX4_read : MethodName := ⟨RX4, "read", "(II)I"⟩
abbrev cX4_take : ByteArray := prog_6_method_35_code
def yX4_take : MethodName := ⟨RX4, "take", "()I"⟩
abbrev cX4_readings : ByteArray := prog_6_method_36_code
def yX4_readings : MethodName := ⟨RX4, "readings", "()I"⟩
abbrev cX4_levelOf : ByteArray := prog_6_method_37_code
def yX4_levelOf : MethodName := ⟨RX4, "levelOf", "(I)I"⟩
abbrev cX4_volumeNow : ByteArray := prog_6_method_38_code
def yX4_volumeNow : MethodName := ⟨RX4, "volumeNow", "()I"⟩
abbrev cX4_part : ByteArray := prog_6_method_39_code
def yX4_part : MethodName := ⟨RX4, "part", "(II)I"⟩
abbrev cX4_level : ByteArray := prog_6_method_40_code
def yX4_level : MethodName := ⟨RX4, "level", "(II)I"⟩
abbrev cX4_volume : ByteArray := prog_6_method_41_code
def yX4_volume : MethodName := ⟨RX4, "volume", "(I)I"⟩
abbrev cX4_doubt : ByteArray := prog_6_method_42_code
def yX4_doubt : MethodName := ⟨RX4, "doubt", "(I)I"⟩
abbrev cX4_sand : ByteArray := prog_6_method_43_code
def yX4_sand : MethodName := ⟨RX4, "sand", "()I"⟩
abbrev cX4_many : ByteArray := prog_6_method_44_code
def yX4_many : MethodName := ⟨RX4, "many", "(I)I"⟩
abbrev cX4_keep : ByteArray := prog_6_method_45_code
def yX4_keep : MethodName := ⟨RX4, "keep", "()I"⟩
abbrev cX4_back : ByteArray := prog_6_method_46_code
def yX4_back : MethodName := ⟨RX4, "back", "()I"⟩
def RJ9 : String := "java/lang/Math"
def TJ9 : u_T := fun k => match k with
  | _ => ("", "", "", false)
def tyJ9 : Nat → FieldType := fun k => match k with
  | _ => .int
abbrev wsJ90 : List Cond := u_ws RJ9 TJ9 0
theorem nmJ9 : ∀ a, a < 0 → ∀ b, b < 0 → a ≠ b → (TJ9 a).2.1 ≠ (TJ9 b).2.1 := by decide +kernel
theorem tyJ9_ok : ∀ k, k < 0 → parseFieldDescriptor (TJ9 k).2.2.1 = some (tyJ9 k) := by decide +kernel
abbrev cJ9_abs_0f7a4 : ByteArray := prog_7_method_59_code
def yJ9_abs_0f7a4 : MethodName := ⟨RJ9, "abs", "(I)I"⟩
abbrev cJ9_max_7cf53 : ByteArray := prog_7_method_65_code
def yJ9_max_7cf53 : MethodName := ⟨RJ9, "max", "(II)I"⟩
abbrev cJ9_min_7cf53 : ByteArray := prog_7_method_69_code
def yJ9_min_7cf53 : MethodName := ⟨RJ9, "min", "(II)I"⟩
def RL : String := "DuneBenchLaw"
abbrev cL_law : ByteArray := code
def yL_law : MethodName := ⟨RL, "law", "([I)Z"⟩
def wsX0_renew : List Cond := .code yX0_renew cX0_renew 3 none :: ([.fieldLink RX0 28 "DuneBench$Coast" "cells" "I", .fieldLink RX0 9 "DuneBench$Coast" "height" "[I", .fieldLink RX0 15 "DuneBench$Coast" "grass" "[I", .fieldLink RX0 18 "DuneBench$Coast" "fence" "[I", .fieldLink RX0 21 "DuneBench$Coast" "kept" "[I", .fieldLink RX0 32 "DuneBench$Coast" "sea" "I", .fieldLink RX0 35 "DuneBench$Coast" "behind" "I", .fieldLink RX0 38 "DuneBench$Coast" "flooded" "I"] ++ wsX00)
def wsX0_init : List Cond := .code yX0_init cX0_init 1 none :: ([.methodLink RX0 3 objectInit, .instanceMethod objectInit, .code objectInit ⟨#[0xb1]⟩ 1 none, .arrayClass .int, .fieldLink RX0 9 "DuneBench$Coast" "height" "[I", .fieldLink RX0 15 "DuneBench$Coast" "grass" "[I", .fieldLink RX0 18 "DuneBench$Coast" "fence" "[I", .fieldLink RX0 21 "DuneBench$Coast" "kept" "[I", .methodLink RX0 24 yX0_renew, .instanceMethod yX0_renew, .selects RX0 yX0_renew yX0_renew, .initialized RX0, .code yX0_renew cX0_renew 3 none, .fieldLink RX0 28 "DuneBench$Coast" "cells" "I", .fieldLink RX0 32 "DuneBench$Coast" "sea" "I", .fieldLink RX0 35 "DuneBench$Coast" "behind" "I", .fieldLink RX0 38 "DuneBench$Coast" "flooded" "I"] ++ wsX00)
def wsX0_copyFrom : List Cond := .code yX0_copyFrom cX0_copyFrom 3 none :: ([.fieldLink RX0 28 "DuneBench$Coast" "cells" "I", .fieldLink RX0 9 "DuneBench$Coast" "height" "[I", .fieldLink RX0 15 "DuneBench$Coast" "grass" "[I", .fieldLink RX0 18 "DuneBench$Coast" "fence" "[I", .fieldLink RX0 21 "DuneBench$Coast" "kept" "[I", .fieldLink RX0 32 "DuneBench$Coast" "sea" "I", .fieldLink RX0 35 "DuneBench$Coast" "behind" "I", .fieldLink RX0 38 "DuneBench$Coast" "flooded" "I"] ++ wsX00)
def wsX0_has : List Cond := .code yX0_has cX0_has 2 (some .boolean) :: ([.fieldLink RX0 28 "DuneBench$Coast" "cells" "I"] ++ wsX00)
def wsX0_row : List Cond := .code yX0_row cX0_row 2 (some (.array .int)) :: ([.fieldLink RX0 9 "DuneBench$Coast" "height" "[I", .fieldLink RX0 15 "DuneBench$Coast" "grass" "[I", .fieldLink RX0 18 "DuneBench$Coast" "fence" "[I", .fieldLink RX0 21 "DuneBench$Coast" "kept" "[I"] ++ wsX00)
def wsX0_hold : List Cond := .code yX0_hold cX0_hold 5 (some .int) :: ([.fieldLink RX0 15 "DuneBench$Coast" "grass" "[I", .fieldLink RX0 18 "DuneBench$Coast" "fence" "[I", .fieldLink RX0 9 "DuneBench$Coast" "height" "[I", .methodLink RX0 47 Lib.Math.min.name, .static Lib.Math.min.name, .initialized "java/lang/Math", .code Lib.Math.min.name Lib.Math.min.code 2 (some .int), .methodLink RX0 41 Lib.Math.max.name, .static Lib.Math.max.name, .code Lib.Math.max.name Lib.Math.max.code 2 (some .int), .fieldLink RX0 21 "DuneBench$Coast" "kept" "[I"] ++ wsX00)
def wsX0_blow : List Cond := .code yX0_blow cX0_blow 6 (some .int) :: ([.fieldLink RX0 28 "DuneBench$Coast" "cells" "I", .fieldLink RX0 9 "DuneBench$Coast" "height" "[I", .fieldLink RX0 15 "DuneBench$Coast" "grass" "[I", .methodLink RX0 41 Lib.Math.max.name, .static Lib.Math.max.name, .initialized "java/lang/Math", .code Lib.Math.max.name Lib.Math.max.code 2 (some .int), .methodLink RX0 47 Lib.Math.min.name, .static Lib.Math.min.name, .code Lib.Math.min.name Lib.Math.min.code 2 (some .int), .fieldLink RX0 35 "DuneBench$Coast" "behind" "I", .methodLink RX0 50 yX0_hold, .instanceMethod yX0_hold, .selects RX0 yX0_hold yX0_hold, .initialized RX0, .code yX0_hold cX0_hold 5 (some .int), .fieldLink RX0 18 "DuneBench$Coast" "fence" "[I", .fieldLink RX0 21 "DuneBench$Coast" "kept" "[I"] ++ wsX00)
def wsX0_washOut : List Cond := .code yX0_washOut cX0_washOut 3 none :: ([.fieldLink RX0 9 "DuneBench$Coast" "height" "[I", .fieldLink RX0 32 "DuneBench$Coast" "sea" "I"] ++ wsX00)
def wsX0_surge : List Cond := .code yX0_surge cX0_surge 3 (some .int) :: ([.fieldLink RX0 28 "DuneBench$Coast" "cells" "I", .fieldLink RX0 9 "DuneBench$Coast" "height" "[I", .fieldLink RX0 15 "DuneBench$Coast" "grass" "[I", .fieldLink RX0 18 "DuneBench$Coast" "fence" "[I", .fieldLink RX0 38 "DuneBench$Coast" "flooded" "I", .methodLink RX0 53 yX0_washOut, .instanceMethod yX0_washOut, .selects RX0 yX0_washOut yX0_washOut, .initialized RX0, .code yX0_washOut cX0_washOut 3 none, .fieldLink RX0 32 "DuneBench$Coast" "sea" "I"] ++ wsX00)
def wsX3_isWithin : List Cond := .code yX3_isWithin cX3_isWithin 3 (some .boolean) :: ([])
def wsX0_nextGrass : List Cond := .code yX0_nextGrass cX0_nextGrass 2 (some .int) :: ([.methodLink RX0 47 Lib.Math.min.name, .static Lib.Math.min.name, .initialized "java/lang/Math", .code Lib.Math.min.name Lib.Math.min.code 2 (some .int), .static yX3_isWithin, .initialized RX3, .code yX3_isWithin cX3_isWithin 3 (some .boolean)])
def wsX0_endYear : List Cond := .code yX0_endYear cX0_endYear 4 (some .int) :: ([.fieldLink RX0 28 "DuneBench$Coast" "cells" "I", .fieldLink RX0 15 "DuneBench$Coast" "grass" "[I", .fieldLink RX0 21 "DuneBench$Coast" "kept" "[I", .methodLink RX0 57 yX0_nextGrass, .static yX0_nextGrass, .initialized RX0, .code yX0_nextGrass cX0_nextGrass 2 (some .int), .methodLink RX0 47 Lib.Math.min.name, .static Lib.Math.min.name, .initialized "java/lang/Math", .code Lib.Math.min.name Lib.Math.min.code 2 (some .int), .static yX3_isWithin, .initialized RX3, .code yX3_isWithin cX3_isWithin 3 (some .boolean)] ++ wsX00)
def wsX0_addSand : List Cond := .code yX0_addSand cX0_addSand 3 (some .int) :: ([.fieldLink RX0 9 "DuneBench$Coast" "height" "[I", .methodLink RX0 47 Lib.Math.min.name, .static Lib.Math.min.name, .initialized "java/lang/Math", .code Lib.Math.min.name Lib.Math.min.code 2 (some .int)] ++ wsX00)
def wsX0_heightsTogether : List Cond := .code yX0_heightsTogether cX0_heightsTogether 3 (some .int) :: ([.fieldLink RX0 28 "DuneBench$Coast" "cells" "I", .fieldLink RX0 9 "DuneBench$Coast" "height" "[I"] ++ wsX00)
def wsX0_greatestHeight : List Cond := .code yX0_greatestHeight cX0_greatestHeight 3 (some .int) :: ([.fieldLink RX0 28 "DuneBench$Coast" "cells" "I", .fieldLink RX0 9 "DuneBench$Coast" "height" "[I", .methodLink RX0 41 Lib.Math.max.name, .static Lib.Math.max.name, .initialized "java/lang/Math", .code Lib.Math.max.name Lib.Math.max.code 2 (some .int)] ++ wsX00)
def wsX1_forget : List Cond := .code yX1_forget cX1_forget 2 none :: ([.fieldLink RX1 9 "DuneBench$Survey" "reading" "[I"] ++ wsX10)
def wsX1_init : List Cond := .code yX1_init cX1_init 1 none :: ([.methodLink RX1 3 objectInit, .instanceMethod objectInit, .code objectInit ⟨#[0xb1]⟩ 1 none, .arrayClass .int, .fieldLink RX1 9 "DuneBench$Survey" "reading" "[I", .methodLink RX1 15 yX1_forget, .instanceMethod yX1_forget, .selects RX1 yX1_forget yX1_forget, .initialized RX1, .code yX1_forget cX1_forget 2 none] ++ wsX10)
def wsX1_put : List Cond := .code yX1_put cX1_put 4 (some .int) :: ([.fieldLink RX1 9 "DuneBench$Survey" "reading" "[I"] ++ wsX10)
def wsX1_readings : List Cond := .code yX1_readings cX1_readings 3 (some .int) :: ([.fieldLink RX1 9 "DuneBench$Survey" "reading" "[I"] ++ wsX10)
def wsX1_nearest : List Cond := .code yX1_nearest cX1_nearest 7 (some .int) :: ([.fieldLink RX1 9 "DuneBench$Survey" "reading" "[I"] ++ wsX10)
def wsX1_scaledLevel : List Cond := .code yX1_scaledLevel cX1_scaledLevel 7 (some .int) :: ([.fieldLink RX1 9 "DuneBench$Survey" "reading" "[I", .methodLink RX1 18 yX1_nearest, .instanceMethod yX1_nearest, .selects RX1 yX1_nearest yX1_nearest, .initialized RX1, .code yX1_nearest cX1_nearest 7 (some .int)] ++ wsX10)
def wsX1_scaledVolume : List Cond := .code yX1_scaledVolume cX1_scaledVolume 5 (some .int) :: ([.methodLink RX1 22 yX1_scaledLevel, .instanceMethod yX1_scaledLevel, .selects RX1 yX1_scaledLevel yX1_scaledLevel, .initialized RX1, .code yX1_scaledLevel cX1_scaledLevel 7 (some .int), .fieldLink RX1 9 "DuneBench$Survey" "reading" "[I", .methodLink RX1 18 yX1_nearest, .instanceMethod yX1_nearest, .selects RX1 yX1_nearest yX1_nearest, .code yX1_nearest cX1_nearest 7 (some .int)] ++ wsX10)
def wsX1_scaledDoubt : List Cond := .code yX1_scaledDoubt cX1_scaledDoubt 5 (some .int) :: ([.fieldLink RX1 9 "DuneBench$Survey" "reading" "[I", .methodLink RX1 30 Lib.Math.abs.name, .static Lib.Math.abs.name, .initialized "java/lang/Math", .code Lib.Math.abs.name Lib.Math.abs.code 1 (some .int), .methodLink RX1 36 Lib.Math.max.name, .static Lib.Math.max.name, .code Lib.Math.max.name Lib.Math.max.code 2 (some .int), .methodLink RX1 26 yX1_scaledVolume, .instanceMethod yX1_scaledVolume, .selects RX1 yX1_scaledVolume yX1_scaledVolume, .initialized RX1, .code yX1_scaledVolume cX1_scaledVolume 5 (some .int), .methodLink RX1 22 yX1_scaledLevel, .instanceMethod yX1_scaledLevel, .selects RX1 yX1_scaledLevel yX1_scaledLevel, .code yX1_scaledLevel cX1_scaledLevel 7 (some .int), .methodLink RX1 18 yX1_nearest, .instanceMethod yX1_nearest, .selects RX1 yX1_nearest yX1_nearest, .code yX1_nearest cX1_nearest 7 (some .int)] ++ wsX10)
def wsX2_init : List Cond := .code yX2_init cX2_init 1 none :: ([.methodLink RX2 3 objectInit, .instanceMethod objectInit, .code objectInit ⟨#[0xb1]⟩ 1 none, .arrayClass .int, .fieldLink RX2 9 "DuneBench$Weathers" "count" "[I", .classLink RX2 15 "[[I", .fieldLink RX2 17 "DuneBench$Weathers" "kind" "[[I", .fieldLink RX2 20 "DuneBench$Weathers" "value" "[[I"] ++ wsX20)
def wsX2_add : List Cond := .code yX2_add cX2_add 5 (some .int) :: ([.fieldLink RX2 9 "DuneBench$Weathers" "count" "[I", .fieldLink RX2 17 "DuneBench$Weathers" "kind" "[[I", .fieldLink RX2 20 "DuneBench$Weathers" "value" "[[I"] ++ wsX20)
def wsX2_any : List Cond := .code yX2_any cX2_any 2 (some .boolean) :: ([.fieldLink RX2 9 "DuneBench$Weathers" "count" "[I"] ++ wsX20)
def wsX2_yearEnds : List Cond := .code yX2_yearEnds cX2_yearEnds 4 (some .int) :: ([.fieldLink RX2 9 "DuneBench$Weathers" "count" "[I", .fieldLink RX2 17 "DuneBench$Weathers" "kind" "[[I"] ++ wsX20)
def wsX2_lastYear : List Cond := .code yX2_lastYear cX2_lastYear 3 (some .int) :: ([.methodLink RX2 27 Lib.Math.max.name, .static Lib.Math.max.name, .initialized "java/lang/Math", .code Lib.Math.max.name Lib.Math.max.code 2 (some .int), .methodLink RX2 23 yX2_yearEnds, .instanceMethod yX2_yearEnds, .selects RX2 yX2_yearEnds yX2_yearEnds, .initialized RX2, .code yX2_yearEnds cX2_yearEnds 4 (some .int), .fieldLink RX2 9 "DuneBench$Weathers" "count" "[I", .fieldLink RX2 17 "DuneBench$Weathers" "kind" "[[I"] ++ wsX20)
def wsX3_init_r1 : List Cond := [Cond.methodLink RX3 1 objectInit, Cond.instanceMethod objectInit, Cond.code objectInit ⟨#[0xb1]⟩ 1 none, Cond.classLink RX3 7 RX0, Cond.instantiable RX0 8, Cond.initialized RX0, Cond.fieldLink RX3 10 "DuneBench" "shore" "LDuneBench$Coast;", Cond.fieldLink RX3 16 "DuneBench" "trial" "LDuneBench$Coast;", Cond.fieldLink RX3 19 "DuneBench" "saved" "LDuneBench$Coast;", Cond.fieldLink RX3 22 "DuneBench" "isSaved" "Z", Cond.classLink RX3 26 RX2, Cond.instantiable RX2 3, Cond.initialized RX2, Cond.fieldLink RX3 29 "DuneBench" "weathers" "LDuneBench$Weathers;", Cond.classLink RX3 33 RX1, Cond.instantiable RX1 1, Cond.initialized RX1, Cond.fieldLink RX3 36 "DuneBench" "survey" "LDuneBench$Survey;", Cond.fieldLink RX3 40 "DuneBench" "fenceSize" "I", Cond.arrayClass .int, Cond.fieldLink RX3 44 "DuneBench" "planCells" "[I", Cond.methodLink RX3 9 yX0_init, Cond.instanceMethod yX0_init, Cond.code yX0_init cX0_init 1 none]
def wsX3_init_r2 : List Cond := [Cond.methodLink RX0 3 objectInit, Cond.fieldLink RX0 9 "DuneBench$Coast" "height" "[I", Cond.fieldLink RX0 15 "DuneBench$Coast" "grass" "[I", Cond.fieldLink RX0 18 "DuneBench$Coast" "fence" "[I", Cond.fieldLink RX0 21 "DuneBench$Coast" "kept" "[I", Cond.methodLink RX0 24 yX0_renew, Cond.instanceMethod yX0_renew, Cond.selects RX0 yX0_renew yX0_renew, Cond.code yX0_renew cX0_renew 3 none, Cond.fieldLink RX0 28 "DuneBench$Coast" "cells" "I", Cond.fieldLink RX0 32 "DuneBench$Coast" "sea" "I", Cond.fieldLink RX0 35 "DuneBench$Coast" "behind" "I", Cond.fieldLink RX0 38 "DuneBench$Coast" "flooded" "I", Cond.methodLink RX3 28 yX2_init, Cond.instanceMethod yX2_init, Cond.code yX2_init cX2_init 1 none, Cond.methodLink RX2 3 objectInit, Cond.fieldLink RX2 9 "DuneBench$Weathers" "count" "[I", Cond.classLink RX2 15 "[[I", Cond.fieldLink RX2 17 "DuneBench$Weathers" "kind" "[[I", Cond.fieldLink RX2 20 "DuneBench$Weathers" "value" "[[I", Cond.methodLink RX3 35 yX1_init, Cond.instanceMethod yX1_init, Cond.code yX1_init cX1_init 1 none]
def wsX3_init_r3 : List Cond := [Cond.methodLink RX1 3 objectInit, Cond.fieldLink RX1 9 "DuneBench$Survey" "reading" "[I", Cond.methodLink RX1 15 yX1_forget, Cond.instanceMethod yX1_forget, Cond.selects RX1 yX1_forget yX1_forget, Cond.code yX1_forget cX1_forget 2 none]
def wsX3_init : List Cond := .code yX3_init cX3_init 1 none :: ((wsX3_init_r1 ++ (wsX3_init_r2 ++ wsX3_init_r3)) ++ wsX00 ++ wsX30 ++ wsX20 ++ wsX10)
def wsX3_coast_r1 : List Cond := [Cond.fieldLink RX3 10 "DuneBench" "shore" "LDuneBench$Coast;", Cond.fieldLink RX3 36 "DuneBench" "survey" "LDuneBench$Survey;", Cond.methodLink RX3 48 yX3_isWithin, Cond.static yX3_isWithin, Cond.initialized RX3, Cond.code yX3_isWithin cX3_isWithin 3 (some .boolean), Cond.methodLink RX3 52 yX0_renew, Cond.instanceMethod yX0_renew, Cond.selects RX0 yX0_renew yX0_renew, Cond.initialized RX0, Cond.code yX0_renew cX0_renew 3 none, Cond.fieldLink RX0 28 "DuneBench$Coast" "cells" "I", Cond.fieldLink RX0 9 "DuneBench$Coast" "height" "[I", Cond.fieldLink RX0 15 "DuneBench$Coast" "grass" "[I", Cond.fieldLink RX0 18 "DuneBench$Coast" "fence" "[I", Cond.fieldLink RX0 21 "DuneBench$Coast" "kept" "[I", Cond.fieldLink RX0 32 "DuneBench$Coast" "sea" "I", Cond.fieldLink RX0 35 "DuneBench$Coast" "behind" "I", Cond.fieldLink RX0 38 "DuneBench$Coast" "flooded" "I", Cond.methodLink RX3 56 yX1_forget, Cond.instanceMethod yX1_forget, Cond.selects RX1 yX1_forget yX1_forget, Cond.initialized RX1, Cond.code yX1_forget cX1_forget 2 none]
def wsX3_coast_r2 : List Cond := [Cond.fieldLink RX1 9 "DuneBench$Survey" "reading" "[I"]
def wsX3_coast : List Cond := .code yX3_coast cX3_coast 2 (some .int) :: ((wsX3_coast_r1 ++ wsX3_coast_r2) ++ wsX30 ++ wsX00 ++ wsX10)
def wsX3_mostOf : List Cond := .code yX3_mostOf cX3_mostOf 1 (some .int) :: ([])
def wsX3_set : List Cond := .code yX3_set cX3_set 6 (some .int) :: ([.fieldLink RX3 10 "DuneBench" "shore" "LDuneBench$Coast;", .methodLink RX3 59 yX0_has, .instanceMethod yX0_has, .selects RX0 yX0_has yX0_has, .initialized RX0, .code yX0_has cX0_has 2 (some .boolean), .fieldLink RX0 28 "DuneBench$Coast" "cells" "I", .methodLink RX3 48 yX3_isWithin, .static yX3_isWithin, .initialized RX3, .code yX3_isWithin cX3_isWithin 3 (some .boolean), .methodLink RX3 63 yX3_mostOf, .static yX3_mostOf, .code yX3_mostOf cX3_mostOf 1 (some .int), .methodLink RX3 67 yX0_row, .instanceMethod yX0_row, .selects RX0 yX0_row yX0_row, .code yX0_row cX0_row 2 (some (.array .int)), .fieldLink RX0 9 "DuneBench$Coast" "height" "[I", .fieldLink RX0 15 "DuneBench$Coast" "grass" "[I", .fieldLink RX0 18 "DuneBench$Coast" "fence" "[I", .fieldLink RX0 21 "DuneBench$Coast" "kept" "[I"] ++ wsX30 ++ wsX00)
def wsX3_of : List Cond := .code yX3_of cX3_of 3 (some .int) :: ([.fieldLink RX3 10 "DuneBench" "shore" "LDuneBench$Coast;", .methodLink RX3 59 yX0_has, .instanceMethod yX0_has, .selects RX0 yX0_has yX0_has, .initialized RX0, .code yX0_has cX0_has 2 (some .boolean), .fieldLink RX0 28 "DuneBench$Coast" "cells" "I", .methodLink RX3 48 yX3_isWithin, .static yX3_isWithin, .initialized RX3, .code yX3_isWithin cX3_isWithin 3 (some .boolean), .methodLink RX3 67 yX0_row, .instanceMethod yX0_row, .selects RX0 yX0_row yX0_row, .code yX0_row cX0_row 2 (some (.array .int)), .fieldLink RX0 9 "DuneBench$Coast" "height" "[I", .fieldLink RX0 15 "DuneBench$Coast" "grass" "[I", .fieldLink RX0 18 "DuneBench$Coast" "fence" "[I", .fieldLink RX0 21 "DuneBench$Coast" "kept" "[I"] ++ wsX30 ++ wsX00)
def wsX3_wind_r1 : List Cond := [Cond.fieldLink RX3 10 "DuneBench" "shore" "LDuneBench$Coast;", Cond.methodLink RX3 48 yX3_isWithin, Cond.static yX3_isWithin, Cond.initialized RX3, Cond.code yX3_isWithin cX3_isWithin 3 (some .boolean), Cond.methodLink RX3 71 yX0_blow, Cond.instanceMethod yX0_blow, Cond.selects RX0 yX0_blow yX0_blow, Cond.initialized RX0, Cond.code yX0_blow cX0_blow 6 (some .int), Cond.fieldLink RX0 28 "DuneBench$Coast" "cells" "I", Cond.fieldLink RX0 9 "DuneBench$Coast" "height" "[I", Cond.fieldLink RX0 15 "DuneBench$Coast" "grass" "[I", Cond.methodLink RX0 41 Lib.Math.max.name, Cond.static Lib.Math.max.name, Cond.initialized "java/lang/Math", Cond.code Lib.Math.max.name Lib.Math.max.code 2 (some .int), Cond.methodLink RX0 47 Lib.Math.min.name, Cond.static Lib.Math.min.name, Cond.code Lib.Math.min.name Lib.Math.min.code 2 (some .int), Cond.fieldLink RX0 35 "DuneBench$Coast" "behind" "I", Cond.methodLink RX0 50 yX0_hold, Cond.instanceMethod yX0_hold, Cond.selects RX0 yX0_hold yX0_hold]
def wsX3_wind_r2 : List Cond := [Cond.code yX0_hold cX0_hold 5 (some .int), Cond.fieldLink RX0 18 "DuneBench$Coast" "fence" "[I", Cond.fieldLink RX0 21 "DuneBench$Coast" "kept" "[I"]
def wsX3_wind : List Cond := .code yX3_wind cX3_wind 2 (some .int) :: ((wsX3_wind_r1 ++ wsX3_wind_r2) ++ wsX30 ++ wsX00)
def wsX3_storm : List Cond := .code yX3_storm cX3_storm 2 (some .int) :: ([.fieldLink RX3 10 "DuneBench" "shore" "LDuneBench$Coast;", .methodLink RX3 48 yX3_isWithin, .static yX3_isWithin, .initialized RX3, .code yX3_isWithin cX3_isWithin 3 (some .boolean), .methodLink RX3 74 yX0_surge, .instanceMethod yX0_surge, .selects RX0 yX0_surge yX0_surge, .initialized RX0, .code yX0_surge cX0_surge 3 (some .int), .fieldLink RX0 28 "DuneBench$Coast" "cells" "I", .fieldLink RX0 9 "DuneBench$Coast" "height" "[I", .fieldLink RX0 15 "DuneBench$Coast" "grass" "[I", .fieldLink RX0 18 "DuneBench$Coast" "fence" "[I", .fieldLink RX0 38 "DuneBench$Coast" "flooded" "I", .methodLink RX0 53 yX0_washOut, .instanceMethod yX0_washOut, .selects RX0 yX0_washOut yX0_washOut, .code yX0_washOut cX0_washOut 3 none, .fieldLink RX0 32 "DuneBench$Coast" "sea" "I"] ++ wsX30 ++ wsX00)
def wsX3_end : List Cond := .code yX3_end cX3_end 1 (some .int) :: ([.fieldLink RX3 10 "DuneBench" "shore" "LDuneBench$Coast;", .methodLink RX3 77 yX0_endYear, .instanceMethod yX0_endYear, .selects RX0 yX0_endYear yX0_endYear, .initialized RX0, .code yX0_endYear cX0_endYear 4 (some .int), .fieldLink RX0 28 "DuneBench$Coast" "cells" "I", .fieldLink RX0 15 "DuneBench$Coast" "grass" "[I", .fieldLink RX0 21 "DuneBench$Coast" "kept" "[I", .methodLink RX0 57 yX0_nextGrass, .static yX0_nextGrass, .code yX0_nextGrass cX0_nextGrass 2 (some .int), .methodLink RX0 47 Lib.Math.min.name, .static Lib.Math.min.name, .initialized "java/lang/Math", .code Lib.Math.min.name Lib.Math.min.code 2 (some .int), .static yX3_isWithin, .initialized RX3, .code yX3_isWithin cX3_isWithin 3 (some .boolean)] ++ wsX30 ++ wsX00)
def wsX3_nourish : List Cond := .code yX3_nourish cX3_nourish 2 (some .int) :: ([.fieldLink RX3 10 "DuneBench" "shore" "LDuneBench$Coast;", .methodLink RX3 48 yX3_isWithin, .static yX3_isWithin, .initialized RX3, .code yX3_isWithin cX3_isWithin 3 (some .boolean), .methodLink RX3 81 yX0_addSand, .instanceMethod yX0_addSand, .selects RX0 yX0_addSand yX0_addSand, .initialized RX0, .code yX0_addSand cX0_addSand 3 (some .int), .fieldLink RX0 9 "DuneBench$Coast" "height" "[I", .methodLink RX0 47 Lib.Math.min.name, .static Lib.Math.min.name, .initialized "java/lang/Math", .code Lib.Math.min.name Lib.Math.min.code 2 (some .int)] ++ wsX30 ++ wsX00)
def wsX3_isWeather : List Cond := .code yX3_isWeather cX3_isWeather 1 (some .boolean) :: ([.methodLink RX3 48 yX3_isWithin, .static yX3_isWithin, .initialized RX3, .code yX3_isWithin cX3_isWithin 3 (some .boolean)])
def wsX3_isEvent : List Cond := .code yX3_isEvent cX3_isEvent 2 (some .boolean) :: ([.methodLink RX3 48 yX3_isWithin, .static yX3_isWithin, .initialized RX3, .code yX3_isWithin cX3_isWithin 3 (some .boolean)])
def wsX3_event : List Cond := .code yX3_event cX3_event 4 (some .int) :: ([.fieldLink RX3 29 "DuneBench" "weathers" "LDuneBench$Weathers;", .fieldLink RX3 91 "DuneBench$Weathers" "count" "[I", .methodLink RX3 84 yX3_isWeather, .static yX3_isWeather, .initialized RX3, .code yX3_isWeather cX3_isWeather 1 (some .boolean), .methodLink RX3 48 yX3_isWithin, .static yX3_isWithin, .code yX3_isWithin cX3_isWithin 3 (some .boolean), .methodLink RX3 87 yX3_isEvent, .static yX3_isEvent, .code yX3_isEvent cX3_isEvent 2 (some .boolean), .methodLink RX3 94 yX2_add, .instanceMethod yX2_add, .selects RX2 yX2_add yX2_add, .initialized RX2, .code yX2_add cX2_add 5 (some .int), .fieldLink RX2 9 "DuneBench$Weathers" "count" "[I", .fieldLink RX2 17 "DuneBench$Weathers" "kind" "[[I", .fieldLink RX2 20 "DuneBench$Weathers" "value" "[[I"] ++ wsX30 ++ wsX20)
def wsX3_calm : List Cond := .code yX3_calm cX3_calm 3 (some .int) :: ([.fieldLink RX3 29 "DuneBench" "weathers" "LDuneBench$Weathers;", .fieldLink RX3 91 "DuneBench$Weathers" "count" "[I", .methodLink RX3 84 yX3_isWeather, .static yX3_isWeather, .initialized RX3, .code yX3_isWeather cX3_isWeather 1 (some .boolean), .methodLink RX3 48 yX3_isWithin, .static yX3_isWithin, .code yX3_isWithin cX3_isWithin 3 (some .boolean)] ++ wsX30 ++ wsX20)
def wsX3_size : List Cond := .code yX3_size cX3_size 3 (some .int) :: ([.fieldLink RX3 40 "DuneBench" "fenceSize" "I", .methodLink RX3 48 yX3_isWithin, .static yX3_isWithin, .initialized RX3, .code yX3_isWithin cX3_isWithin 3 (some .boolean)] ++ wsX30)
def wsX3_isCellOrNone : List Cond := .code yX3_isCellOrNone cX3_isCellOrNone 2 (some .boolean) :: ([.fieldLink RX3 10 "DuneBench" "shore" "LDuneBench$Coast;", .methodLink RX3 59 yX0_has, .instanceMethod yX0_has, .selects RX0 yX0_has yX0_has, .initialized RX0, .code yX0_has cX0_has 2 (some .boolean), .fieldLink RX0 28 "DuneBench$Coast" "cells" "I"] ++ wsX30 ++ wsX00)
def wsX3_beginYear : List Cond := .code yX3_beginYear cX3_beginYear 2 none :: ([.fieldLink RX3 16 "DuneBench" "trial" "LDuneBench$Coast;", .fieldLink RX3 44 "DuneBench" "planCells" "[I", .fieldLink RX3 192 "DuneBench$Coast" "fence" "[I", .fieldLink RX3 40 "DuneBench" "fenceSize" "I", .methodLink RX3 59 yX0_has, .instanceMethod yX0_has, .selects RX0 yX0_has yX0_has, .initialized RX0, .code yX0_has cX0_has 2 (some .boolean), .fieldLink RX0 28 "DuneBench$Coast" "cells" "I"] ++ wsX30 ++ wsX00)
def wsX3_play_r1 : List Cond := [Cond.fieldLink RX3 16 "DuneBench" "trial" "LDuneBench$Coast;", Cond.fieldLink RX3 10 "DuneBench" "shore" "LDuneBench$Coast;", Cond.fieldLink RX3 105 "DuneBench$Coast" "flooded" "I", Cond.fieldLink RX3 29 "DuneBench" "weathers" "LDuneBench$Weathers;", Cond.fieldLink RX3 91 "DuneBench$Weathers" "count" "[I", Cond.fieldLink RX3 185 "DuneBench$Weathers" "value" "[[I", Cond.fieldLink RX3 189 "DuneBench$Weathers" "kind" "[[I", Cond.methodLink RX3 172 yX0_copyFrom, Cond.instanceMethod yX0_copyFrom, Cond.selects RX0 yX0_copyFrom yX0_copyFrom, Cond.initialized RX0, Cond.code yX0_copyFrom cX0_copyFrom 3 none, Cond.fieldLink RX0 28 "DuneBench$Coast" "cells" "I", Cond.fieldLink RX0 9 "DuneBench$Coast" "height" "[I", Cond.fieldLink RX0 15 "DuneBench$Coast" "grass" "[I", Cond.fieldLink RX0 18 "DuneBench$Coast" "fence" "[I", Cond.fieldLink RX0 21 "DuneBench$Coast" "kept" "[I", Cond.fieldLink RX0 32 "DuneBench$Coast" "sea" "I", Cond.fieldLink RX0 35 "DuneBench$Coast" "behind" "I", Cond.fieldLink RX0 38 "DuneBench$Coast" "flooded" "I", Cond.methodLink RX3 182 yX3_beginYear, Cond.instanceMethod yX3_beginYear, Cond.selects RX3 yX3_beginYear yX3_beginYear, Cond.initialized RX3]
def wsX3_play_r2 : List Cond := [Cond.code yX3_beginYear cX3_beginYear 2 none, Cond.fieldLink RX3 44 "DuneBench" "planCells" "[I", Cond.fieldLink RX3 192 "DuneBench$Coast" "fence" "[I", Cond.fieldLink RX3 40 "DuneBench" "fenceSize" "I", Cond.methodLink RX3 59 yX0_has, Cond.instanceMethod yX0_has, Cond.selects RX0 yX0_has yX0_has, Cond.code yX0_has cX0_has 2 (some .boolean), Cond.methodLink RX3 71 yX0_blow, Cond.instanceMethod yX0_blow, Cond.selects RX0 yX0_blow yX0_blow, Cond.code yX0_blow cX0_blow 6 (some .int), Cond.methodLink RX0 41 Lib.Math.max.name, Cond.static Lib.Math.max.name, Cond.initialized "java/lang/Math", Cond.code Lib.Math.max.name Lib.Math.max.code 2 (some .int), Cond.methodLink RX0 47 Lib.Math.min.name, Cond.static Lib.Math.min.name, Cond.code Lib.Math.min.name Lib.Math.min.code 2 (some .int), Cond.methodLink RX0 50 yX0_hold, Cond.instanceMethod yX0_hold, Cond.selects RX0 yX0_hold yX0_hold, Cond.code yX0_hold cX0_hold 5 (some .int), Cond.methodLink RX3 74 yX0_surge]
def wsX3_play_r3 : List Cond := [Cond.instanceMethod yX0_surge, Cond.selects RX0 yX0_surge yX0_surge, Cond.code yX0_surge cX0_surge 3 (some .int), Cond.methodLink RX0 53 yX0_washOut, Cond.instanceMethod yX0_washOut, Cond.selects RX0 yX0_washOut yX0_washOut, Cond.code yX0_washOut cX0_washOut 3 none, Cond.methodLink RX3 77 yX0_endYear, Cond.instanceMethod yX0_endYear, Cond.selects RX0 yX0_endYear yX0_endYear, Cond.code yX0_endYear cX0_endYear 4 (some .int), Cond.methodLink RX0 57 yX0_nextGrass, Cond.static yX0_nextGrass, Cond.code yX0_nextGrass cX0_nextGrass 2 (some .int), Cond.static yX3_isWithin, Cond.code yX3_isWithin cX3_isWithin 3 (some .boolean)]
def wsX3_play : List Cond := .code yX3_play cX3_play 5 none :: ((wsX3_play_r1 ++ (wsX3_play_r2 ++ wsX3_play_r3)) ++ wsX30 ++ wsX00 ++ wsX20)
def wsX3_tryOut_r1 : List Cond := [Cond.fieldLink RX3 44 "DuneBench" "planCells" "[I", Cond.methodLink RX3 84 yX3_isWeather, Cond.static yX3_isWeather, Cond.initialized RX3, Cond.code yX3_isWeather cX3_isWeather 1 (some .boolean), Cond.methodLink RX3 48 yX3_isWithin, Cond.static yX3_isWithin, Cond.code yX3_isWithin cX3_isWithin 3 (some .boolean), Cond.methodLink RX3 176 yX3_isCellOrNone, Cond.instanceMethod yX3_isCellOrNone, Cond.selects RX3 yX3_isCellOrNone yX3_isCellOrNone, Cond.code yX3_isCellOrNone cX3_isCellOrNone 2 (some .boolean), Cond.fieldLink RX3 10 "DuneBench" "shore" "LDuneBench$Coast;", Cond.methodLink RX3 59 yX0_has, Cond.instanceMethod yX0_has, Cond.selects RX0 yX0_has yX0_has, Cond.initialized RX0, Cond.code yX0_has cX0_has 2 (some .boolean), Cond.fieldLink RX0 28 "DuneBench$Coast" "cells" "I", Cond.methodLink RX3 179 yX3_play, Cond.instanceMethod yX3_play, Cond.selects RX3 yX3_play yX3_play, Cond.code yX3_play cX3_play 5 none, Cond.fieldLink RX3 16 "DuneBench" "trial" "LDuneBench$Coast;"]
def wsX3_tryOut_r2 : List Cond := [Cond.fieldLink RX3 105 "DuneBench$Coast" "flooded" "I", Cond.fieldLink RX3 29 "DuneBench" "weathers" "LDuneBench$Weathers;", Cond.fieldLink RX3 91 "DuneBench$Weathers" "count" "[I", Cond.fieldLink RX3 185 "DuneBench$Weathers" "value" "[[I", Cond.fieldLink RX3 189 "DuneBench$Weathers" "kind" "[[I", Cond.methodLink RX3 172 yX0_copyFrom, Cond.instanceMethod yX0_copyFrom, Cond.selects RX0 yX0_copyFrom yX0_copyFrom, Cond.code yX0_copyFrom cX0_copyFrom 3 none, Cond.fieldLink RX0 9 "DuneBench$Coast" "height" "[I", Cond.fieldLink RX0 15 "DuneBench$Coast" "grass" "[I", Cond.fieldLink RX0 18 "DuneBench$Coast" "fence" "[I", Cond.fieldLink RX0 21 "DuneBench$Coast" "kept" "[I", Cond.fieldLink RX0 32 "DuneBench$Coast" "sea" "I", Cond.fieldLink RX0 35 "DuneBench$Coast" "behind" "I", Cond.fieldLink RX0 38 "DuneBench$Coast" "flooded" "I", Cond.methodLink RX3 182 yX3_beginYear, Cond.instanceMethod yX3_beginYear, Cond.selects RX3 yX3_beginYear yX3_beginYear, Cond.code yX3_beginYear cX3_beginYear 2 none, Cond.fieldLink RX3 192 "DuneBench$Coast" "fence" "[I", Cond.fieldLink RX3 40 "DuneBench" "fenceSize" "I", Cond.methodLink RX3 71 yX0_blow, Cond.instanceMethod yX0_blow]
def wsX3_tryOut_r3 : List Cond := [Cond.selects RX0 yX0_blow yX0_blow, Cond.code yX0_blow cX0_blow 6 (some .int), Cond.methodLink RX0 41 Lib.Math.max.name, Cond.static Lib.Math.max.name, Cond.initialized "java/lang/Math", Cond.code Lib.Math.max.name Lib.Math.max.code 2 (some .int), Cond.methodLink RX0 47 Lib.Math.min.name, Cond.static Lib.Math.min.name, Cond.code Lib.Math.min.name Lib.Math.min.code 2 (some .int), Cond.methodLink RX0 50 yX0_hold, Cond.instanceMethod yX0_hold, Cond.selects RX0 yX0_hold yX0_hold, Cond.code yX0_hold cX0_hold 5 (some .int), Cond.methodLink RX3 74 yX0_surge, Cond.instanceMethod yX0_surge, Cond.selects RX0 yX0_surge yX0_surge, Cond.code yX0_surge cX0_surge 3 (some .int), Cond.methodLink RX0 53 yX0_washOut, Cond.instanceMethod yX0_washOut, Cond.selects RX0 yX0_washOut yX0_washOut, Cond.code yX0_washOut cX0_washOut 3 none, Cond.methodLink RX3 77 yX0_endYear, Cond.instanceMethod yX0_endYear, Cond.selects RX0 yX0_endYear yX0_endYear]
def wsX3_tryOut_r4 : List Cond := [Cond.code yX0_endYear cX0_endYear 4 (some .int), Cond.methodLink RX0 57 yX0_nextGrass, Cond.static yX0_nextGrass, Cond.code yX0_nextGrass cX0_nextGrass 2 (some .int)]
def wsX3_tryOut : List Cond := .code yX3_tryOut cX3_tryOut 5 (some .boolean) :: ((wsX3_tryOut_r1 ++ (wsX3_tryOut_r2 ++ (wsX3_tryOut_r3 ++ wsX3_tryOut_r4))) ++ wsX30 ++ wsX00 ++ wsX20)
def wsX3_crest_r1 : List Cond := [Cond.fieldLink RX3 16 "DuneBench" "trial" "LDuneBench$Coast;", Cond.methodLink RX3 98 yX3_tryOut, Cond.instanceMethod yX3_tryOut, Cond.selects RX3 yX3_tryOut yX3_tryOut, Cond.initialized RX3, Cond.code yX3_tryOut cX3_tryOut 5 (some .boolean), Cond.fieldLink RX3 44 "DuneBench" "planCells" "[I", Cond.methodLink RX3 84 yX3_isWeather, Cond.static yX3_isWeather, Cond.code yX3_isWeather cX3_isWeather 1 (some .boolean), Cond.methodLink RX3 48 yX3_isWithin, Cond.static yX3_isWithin, Cond.code yX3_isWithin cX3_isWithin 3 (some .boolean), Cond.methodLink RX3 176 yX3_isCellOrNone, Cond.instanceMethod yX3_isCellOrNone, Cond.selects RX3 yX3_isCellOrNone yX3_isCellOrNone, Cond.code yX3_isCellOrNone cX3_isCellOrNone 2 (some .boolean), Cond.fieldLink RX3 10 "DuneBench" "shore" "LDuneBench$Coast;", Cond.methodLink RX3 59 yX0_has, Cond.instanceMethod yX0_has, Cond.selects RX0 yX0_has yX0_has, Cond.initialized RX0, Cond.code yX0_has cX0_has 2 (some .boolean), Cond.fieldLink RX0 28 "DuneBench$Coast" "cells" "I"]
def wsX3_crest_r2 : List Cond := [Cond.methodLink RX3 179 yX3_play, Cond.instanceMethod yX3_play, Cond.selects RX3 yX3_play yX3_play, Cond.code yX3_play cX3_play 5 none, Cond.fieldLink RX3 105 "DuneBench$Coast" "flooded" "I", Cond.fieldLink RX3 29 "DuneBench" "weathers" "LDuneBench$Weathers;", Cond.fieldLink RX3 91 "DuneBench$Weathers" "count" "[I", Cond.fieldLink RX3 185 "DuneBench$Weathers" "value" "[[I", Cond.fieldLink RX3 189 "DuneBench$Weathers" "kind" "[[I", Cond.methodLink RX3 172 yX0_copyFrom, Cond.instanceMethod yX0_copyFrom, Cond.selects RX0 yX0_copyFrom yX0_copyFrom, Cond.code yX0_copyFrom cX0_copyFrom 3 none, Cond.fieldLink RX0 9 "DuneBench$Coast" "height" "[I", Cond.fieldLink RX0 15 "DuneBench$Coast" "grass" "[I", Cond.fieldLink RX0 18 "DuneBench$Coast" "fence" "[I", Cond.fieldLink RX0 21 "DuneBench$Coast" "kept" "[I", Cond.fieldLink RX0 32 "DuneBench$Coast" "sea" "I", Cond.fieldLink RX0 35 "DuneBench$Coast" "behind" "I", Cond.fieldLink RX0 38 "DuneBench$Coast" "flooded" "I", Cond.methodLink RX3 182 yX3_beginYear, Cond.instanceMethod yX3_beginYear, Cond.selects RX3 yX3_beginYear yX3_beginYear, Cond.code yX3_beginYear cX3_beginYear 2 none]
def wsX3_crest_r3 : List Cond := [Cond.fieldLink RX3 192 "DuneBench$Coast" "fence" "[I", Cond.fieldLink RX3 40 "DuneBench" "fenceSize" "I", Cond.methodLink RX3 71 yX0_blow, Cond.instanceMethod yX0_blow, Cond.selects RX0 yX0_blow yX0_blow, Cond.code yX0_blow cX0_blow 6 (some .int), Cond.methodLink RX0 41 Lib.Math.max.name, Cond.static Lib.Math.max.name, Cond.initialized "java/lang/Math", Cond.code Lib.Math.max.name Lib.Math.max.code 2 (some .int), Cond.methodLink RX0 47 Lib.Math.min.name, Cond.static Lib.Math.min.name, Cond.code Lib.Math.min.name Lib.Math.min.code 2 (some .int), Cond.methodLink RX0 50 yX0_hold, Cond.instanceMethod yX0_hold, Cond.selects RX0 yX0_hold yX0_hold, Cond.code yX0_hold cX0_hold 5 (some .int), Cond.methodLink RX3 74 yX0_surge, Cond.instanceMethod yX0_surge, Cond.selects RX0 yX0_surge yX0_surge, Cond.code yX0_surge cX0_surge 3 (some .int), Cond.methodLink RX0 53 yX0_washOut, Cond.instanceMethod yX0_washOut, Cond.selects RX0 yX0_washOut yX0_washOut]
def wsX3_crest_r4 : List Cond := [Cond.code yX0_washOut cX0_washOut 3 none, Cond.methodLink RX3 77 yX0_endYear, Cond.instanceMethod yX0_endYear, Cond.selects RX0 yX0_endYear yX0_endYear, Cond.code yX0_endYear cX0_endYear 4 (some .int), Cond.methodLink RX0 57 yX0_nextGrass, Cond.static yX0_nextGrass, Cond.code yX0_nextGrass cX0_nextGrass 2 (some .int), Cond.methodLink RX3 102 yX0_greatestHeight, Cond.instanceMethod yX0_greatestHeight, Cond.selects RX0 yX0_greatestHeight yX0_greatestHeight, Cond.code yX0_greatestHeight cX0_greatestHeight 3 (some .int)]
def wsX3_crest : List Cond := .code yX3_crest cX3_crest 5 (some .int) :: ((wsX3_crest_r1 ++ (wsX3_crest_r2 ++ (wsX3_crest_r3 ++ wsX3_crest_r4))) ++ wsX30 ++ wsX00 ++ wsX20)
def wsX3_floods_r1 : List Cond := [Cond.fieldLink RX3 16 "DuneBench" "trial" "LDuneBench$Coast;", Cond.fieldLink RX3 105 "DuneBench$Coast" "flooded" "I", Cond.methodLink RX3 98 yX3_tryOut, Cond.instanceMethod yX3_tryOut, Cond.selects RX3 yX3_tryOut yX3_tryOut, Cond.initialized RX3, Cond.code yX3_tryOut cX3_tryOut 5 (some .boolean), Cond.fieldLink RX3 44 "DuneBench" "planCells" "[I", Cond.methodLink RX3 84 yX3_isWeather, Cond.static yX3_isWeather, Cond.code yX3_isWeather cX3_isWeather 1 (some .boolean), Cond.methodLink RX3 48 yX3_isWithin, Cond.static yX3_isWithin, Cond.code yX3_isWithin cX3_isWithin 3 (some .boolean), Cond.methodLink RX3 176 yX3_isCellOrNone, Cond.instanceMethod yX3_isCellOrNone, Cond.selects RX3 yX3_isCellOrNone yX3_isCellOrNone, Cond.code yX3_isCellOrNone cX3_isCellOrNone 2 (some .boolean), Cond.fieldLink RX3 10 "DuneBench" "shore" "LDuneBench$Coast;", Cond.methodLink RX3 59 yX0_has, Cond.instanceMethod yX0_has, Cond.selects RX0 yX0_has yX0_has, Cond.initialized RX0, Cond.code yX0_has cX0_has 2 (some .boolean)]
def wsX3_floods_r2 : List Cond := [Cond.fieldLink RX0 28 "DuneBench$Coast" "cells" "I", Cond.methodLink RX3 179 yX3_play, Cond.instanceMethod yX3_play, Cond.selects RX3 yX3_play yX3_play, Cond.code yX3_play cX3_play 5 none, Cond.fieldLink RX3 29 "DuneBench" "weathers" "LDuneBench$Weathers;", Cond.fieldLink RX3 91 "DuneBench$Weathers" "count" "[I", Cond.fieldLink RX3 185 "DuneBench$Weathers" "value" "[[I", Cond.fieldLink RX3 189 "DuneBench$Weathers" "kind" "[[I", Cond.methodLink RX3 172 yX0_copyFrom, Cond.instanceMethod yX0_copyFrom, Cond.selects RX0 yX0_copyFrom yX0_copyFrom, Cond.code yX0_copyFrom cX0_copyFrom 3 none, Cond.fieldLink RX0 9 "DuneBench$Coast" "height" "[I", Cond.fieldLink RX0 15 "DuneBench$Coast" "grass" "[I", Cond.fieldLink RX0 18 "DuneBench$Coast" "fence" "[I", Cond.fieldLink RX0 21 "DuneBench$Coast" "kept" "[I", Cond.fieldLink RX0 32 "DuneBench$Coast" "sea" "I", Cond.fieldLink RX0 35 "DuneBench$Coast" "behind" "I", Cond.fieldLink RX0 38 "DuneBench$Coast" "flooded" "I", Cond.methodLink RX3 182 yX3_beginYear, Cond.instanceMethod yX3_beginYear, Cond.selects RX3 yX3_beginYear yX3_beginYear, Cond.code yX3_beginYear cX3_beginYear 2 none]
def wsX3_floods_r3 : List Cond := [Cond.fieldLink RX3 192 "DuneBench$Coast" "fence" "[I", Cond.fieldLink RX3 40 "DuneBench" "fenceSize" "I", Cond.methodLink RX3 71 yX0_blow, Cond.instanceMethod yX0_blow, Cond.selects RX0 yX0_blow yX0_blow, Cond.code yX0_blow cX0_blow 6 (some .int), Cond.methodLink RX0 41 Lib.Math.max.name, Cond.static Lib.Math.max.name, Cond.initialized "java/lang/Math", Cond.code Lib.Math.max.name Lib.Math.max.code 2 (some .int), Cond.methodLink RX0 47 Lib.Math.min.name, Cond.static Lib.Math.min.name, Cond.code Lib.Math.min.name Lib.Math.min.code 2 (some .int), Cond.methodLink RX0 50 yX0_hold, Cond.instanceMethod yX0_hold, Cond.selects RX0 yX0_hold yX0_hold, Cond.code yX0_hold cX0_hold 5 (some .int), Cond.methodLink RX3 74 yX0_surge, Cond.instanceMethod yX0_surge, Cond.selects RX0 yX0_surge yX0_surge, Cond.code yX0_surge cX0_surge 3 (some .int), Cond.methodLink RX0 53 yX0_washOut, Cond.instanceMethod yX0_washOut, Cond.selects RX0 yX0_washOut yX0_washOut]
def wsX3_floods_r4 : List Cond := [Cond.code yX0_washOut cX0_washOut 3 none, Cond.methodLink RX3 77 yX0_endYear, Cond.instanceMethod yX0_endYear, Cond.selects RX0 yX0_endYear yX0_endYear, Cond.code yX0_endYear cX0_endYear 4 (some .int), Cond.methodLink RX0 57 yX0_nextGrass, Cond.static yX0_nextGrass, Cond.code yX0_nextGrass cX0_nextGrass 2 (some .int)]
def wsX3_floods : List Cond := .code yX3_floods cX3_floods 5 (some .int) :: ((wsX3_floods_r1 ++ (wsX3_floods_r2 ++ (wsX3_floods_r3 ++ wsX3_floods_r4))) ++ wsX30 ++ wsX00 ++ wsX20)
def wsX3_isAim : List Cond := .code yX3_isAim cX3_isAim 1 (some .boolean) :: ([.methodLink RX3 48 yX3_isWithin, .static yX3_isWithin, .initialized RX3, .code yX3_isWithin cX3_isWithin 3 (some .boolean)])
def wsX3_choosePlan : List Cond := .code yX3_choosePlan cX3_choosePlan 5 (some .boolean) :: ([.fieldLink RX3 44 "DuneBench" "planCells" "[I", .fieldLink RX3 10 "DuneBench" "shore" "LDuneBench$Coast;", .methodLink RX3 59 yX0_has, .instanceMethod yX0_has, .selects RX0 yX0_has yX0_has, .initialized RX0, .code yX0_has cX0_has 2 (some .boolean), .fieldLink RX0 28 "DuneBench$Coast" "cells" "I"] ++ wsX30 ++ wsX00)
def wsX3_plannedFences : List Cond := .code yX3_plannedFences cX3_plannedFences 3 (some .int) :: ([.fieldLink RX3 44 "DuneBench" "planCells" "[I"] ++ wsX30)
def wsX3_worstCrest_r1 : List Cond := [Cond.fieldLink RX3 29 "DuneBench" "weathers" "LDuneBench$Weathers;", Cond.fieldLink RX3 91 "DuneBench$Weathers" "count" "[I", Cond.fieldLink RX3 16 "DuneBench" "trial" "LDuneBench$Coast;", Cond.methodLink RX3 195 Lib.Math.min.name, Cond.static Lib.Math.min.name, Cond.initialized "java/lang/Math", Cond.code Lib.Math.min.name Lib.Math.min.code 2 (some .int), Cond.fieldLink RX3 105 "DuneBench$Coast" "flooded" "I", Cond.methodLink RX3 179 yX3_play, Cond.instanceMethod yX3_play, Cond.selects RX3 yX3_play yX3_play, Cond.initialized RX3, Cond.code yX3_play cX3_play 5 none, Cond.fieldLink RX3 10 "DuneBench" "shore" "LDuneBench$Coast;", Cond.fieldLink RX3 185 "DuneBench$Weathers" "value" "[[I", Cond.fieldLink RX3 189 "DuneBench$Weathers" "kind" "[[I", Cond.methodLink RX3 172 yX0_copyFrom, Cond.instanceMethod yX0_copyFrom, Cond.selects RX0 yX0_copyFrom yX0_copyFrom, Cond.initialized RX0, Cond.code yX0_copyFrom cX0_copyFrom 3 none, Cond.fieldLink RX0 28 "DuneBench$Coast" "cells" "I", Cond.fieldLink RX0 9 "DuneBench$Coast" "height" "[I", Cond.fieldLink RX0 15 "DuneBench$Coast" "grass" "[I"]
def wsX3_worstCrest_r2 : List Cond := [Cond.fieldLink RX0 18 "DuneBench$Coast" "fence" "[I", Cond.fieldLink RX0 21 "DuneBench$Coast" "kept" "[I", Cond.fieldLink RX0 32 "DuneBench$Coast" "sea" "I", Cond.fieldLink RX0 35 "DuneBench$Coast" "behind" "I", Cond.fieldLink RX0 38 "DuneBench$Coast" "flooded" "I", Cond.methodLink RX3 182 yX3_beginYear, Cond.instanceMethod yX3_beginYear, Cond.selects RX3 yX3_beginYear yX3_beginYear, Cond.code yX3_beginYear cX3_beginYear 2 none, Cond.fieldLink RX3 44 "DuneBench" "planCells" "[I", Cond.fieldLink RX3 192 "DuneBench$Coast" "fence" "[I", Cond.fieldLink RX3 40 "DuneBench" "fenceSize" "I", Cond.methodLink RX3 59 yX0_has, Cond.instanceMethod yX0_has, Cond.selects RX0 yX0_has yX0_has, Cond.code yX0_has cX0_has 2 (some .boolean), Cond.methodLink RX3 71 yX0_blow, Cond.instanceMethod yX0_blow, Cond.selects RX0 yX0_blow yX0_blow, Cond.code yX0_blow cX0_blow 6 (some .int), Cond.methodLink RX0 41 Lib.Math.max.name, Cond.static Lib.Math.max.name, Cond.code Lib.Math.max.name Lib.Math.max.code 2 (some .int), Cond.methodLink RX0 47 Lib.Math.min.name]
def wsX3_worstCrest_r3 : List Cond := [Cond.methodLink RX0 50 yX0_hold, Cond.instanceMethod yX0_hold, Cond.selects RX0 yX0_hold yX0_hold, Cond.code yX0_hold cX0_hold 5 (some .int), Cond.methodLink RX3 74 yX0_surge, Cond.instanceMethod yX0_surge, Cond.selects RX0 yX0_surge yX0_surge, Cond.code yX0_surge cX0_surge 3 (some .int), Cond.methodLink RX0 53 yX0_washOut, Cond.instanceMethod yX0_washOut, Cond.selects RX0 yX0_washOut yX0_washOut, Cond.code yX0_washOut cX0_washOut 3 none, Cond.methodLink RX3 77 yX0_endYear, Cond.instanceMethod yX0_endYear, Cond.selects RX0 yX0_endYear yX0_endYear, Cond.code yX0_endYear cX0_endYear 4 (some .int), Cond.methodLink RX0 57 yX0_nextGrass, Cond.static yX0_nextGrass, Cond.code yX0_nextGrass cX0_nextGrass 2 (some .int), Cond.static yX3_isWithin, Cond.code yX3_isWithin cX3_isWithin 3 (some .boolean), Cond.methodLink RX3 102 yX0_greatestHeight, Cond.instanceMethod yX0_greatestHeight, Cond.selects RX0 yX0_greatestHeight yX0_greatestHeight]
def wsX3_worstCrest_r4 : List Cond := [Cond.code yX0_greatestHeight cX0_greatestHeight 3 (some .int)]
def wsX3_worstCrest : List Cond := .code yX3_worstCrest cX3_worstCrest 4 (some .int) :: ((wsX3_worstCrest_r1 ++ (wsX3_worstCrest_r2 ++ (wsX3_worstCrest_r3 ++ wsX3_worstCrest_r4))) ++ wsX30 ++ wsX20 ++ wsX00)
def wsX3_findPlan_r1 : List Cond := [Cond.fieldLink RX3 29 "DuneBench" "weathers" "LDuneBench$Weathers;", Cond.methodLink RX3 121 yX2_lastYear, Cond.instanceMethod yX2_lastYear, Cond.selects RX2 yX2_lastYear yX2_lastYear, Cond.initialized RX2, Cond.code yX2_lastYear cX2_lastYear 3 (some .int), Cond.methodLink RX2 27 Lib.Math.max.name, Cond.static Lib.Math.max.name, Cond.initialized "java/lang/Math", Cond.code Lib.Math.max.name Lib.Math.max.code 2 (some .int), Cond.methodLink RX2 23 yX2_yearEnds, Cond.instanceMethod yX2_yearEnds, Cond.selects RX2 yX2_yearEnds yX2_yearEnds, Cond.code yX2_yearEnds cX2_yearEnds 4 (some .int), Cond.fieldLink RX2 9 "DuneBench$Weathers" "count" "[I", Cond.fieldLink RX2 17 "DuneBench$Weathers" "kind" "[[I", Cond.methodLink RX3 124 yX3_choosePlan, Cond.instanceMethod yX3_choosePlan, Cond.selects RX3 yX3_choosePlan yX3_choosePlan, Cond.initialized RX3, Cond.code yX3_choosePlan cX3_choosePlan 5 (some .boolean), Cond.fieldLink RX3 44 "DuneBench" "planCells" "[I", Cond.fieldLink RX3 10 "DuneBench" "shore" "LDuneBench$Coast;", Cond.methodLink RX3 59 yX0_has]
def wsX3_findPlan_r2 : List Cond := [Cond.instanceMethod yX0_has, Cond.selects RX0 yX0_has yX0_has, Cond.initialized RX0, Cond.code yX0_has cX0_has 2 (some .boolean), Cond.fieldLink RX0 28 "DuneBench$Coast" "cells" "I", Cond.methodLink RX3 114 yX3_plannedFences, Cond.instanceMethod yX3_plannedFences, Cond.selects RX3 yX3_plannedFences yX3_plannedFences, Cond.code yX3_plannedFences cX3_plannedFences 3 (some .int), Cond.methodLink RX3 127 yX3_worstCrest, Cond.instanceMethod yX3_worstCrest, Cond.selects RX3 yX3_worstCrest yX3_worstCrest, Cond.code yX3_worstCrest cX3_worstCrest 4 (some .int), Cond.fieldLink RX3 91 "DuneBench$Weathers" "count" "[I", Cond.fieldLink RX3 16 "DuneBench" "trial" "LDuneBench$Coast;", Cond.methodLink RX3 195 Lib.Math.min.name, Cond.static Lib.Math.min.name, Cond.code Lib.Math.min.name Lib.Math.min.code 2 (some .int), Cond.fieldLink RX3 105 "DuneBench$Coast" "flooded" "I", Cond.methodLink RX3 179 yX3_play, Cond.instanceMethod yX3_play, Cond.selects RX3 yX3_play yX3_play, Cond.code yX3_play cX3_play 5 none, Cond.fieldLink RX3 185 "DuneBench$Weathers" "value" "[[I"]
def wsX3_findPlan_r3 : List Cond := [Cond.fieldLink RX3 189 "DuneBench$Weathers" "kind" "[[I", Cond.methodLink RX3 172 yX0_copyFrom, Cond.instanceMethod yX0_copyFrom, Cond.selects RX0 yX0_copyFrom yX0_copyFrom, Cond.code yX0_copyFrom cX0_copyFrom 3 none, Cond.fieldLink RX0 9 "DuneBench$Coast" "height" "[I", Cond.fieldLink RX0 15 "DuneBench$Coast" "grass" "[I", Cond.fieldLink RX0 18 "DuneBench$Coast" "fence" "[I", Cond.fieldLink RX0 21 "DuneBench$Coast" "kept" "[I", Cond.fieldLink RX0 32 "DuneBench$Coast" "sea" "I", Cond.fieldLink RX0 35 "DuneBench$Coast" "behind" "I", Cond.fieldLink RX0 38 "DuneBench$Coast" "flooded" "I", Cond.methodLink RX3 182 yX3_beginYear, Cond.instanceMethod yX3_beginYear, Cond.selects RX3 yX3_beginYear yX3_beginYear, Cond.code yX3_beginYear cX3_beginYear 2 none, Cond.fieldLink RX3 192 "DuneBench$Coast" "fence" "[I", Cond.fieldLink RX3 40 "DuneBench" "fenceSize" "I", Cond.methodLink RX3 71 yX0_blow, Cond.instanceMethod yX0_blow, Cond.selects RX0 yX0_blow yX0_blow, Cond.code yX0_blow cX0_blow 6 (some .int), Cond.methodLink RX0 41 Lib.Math.max.name, Cond.methodLink RX0 47 Lib.Math.min.name]
def wsX3_findPlan_r4 : List Cond := [Cond.methodLink RX0 50 yX0_hold, Cond.instanceMethod yX0_hold, Cond.selects RX0 yX0_hold yX0_hold, Cond.code yX0_hold cX0_hold 5 (some .int), Cond.methodLink RX3 74 yX0_surge, Cond.instanceMethod yX0_surge, Cond.selects RX0 yX0_surge yX0_surge, Cond.code yX0_surge cX0_surge 3 (some .int), Cond.methodLink RX0 53 yX0_washOut, Cond.instanceMethod yX0_washOut, Cond.selects RX0 yX0_washOut yX0_washOut, Cond.code yX0_washOut cX0_washOut 3 none, Cond.methodLink RX3 77 yX0_endYear, Cond.instanceMethod yX0_endYear, Cond.selects RX0 yX0_endYear yX0_endYear, Cond.code yX0_endYear cX0_endYear 4 (some .int), Cond.methodLink RX0 57 yX0_nextGrass, Cond.static yX0_nextGrass, Cond.code yX0_nextGrass cX0_nextGrass 2 (some .int), Cond.static yX3_isWithin, Cond.code yX3_isWithin cX3_isWithin 3 (some .boolean), Cond.methodLink RX3 102 yX0_greatestHeight, Cond.instanceMethod yX0_greatestHeight, Cond.selects RX0 yX0_greatestHeight yX0_greatestHeight]
def wsX3_findPlan_r5 : List Cond := [Cond.code yX0_greatestHeight cX0_greatestHeight 3 (some .int)]
def wsX3_findPlan : List Cond := .code yX3_findPlan cX3_findPlan 5 (some .boolean) :: ((wsX3_findPlan_r1 ++ (wsX3_findPlan_r2 ++ (wsX3_findPlan_r3 ++ (wsX3_findPlan_r4 ++ wsX3_findPlan_r5)))) ++ wsX30 ++ wsX20 ++ wsX00)
def wsX3_plan_r1 : List Cond := [Cond.fieldLink RX3 44 "DuneBench" "planCells" "[I", Cond.methodLink RX3 108 yX3_isAim, Cond.static yX3_isAim, Cond.initialized RX3, Cond.code yX3_isAim cX3_isAim 1 (some .boolean), Cond.methodLink RX3 48 yX3_isWithin, Cond.static yX3_isWithin, Cond.code yX3_isWithin cX3_isWithin 3 (some .boolean), Cond.methodLink RX3 111 yX3_findPlan, Cond.instanceMethod yX3_findPlan, Cond.selects RX3 yX3_findPlan yX3_findPlan, Cond.code yX3_findPlan cX3_findPlan 5 (some .boolean), Cond.fieldLink RX3 29 "DuneBench" "weathers" "LDuneBench$Weathers;", Cond.methodLink RX3 121 yX2_lastYear, Cond.instanceMethod yX2_lastYear, Cond.selects RX2 yX2_lastYear yX2_lastYear, Cond.initialized RX2, Cond.code yX2_lastYear cX2_lastYear 3 (some .int), Cond.methodLink RX2 27 Lib.Math.max.name, Cond.static Lib.Math.max.name, Cond.initialized "java/lang/Math", Cond.code Lib.Math.max.name Lib.Math.max.code 2 (some .int), Cond.methodLink RX2 23 yX2_yearEnds, Cond.instanceMethod yX2_yearEnds]
def wsX3_plan_r2 : List Cond := [Cond.selects RX2 yX2_yearEnds yX2_yearEnds, Cond.code yX2_yearEnds cX2_yearEnds 4 (some .int), Cond.fieldLink RX2 9 "DuneBench$Weathers" "count" "[I", Cond.fieldLink RX2 17 "DuneBench$Weathers" "kind" "[[I", Cond.methodLink RX3 124 yX3_choosePlan, Cond.instanceMethod yX3_choosePlan, Cond.selects RX3 yX3_choosePlan yX3_choosePlan, Cond.code yX3_choosePlan cX3_choosePlan 5 (some .boolean), Cond.fieldLink RX3 10 "DuneBench" "shore" "LDuneBench$Coast;", Cond.methodLink RX3 59 yX0_has, Cond.instanceMethod yX0_has, Cond.selects RX0 yX0_has yX0_has, Cond.initialized RX0, Cond.code yX0_has cX0_has 2 (some .boolean), Cond.fieldLink RX0 28 "DuneBench$Coast" "cells" "I", Cond.methodLink RX3 114 yX3_plannedFences, Cond.instanceMethod yX3_plannedFences, Cond.selects RX3 yX3_plannedFences yX3_plannedFences, Cond.code yX3_plannedFences cX3_plannedFences 3 (some .int), Cond.methodLink RX3 127 yX3_worstCrest, Cond.instanceMethod yX3_worstCrest, Cond.selects RX3 yX3_worstCrest yX3_worstCrest, Cond.code yX3_worstCrest cX3_worstCrest 4 (some .int), Cond.fieldLink RX3 91 "DuneBench$Weathers" "count" "[I"]
def wsX3_plan_r3 : List Cond := [Cond.fieldLink RX3 16 "DuneBench" "trial" "LDuneBench$Coast;", Cond.methodLink RX3 195 Lib.Math.min.name, Cond.static Lib.Math.min.name, Cond.code Lib.Math.min.name Lib.Math.min.code 2 (some .int), Cond.fieldLink RX3 105 "DuneBench$Coast" "flooded" "I", Cond.methodLink RX3 179 yX3_play, Cond.instanceMethod yX3_play, Cond.selects RX3 yX3_play yX3_play, Cond.code yX3_play cX3_play 5 none, Cond.fieldLink RX3 185 "DuneBench$Weathers" "value" "[[I", Cond.fieldLink RX3 189 "DuneBench$Weathers" "kind" "[[I", Cond.methodLink RX3 172 yX0_copyFrom, Cond.instanceMethod yX0_copyFrom, Cond.selects RX0 yX0_copyFrom yX0_copyFrom, Cond.code yX0_copyFrom cX0_copyFrom 3 none, Cond.fieldLink RX0 9 "DuneBench$Coast" "height" "[I", Cond.fieldLink RX0 15 "DuneBench$Coast" "grass" "[I", Cond.fieldLink RX0 18 "DuneBench$Coast" "fence" "[I", Cond.fieldLink RX0 21 "DuneBench$Coast" "kept" "[I", Cond.fieldLink RX0 32 "DuneBench$Coast" "sea" "I", Cond.fieldLink RX0 35 "DuneBench$Coast" "behind" "I", Cond.fieldLink RX0 38 "DuneBench$Coast" "flooded" "I", Cond.methodLink RX3 182 yX3_beginYear, Cond.instanceMethod yX3_beginYear]
def wsX3_plan_r4 : List Cond := [Cond.selects RX3 yX3_beginYear yX3_beginYear, Cond.code yX3_beginYear cX3_beginYear 2 none, Cond.fieldLink RX3 192 "DuneBench$Coast" "fence" "[I", Cond.fieldLink RX3 40 "DuneBench" "fenceSize" "I", Cond.methodLink RX3 71 yX0_blow, Cond.instanceMethod yX0_blow, Cond.selects RX0 yX0_blow yX0_blow, Cond.code yX0_blow cX0_blow 6 (some .int), Cond.methodLink RX0 41 Lib.Math.max.name, Cond.methodLink RX0 47 Lib.Math.min.name, Cond.methodLink RX0 50 yX0_hold, Cond.instanceMethod yX0_hold, Cond.selects RX0 yX0_hold yX0_hold, Cond.code yX0_hold cX0_hold 5 (some .int), Cond.methodLink RX3 74 yX0_surge, Cond.instanceMethod yX0_surge, Cond.selects RX0 yX0_surge yX0_surge, Cond.code yX0_surge cX0_surge 3 (some .int), Cond.methodLink RX0 53 yX0_washOut, Cond.instanceMethod yX0_washOut, Cond.selects RX0 yX0_washOut yX0_washOut, Cond.code yX0_washOut cX0_washOut 3 none, Cond.methodLink RX3 77 yX0_endYear, Cond.instanceMethod yX0_endYear]
def wsX3_plan_r5 : List Cond := [Cond.selects RX0 yX0_endYear yX0_endYear, Cond.code yX0_endYear cX0_endYear 4 (some .int), Cond.methodLink RX0 57 yX0_nextGrass, Cond.static yX0_nextGrass, Cond.code yX0_nextGrass cX0_nextGrass 2 (some .int), Cond.methodLink RX3 102 yX0_greatestHeight, Cond.instanceMethod yX0_greatestHeight, Cond.selects RX0 yX0_greatestHeight yX0_greatestHeight, Cond.code yX0_greatestHeight cX0_greatestHeight 3 (some .int)]
def wsX3_plan : List Cond := .code yX3_plan cX3_plan 3 (some .int) :: ((wsX3_plan_r1 ++ (wsX3_plan_r2 ++ (wsX3_plan_r3 ++ (wsX3_plan_r4 ++ wsX3_plan_r5)))) ++ wsX30 ++ wsX20 ++ wsX00)
def wsX3_fences_r1 : List Cond := [Cond.methodLink RX3 108 yX3_isAim, Cond.static yX3_isAim, Cond.initialized RX3, Cond.code yX3_isAim cX3_isAim 1 (some .boolean), Cond.methodLink RX3 48 yX3_isWithin, Cond.static yX3_isWithin, Cond.code yX3_isWithin cX3_isWithin 3 (some .boolean), Cond.methodLink RX3 111 yX3_findPlan, Cond.instanceMethod yX3_findPlan, Cond.selects RX3 yX3_findPlan yX3_findPlan, Cond.code yX3_findPlan cX3_findPlan 5 (some .boolean), Cond.fieldLink RX3 29 "DuneBench" "weathers" "LDuneBench$Weathers;", Cond.methodLink RX3 121 yX2_lastYear, Cond.instanceMethod yX2_lastYear, Cond.selects RX2 yX2_lastYear yX2_lastYear, Cond.initialized RX2, Cond.code yX2_lastYear cX2_lastYear 3 (some .int), Cond.methodLink RX2 27 Lib.Math.max.name, Cond.static Lib.Math.max.name, Cond.initialized "java/lang/Math", Cond.code Lib.Math.max.name Lib.Math.max.code 2 (some .int), Cond.methodLink RX2 23 yX2_yearEnds, Cond.instanceMethod yX2_yearEnds, Cond.selects RX2 yX2_yearEnds yX2_yearEnds]
def wsX3_fences_r2 : List Cond := [Cond.code yX2_yearEnds cX2_yearEnds 4 (some .int), Cond.fieldLink RX2 9 "DuneBench$Weathers" "count" "[I", Cond.fieldLink RX2 17 "DuneBench$Weathers" "kind" "[[I", Cond.methodLink RX3 124 yX3_choosePlan, Cond.instanceMethod yX3_choosePlan, Cond.selects RX3 yX3_choosePlan yX3_choosePlan, Cond.code yX3_choosePlan cX3_choosePlan 5 (some .boolean), Cond.fieldLink RX3 44 "DuneBench" "planCells" "[I", Cond.fieldLink RX3 10 "DuneBench" "shore" "LDuneBench$Coast;", Cond.methodLink RX3 59 yX0_has, Cond.instanceMethod yX0_has, Cond.selects RX0 yX0_has yX0_has, Cond.initialized RX0, Cond.code yX0_has cX0_has 2 (some .boolean), Cond.fieldLink RX0 28 "DuneBench$Coast" "cells" "I", Cond.methodLink RX3 114 yX3_plannedFences, Cond.instanceMethod yX3_plannedFences, Cond.selects RX3 yX3_plannedFences yX3_plannedFences, Cond.code yX3_plannedFences cX3_plannedFences 3 (some .int), Cond.methodLink RX3 127 yX3_worstCrest, Cond.instanceMethod yX3_worstCrest, Cond.selects RX3 yX3_worstCrest yX3_worstCrest, Cond.code yX3_worstCrest cX3_worstCrest 4 (some .int), Cond.fieldLink RX3 91 "DuneBench$Weathers" "count" "[I"]
def wsX3_fences_r3 : List Cond := [Cond.fieldLink RX3 16 "DuneBench" "trial" "LDuneBench$Coast;", Cond.methodLink RX3 195 Lib.Math.min.name, Cond.static Lib.Math.min.name, Cond.code Lib.Math.min.name Lib.Math.min.code 2 (some .int), Cond.fieldLink RX3 105 "DuneBench$Coast" "flooded" "I", Cond.methodLink RX3 179 yX3_play, Cond.instanceMethod yX3_play, Cond.selects RX3 yX3_play yX3_play, Cond.code yX3_play cX3_play 5 none, Cond.fieldLink RX3 185 "DuneBench$Weathers" "value" "[[I", Cond.fieldLink RX3 189 "DuneBench$Weathers" "kind" "[[I", Cond.methodLink RX3 172 yX0_copyFrom, Cond.instanceMethod yX0_copyFrom, Cond.selects RX0 yX0_copyFrom yX0_copyFrom, Cond.code yX0_copyFrom cX0_copyFrom 3 none, Cond.fieldLink RX0 9 "DuneBench$Coast" "height" "[I", Cond.fieldLink RX0 15 "DuneBench$Coast" "grass" "[I", Cond.fieldLink RX0 18 "DuneBench$Coast" "fence" "[I", Cond.fieldLink RX0 21 "DuneBench$Coast" "kept" "[I", Cond.fieldLink RX0 32 "DuneBench$Coast" "sea" "I", Cond.fieldLink RX0 35 "DuneBench$Coast" "behind" "I", Cond.fieldLink RX0 38 "DuneBench$Coast" "flooded" "I", Cond.methodLink RX3 182 yX3_beginYear, Cond.instanceMethod yX3_beginYear]
def wsX3_fences_r4 : List Cond := [Cond.selects RX3 yX3_beginYear yX3_beginYear, Cond.code yX3_beginYear cX3_beginYear 2 none, Cond.fieldLink RX3 192 "DuneBench$Coast" "fence" "[I", Cond.fieldLink RX3 40 "DuneBench" "fenceSize" "I", Cond.methodLink RX3 71 yX0_blow, Cond.instanceMethod yX0_blow, Cond.selects RX0 yX0_blow yX0_blow, Cond.code yX0_blow cX0_blow 6 (some .int), Cond.methodLink RX0 41 Lib.Math.max.name, Cond.methodLink RX0 47 Lib.Math.min.name, Cond.methodLink RX0 50 yX0_hold, Cond.instanceMethod yX0_hold, Cond.selects RX0 yX0_hold yX0_hold, Cond.code yX0_hold cX0_hold 5 (some .int), Cond.methodLink RX3 74 yX0_surge, Cond.instanceMethod yX0_surge, Cond.selects RX0 yX0_surge yX0_surge, Cond.code yX0_surge cX0_surge 3 (some .int), Cond.methodLink RX0 53 yX0_washOut, Cond.instanceMethod yX0_washOut, Cond.selects RX0 yX0_washOut yX0_washOut, Cond.code yX0_washOut cX0_washOut 3 none, Cond.methodLink RX3 77 yX0_endYear, Cond.instanceMethod yX0_endYear]
def wsX3_fences_r5 : List Cond := [Cond.selects RX0 yX0_endYear yX0_endYear, Cond.code yX0_endYear cX0_endYear 4 (some .int), Cond.methodLink RX0 57 yX0_nextGrass, Cond.static yX0_nextGrass, Cond.code yX0_nextGrass cX0_nextGrass 2 (some .int), Cond.methodLink RX3 102 yX0_greatestHeight, Cond.instanceMethod yX0_greatestHeight, Cond.selects RX0 yX0_greatestHeight yX0_greatestHeight, Cond.code yX0_greatestHeight cX0_greatestHeight 3 (some .int)]
def wsX3_fences : List Cond := .code yX3_fences cX3_fences 2 (some .int) :: ((wsX3_fences_r1 ++ (wsX3_fences_r2 ++ (wsX3_fences_r3 ++ (wsX3_fences_r4 ++ wsX3_fences_r5)))) ++ wsX30 ++ wsX20 ++ wsX00)
def wsX3_most_r1 : List Cond := [Cond.fieldLink RX3 29 "DuneBench" "weathers" "LDuneBench$Weathers;", Cond.methodLink RX3 130 Lib.Math.max.name, Cond.static Lib.Math.max.name, Cond.initialized "java/lang/Math", Cond.code Lib.Math.max.name Lib.Math.max.code 2 (some .int), Cond.methodLink RX3 117 yX2_any, Cond.instanceMethod yX2_any, Cond.selects RX2 yX2_any yX2_any, Cond.initialized RX2, Cond.code yX2_any cX2_any 2 (some .boolean), Cond.fieldLink RX2 9 "DuneBench$Weathers" "count" "[I", Cond.methodLink RX3 121 yX2_lastYear, Cond.instanceMethod yX2_lastYear, Cond.selects RX2 yX2_lastYear yX2_lastYear, Cond.code yX2_lastYear cX2_lastYear 3 (some .int), Cond.methodLink RX2 27 Lib.Math.max.name, Cond.methodLink RX2 23 yX2_yearEnds, Cond.instanceMethod yX2_yearEnds, Cond.selects RX2 yX2_yearEnds yX2_yearEnds, Cond.code yX2_yearEnds cX2_yearEnds 4 (some .int), Cond.fieldLink RX2 17 "DuneBench$Weathers" "kind" "[[I", Cond.methodLink RX3 124 yX3_choosePlan, Cond.instanceMethod yX3_choosePlan, Cond.selects RX3 yX3_choosePlan yX3_choosePlan]
def wsX3_most_r2 : List Cond := [Cond.initialized RX3, Cond.code yX3_choosePlan cX3_choosePlan 5 (some .boolean), Cond.fieldLink RX3 44 "DuneBench" "planCells" "[I", Cond.fieldLink RX3 10 "DuneBench" "shore" "LDuneBench$Coast;", Cond.methodLink RX3 59 yX0_has, Cond.instanceMethod yX0_has, Cond.selects RX0 yX0_has yX0_has, Cond.initialized RX0, Cond.code yX0_has cX0_has 2 (some .boolean), Cond.fieldLink RX0 28 "DuneBench$Coast" "cells" "I", Cond.methodLink RX3 127 yX3_worstCrest, Cond.instanceMethod yX3_worstCrest, Cond.selects RX3 yX3_worstCrest yX3_worstCrest, Cond.code yX3_worstCrest cX3_worstCrest 4 (some .int), Cond.fieldLink RX3 91 "DuneBench$Weathers" "count" "[I", Cond.fieldLink RX3 16 "DuneBench" "trial" "LDuneBench$Coast;", Cond.methodLink RX3 195 Lib.Math.min.name, Cond.static Lib.Math.min.name, Cond.code Lib.Math.min.name Lib.Math.min.code 2 (some .int), Cond.fieldLink RX3 105 "DuneBench$Coast" "flooded" "I", Cond.methodLink RX3 179 yX3_play, Cond.instanceMethod yX3_play, Cond.selects RX3 yX3_play yX3_play, Cond.code yX3_play cX3_play 5 none]
def wsX3_most_r3 : List Cond := [Cond.fieldLink RX3 185 "DuneBench$Weathers" "value" "[[I", Cond.fieldLink RX3 189 "DuneBench$Weathers" "kind" "[[I", Cond.methodLink RX3 172 yX0_copyFrom, Cond.instanceMethod yX0_copyFrom, Cond.selects RX0 yX0_copyFrom yX0_copyFrom, Cond.code yX0_copyFrom cX0_copyFrom 3 none, Cond.fieldLink RX0 9 "DuneBench$Coast" "height" "[I", Cond.fieldLink RX0 15 "DuneBench$Coast" "grass" "[I", Cond.fieldLink RX0 18 "DuneBench$Coast" "fence" "[I", Cond.fieldLink RX0 21 "DuneBench$Coast" "kept" "[I", Cond.fieldLink RX0 32 "DuneBench$Coast" "sea" "I", Cond.fieldLink RX0 35 "DuneBench$Coast" "behind" "I", Cond.fieldLink RX0 38 "DuneBench$Coast" "flooded" "I", Cond.methodLink RX3 182 yX3_beginYear, Cond.instanceMethod yX3_beginYear, Cond.selects RX3 yX3_beginYear yX3_beginYear, Cond.code yX3_beginYear cX3_beginYear 2 none, Cond.fieldLink RX3 192 "DuneBench$Coast" "fence" "[I", Cond.fieldLink RX3 40 "DuneBench" "fenceSize" "I", Cond.methodLink RX3 71 yX0_blow, Cond.instanceMethod yX0_blow, Cond.selects RX0 yX0_blow yX0_blow, Cond.code yX0_blow cX0_blow 6 (some .int), Cond.methodLink RX0 41 Lib.Math.max.name]
def wsX3_most_r4 : List Cond := [Cond.methodLink RX0 47 Lib.Math.min.name, Cond.methodLink RX0 50 yX0_hold, Cond.instanceMethod yX0_hold, Cond.selects RX0 yX0_hold yX0_hold, Cond.code yX0_hold cX0_hold 5 (some .int), Cond.methodLink RX3 74 yX0_surge, Cond.instanceMethod yX0_surge, Cond.selects RX0 yX0_surge yX0_surge, Cond.code yX0_surge cX0_surge 3 (some .int), Cond.methodLink RX0 53 yX0_washOut, Cond.instanceMethod yX0_washOut, Cond.selects RX0 yX0_washOut yX0_washOut, Cond.code yX0_washOut cX0_washOut 3 none, Cond.methodLink RX3 77 yX0_endYear, Cond.instanceMethod yX0_endYear, Cond.selects RX0 yX0_endYear yX0_endYear, Cond.code yX0_endYear cX0_endYear 4 (some .int), Cond.methodLink RX0 57 yX0_nextGrass, Cond.static yX0_nextGrass, Cond.code yX0_nextGrass cX0_nextGrass 2 (some .int), Cond.static yX3_isWithin, Cond.code yX3_isWithin cX3_isWithin 3 (some .boolean), Cond.methodLink RX3 102 yX0_greatestHeight, Cond.instanceMethod yX0_greatestHeight]
def wsX3_most_r5 : List Cond := [Cond.selects RX0 yX0_greatestHeight yX0_greatestHeight, Cond.code yX0_greatestHeight cX0_greatestHeight 3 (some .int)]
def wsX3_most : List Cond := .code yX3_most cX3_most 4 (some .int) :: ((wsX3_most_r1 ++ (wsX3_most_r2 ++ (wsX3_most_r3 ++ (wsX3_most_r4 ++ wsX3_most_r5)))) ++ wsX30 ++ wsX20 ++ wsX00)
def wsX3_read : List Cond := .code yX3_read cX3_read 3 (some .int) :: ([.fieldLink RX3 10 "DuneBench" "shore" "LDuneBench$Coast;", .fieldLink RX3 36 "DuneBench" "survey" "LDuneBench$Survey;", .methodLink RX3 59 yX0_has, .instanceMethod yX0_has, .selects RX0 yX0_has yX0_has, .initialized RX0, .code yX0_has cX0_has 2 (some .boolean), .fieldLink RX0 28 "DuneBench$Coast" "cells" "I", .methodLink RX3 48 yX3_isWithin, .static yX3_isWithin, .initialized RX3, .code yX3_isWithin cX3_isWithin 3 (some .boolean), .methodLink RX3 136 yX1_put, .instanceMethod yX1_put, .selects RX1 yX1_put yX1_put, .initialized RX1, .code yX1_put cX1_put 4 (some .int), .fieldLink RX1 9 "DuneBench$Survey" "reading" "[I"] ++ wsX30 ++ wsX00 ++ wsX10)
def wsX3_take : List Cond := .code yX3_take cX3_take 3 (some .int) :: ([.fieldLink RX3 10 "DuneBench" "shore" "LDuneBench$Coast;", .fieldLink RX3 139 "DuneBench$Coast" "cells" "I", .fieldLink RX3 36 "DuneBench" "survey" "LDuneBench$Survey;", .fieldLink RX3 142 "DuneBench$Coast" "height" "[I", .methodLink RX3 136 yX1_put, .instanceMethod yX1_put, .selects RX1 yX1_put yX1_put, .initialized RX1, .code yX1_put cX1_put 4 (some .int), .fieldLink RX1 9 "DuneBench$Survey" "reading" "[I"] ++ wsX30 ++ wsX00 ++ wsX10)
def wsX3_isFractionPart : List Cond := .code yX3_isFractionPart cX3_isFractionPart 1 (some .boolean) :: ([.methodLink RX3 48 yX3_isWithin, .static yX3_isWithin, .initialized RX3, .code yX3_isWithin cX3_isWithin 3 (some .boolean)])
def wsX3_cleared : List Cond := .code yX3_cleared cX3_cleared 3 (some .int) :: ([])
def wsX3_level_r1 : List Cond := [Cond.fieldLink RX3 10 "DuneBench" "shore" "LDuneBench$Coast;", Cond.fieldLink RX3 36 "DuneBench" "survey" "LDuneBench$Survey;", Cond.fieldLink RX3 139 "DuneBench$Coast" "cells" "I", Cond.methodLink RX3 59 yX0_has, Cond.instanceMethod yX0_has, Cond.selects RX0 yX0_has yX0_has, Cond.initialized RX0, Cond.code yX0_has cX0_has 2 (some .boolean), Cond.fieldLink RX0 28 "DuneBench$Coast" "cells" "I", Cond.methodLink RX3 145 yX3_isFractionPart, Cond.static yX3_isFractionPart, Cond.initialized RX3, Cond.code yX3_isFractionPart cX3_isFractionPart 1 (some .boolean), Cond.methodLink RX3 48 yX3_isWithin, Cond.static yX3_isWithin, Cond.code yX3_isWithin cX3_isWithin 3 (some .boolean), Cond.methodLink RX3 148 yX1_readings, Cond.instanceMethod yX1_readings, Cond.selects RX1 yX1_readings yX1_readings, Cond.initialized RX1, Cond.code yX1_readings cX1_readings 3 (some .int), Cond.fieldLink RX1 9 "DuneBench$Survey" "reading" "[I", Cond.methodLink RX3 151 yX1_scaledLevel, Cond.instanceMethod yX1_scaledLevel]
def wsX3_level_r2 : List Cond := [Cond.selects RX1 yX1_scaledLevel yX1_scaledLevel, Cond.code yX1_scaledLevel cX1_scaledLevel 7 (some .int), Cond.methodLink RX1 18 yX1_nearest, Cond.instanceMethod yX1_nearest, Cond.selects RX1 yX1_nearest yX1_nearest, Cond.code yX1_nearest cX1_nearest 7 (some .int), Cond.methodLink RX3 154 yX3_cleared, Cond.static yX3_cleared, Cond.code yX3_cleared cX3_cleared 3 (some .int)]
def wsX3_level : List Cond := .code yX3_level cX3_level 3 (some .int) :: ((wsX3_level_r1 ++ wsX3_level_r2) ++ wsX30 ++ wsX00 ++ wsX10)
def wsX3_volume_r1 : List Cond := [Cond.fieldLink RX3 36 "DuneBench" "survey" "LDuneBench$Survey;", Cond.fieldLink RX3 10 "DuneBench" "shore" "LDuneBench$Coast;", Cond.fieldLink RX3 139 "DuneBench$Coast" "cells" "I", Cond.methodLink RX3 145 yX3_isFractionPart, Cond.static yX3_isFractionPart, Cond.initialized RX3, Cond.code yX3_isFractionPart cX3_isFractionPart 1 (some .boolean), Cond.methodLink RX3 48 yX3_isWithin, Cond.static yX3_isWithin, Cond.code yX3_isWithin cX3_isWithin 3 (some .boolean), Cond.methodLink RX3 148 yX1_readings, Cond.instanceMethod yX1_readings, Cond.selects RX1 yX1_readings yX1_readings, Cond.initialized RX1, Cond.code yX1_readings cX1_readings 3 (some .int), Cond.fieldLink RX1 9 "DuneBench$Survey" "reading" "[I", Cond.methodLink RX3 157 yX1_scaledVolume, Cond.instanceMethod yX1_scaledVolume, Cond.selects RX1 yX1_scaledVolume yX1_scaledVolume, Cond.code yX1_scaledVolume cX1_scaledVolume 5 (some .int), Cond.methodLink RX1 22 yX1_scaledLevel, Cond.instanceMethod yX1_scaledLevel, Cond.selects RX1 yX1_scaledLevel yX1_scaledLevel, Cond.code yX1_scaledLevel cX1_scaledLevel 7 (some .int)]
def wsX3_volume_r2 : List Cond := [Cond.methodLink RX1 18 yX1_nearest, Cond.instanceMethod yX1_nearest, Cond.selects RX1 yX1_nearest yX1_nearest, Cond.code yX1_nearest cX1_nearest 7 (some .int), Cond.methodLink RX3 154 yX3_cleared, Cond.static yX3_cleared, Cond.code yX3_cleared cX3_cleared 3 (some .int)]
def wsX3_volume : List Cond := .code yX3_volume cX3_volume 2 (some .int) :: ((wsX3_volume_r1 ++ wsX3_volume_r2) ++ wsX30 ++ wsX00 ++ wsX10)
def wsX3_doubt_r1 : List Cond := [Cond.fieldLink RX3 36 "DuneBench" "survey" "LDuneBench$Survey;", Cond.fieldLink RX3 10 "DuneBench" "shore" "LDuneBench$Coast;", Cond.fieldLink RX3 139 "DuneBench$Coast" "cells" "I", Cond.methodLink RX3 145 yX3_isFractionPart, Cond.static yX3_isFractionPart, Cond.initialized RX3, Cond.code yX3_isFractionPart cX3_isFractionPart 1 (some .boolean), Cond.methodLink RX3 48 yX3_isWithin, Cond.static yX3_isWithin, Cond.code yX3_isWithin cX3_isWithin 3 (some .boolean), Cond.methodLink RX3 148 yX1_readings, Cond.instanceMethod yX1_readings, Cond.selects RX1 yX1_readings yX1_readings, Cond.initialized RX1, Cond.code yX1_readings cX1_readings 3 (some .int), Cond.fieldLink RX1 9 "DuneBench$Survey" "reading" "[I", Cond.methodLink RX3 160 yX1_scaledDoubt, Cond.instanceMethod yX1_scaledDoubt, Cond.selects RX1 yX1_scaledDoubt yX1_scaledDoubt, Cond.code yX1_scaledDoubt cX1_scaledDoubt 5 (some .int), Cond.methodLink RX1 30 Lib.Math.abs.name, Cond.static Lib.Math.abs.name, Cond.initialized "java/lang/Math", Cond.code Lib.Math.abs.name Lib.Math.abs.code 1 (some .int)]
def wsX3_doubt_r2 : List Cond := [Cond.methodLink RX1 36 Lib.Math.max.name, Cond.static Lib.Math.max.name, Cond.code Lib.Math.max.name Lib.Math.max.code 2 (some .int), Cond.methodLink RX1 26 yX1_scaledVolume, Cond.instanceMethod yX1_scaledVolume, Cond.selects RX1 yX1_scaledVolume yX1_scaledVolume, Cond.code yX1_scaledVolume cX1_scaledVolume 5 (some .int), Cond.methodLink RX1 22 yX1_scaledLevel, Cond.instanceMethod yX1_scaledLevel, Cond.selects RX1 yX1_scaledLevel yX1_scaledLevel, Cond.code yX1_scaledLevel cX1_scaledLevel 7 (some .int), Cond.methodLink RX1 18 yX1_nearest, Cond.instanceMethod yX1_nearest, Cond.selects RX1 yX1_nearest yX1_nearest, Cond.code yX1_nearest cX1_nearest 7 (some .int), Cond.methodLink RX3 154 yX3_cleared, Cond.static yX3_cleared, Cond.code yX3_cleared cX3_cleared 3 (some .int)]
def wsX3_doubt : List Cond := .code yX3_doubt cX3_doubt 2 (some .int) :: ((wsX3_doubt_r1 ++ wsX3_doubt_r2) ++ wsX30 ++ wsX00 ++ wsX10)
def wsX3_many_r1 : List Cond := [Cond.fieldLink RX3 10 "DuneBench" "shore" "LDuneBench$Coast;", Cond.fieldLink RX3 139 "DuneBench$Coast" "cells" "I", Cond.fieldLink RX3 163 "DuneBench$Coast" "sea" "I", Cond.fieldLink RX3 166 "DuneBench$Coast" "behind" "I", Cond.fieldLink RX3 105 "DuneBench$Coast" "flooded" "I", Cond.fieldLink RX3 36 "DuneBench" "survey" "LDuneBench$Survey;", Cond.fieldLink RX3 29 "DuneBench" "weathers" "LDuneBench$Weathers;", Cond.fieldLink RX3 91 "DuneBench$Weathers" "count" "[I", Cond.methodLink RX3 169 yX0_heightsTogether, Cond.instanceMethod yX0_heightsTogether, Cond.selects RX0 yX0_heightsTogether yX0_heightsTogether, Cond.initialized RX0, Cond.code yX0_heightsTogether cX0_heightsTogether 3 (some .int), Cond.fieldLink RX0 28 "DuneBench$Coast" "cells" "I", Cond.fieldLink RX0 9 "DuneBench$Coast" "height" "[I", Cond.methodLink RX3 102 yX0_greatestHeight, Cond.instanceMethod yX0_greatestHeight, Cond.selects RX0 yX0_greatestHeight yX0_greatestHeight, Cond.code yX0_greatestHeight cX0_greatestHeight 3 (some .int), Cond.methodLink RX0 41 Lib.Math.max.name, Cond.static Lib.Math.max.name, Cond.initialized "java/lang/Math", Cond.code Lib.Math.max.name Lib.Math.max.code 2 (some .int), Cond.methodLink RX3 148 yX1_readings]
def wsX3_many_r2 : List Cond := [Cond.instanceMethod yX1_readings, Cond.selects RX1 yX1_readings yX1_readings, Cond.initialized RX1, Cond.code yX1_readings cX1_readings 3 (some .int), Cond.fieldLink RX1 9 "DuneBench$Survey" "reading" "[I", Cond.methodLink RX3 48 yX3_isWithin, Cond.static yX3_isWithin, Cond.initialized RX3, Cond.code yX3_isWithin cX3_isWithin 3 (some .boolean)]
def wsX3_many : List Cond := .code yX3_many cX3_many 2 (some .int) :: ((wsX3_many_r1 ++ wsX3_many_r2) ++ wsX30 ++ wsX00 ++ wsX20 ++ wsX10)
def wsX3_keep : List Cond := .code yX3_keep cX3_keep 1 (some .int) :: ([.fieldLink RX3 19 "DuneBench" "saved" "LDuneBench$Coast;", .fieldLink RX3 10 "DuneBench" "shore" "LDuneBench$Coast;", .fieldLink RX3 22 "DuneBench" "isSaved" "Z", .methodLink RX3 172 yX0_copyFrom, .instanceMethod yX0_copyFrom, .selects RX0 yX0_copyFrom yX0_copyFrom, .initialized RX0, .code yX0_copyFrom cX0_copyFrom 3 none, .fieldLink RX0 28 "DuneBench$Coast" "cells" "I", .fieldLink RX0 9 "DuneBench$Coast" "height" "[I", .fieldLink RX0 15 "DuneBench$Coast" "grass" "[I", .fieldLink RX0 18 "DuneBench$Coast" "fence" "[I", .fieldLink RX0 21 "DuneBench$Coast" "kept" "[I", .fieldLink RX0 32 "DuneBench$Coast" "sea" "I", .fieldLink RX0 35 "DuneBench$Coast" "behind" "I", .fieldLink RX0 38 "DuneBench$Coast" "flooded" "I"] ++ wsX30 ++ wsX00)
def wsX3_back : List Cond := .code yX3_back cX3_back 1 (some .int) :: ([.fieldLink RX3 22 "DuneBench" "isSaved" "Z", .fieldLink RX3 19 "DuneBench" "saved" "LDuneBench$Coast;", .fieldLink RX3 139 "DuneBench$Coast" "cells" "I", .fieldLink RX3 10 "DuneBench" "shore" "LDuneBench$Coast;", .methodLink RX3 172 yX0_copyFrom, .instanceMethod yX0_copyFrom, .selects RX0 yX0_copyFrom yX0_copyFrom, .initialized RX0, .code yX0_copyFrom cX0_copyFrom 3 none, .fieldLink RX0 28 "DuneBench$Coast" "cells" "I", .fieldLink RX0 9 "DuneBench$Coast" "height" "[I", .fieldLink RX0 15 "DuneBench$Coast" "grass" "[I", .fieldLink RX0 18 "DuneBench$Coast" "fence" "[I", .fieldLink RX0 21 "DuneBench$Coast" "kept" "[I", .fieldLink RX0 32 "DuneBench$Coast" "sea" "I", .fieldLink RX0 35 "DuneBench$Coast" "behind" "I", .fieldLink RX0 38 "DuneBench$Coast" "flooded" "I"] ++ wsX30 ++ wsX00)
def wsX4_begin : List Cond := .code yX4_begin cX4_begin 3 none :: ([.fieldLink RX4 7 "DuneBenchModel" "n" "I", .fieldLink RX4 16 "DuneBenchModel" "height" "[I", .fieldLink RX4 20 "DuneBenchModel" "grass" "[I", .fieldLink RX4 23 "DuneBenchModel" "fence" "[I", .fieldLink RX4 26 "DuneBenchModel" "gained" "[I", .fieldLink RX4 47 "DuneBenchModel" "reading" "[I", .fieldLink RX4 29 "DuneBenchModel" "sea" "[I", .fieldLink RX4 32 "DuneBenchModel" "behind" "[I", .fieldLink RX4 35 "DuneBenchModel" "flooded" "[I"] ++ wsX40)
def wsX4_init : List Cond := .code yX4_init cX4_init 1 none :: ([.methodLink RX4 1 objectInit, .instanceMethod objectInit, .code objectInit ⟨#[0xb1]⟩ 1 none, .fieldLink RX4 7 "DuneBenchModel" "n" "I", .fieldLink RX4 13 "DuneBenchModel" "size" "I", .arrayClass .int, .fieldLink RX4 16 "DuneBenchModel" "height" "[I", .fieldLink RX4 20 "DuneBenchModel" "grass" "[I", .fieldLink RX4 23 "DuneBenchModel" "fence" "[I", .fieldLink RX4 26 "DuneBenchModel" "gained" "[I", .fieldLink RX4 29 "DuneBenchModel" "sea" "[I", .fieldLink RX4 32 "DuneBenchModel" "behind" "[I", .fieldLink RX4 35 "DuneBenchModel" "flooded" "[I", .fieldLink RX4 38 "DuneBenchModel" "events" "[I", .fieldLink RX4 41 "DuneBenchModel" "kindOf" "[I", .fieldLink RX4 44 "DuneBenchModel" "valueOf" "[I", .fieldLink RX4 47 "DuneBenchModel" "reading" "[I", .fieldLink RX4 50 "DuneBenchModel" "fences" "[I", .fieldLink RX4 53 "DuneBenchModel" "best" "[I", .methodLink RX4 56 yX4_begin, .instanceMethod yX4_begin, .selects RX4 yX4_begin yX4_begin, .initialized RX4, .code yX4_begin cX4_begin 3 none] ++ wsX40)
def wsX4_in : List Cond := .code yX4_in cX4_in 3 (some .boolean) :: ([])
def wsX4_isCell : List Cond := .code yX4_isCell cX4_isCell 2 (some .boolean) :: ([.fieldLink RX4 7 "DuneBenchModel" "n" "I", .methodLink RX4 60 yX4_in, .static yX4_in, .initialized RX4, .code yX4_in cX4_in 3 (some .boolean)] ++ wsX40)
def wsX4_isWeather : List Cond := .code yX4_isWeather cX4_isWeather 1 (some .boolean) :: ([.methodLink RX4 60 yX4_in, .static yX4_in, .initialized RX4, .code yX4_in cX4_in 3 (some .boolean)])
def wsX4_copy : List Cond := .code yX4_copy cX4_copy 4 none :: ([.fieldLink RX4 16 "DuneBenchModel" "height" "[I", .fieldLink RX4 20 "DuneBenchModel" "grass" "[I", .fieldLink RX4 23 "DuneBenchModel" "fence" "[I", .fieldLink RX4 26 "DuneBenchModel" "gained" "[I", .fieldLink RX4 29 "DuneBenchModel" "sea" "[I", .fieldLink RX4 32 "DuneBenchModel" "behind" "[I", .fieldLink RX4 35 "DuneBenchModel" "flooded" "[I"] ++ wsX40)
def wsX4_coast : List Cond := .code yX4_coast cX4_coast 2 (some .int) :: ([.methodLink RX4 60 yX4_in, .static yX4_in, .initialized RX4, .code yX4_in cX4_in 3 (some .boolean), .methodLink RX4 56 yX4_begin, .instanceMethod yX4_begin, .selects RX4 yX4_begin yX4_begin, .code yX4_begin cX4_begin 3 none, .fieldLink RX4 7 "DuneBenchModel" "n" "I", .fieldLink RX4 16 "DuneBenchModel" "height" "[I", .fieldLink RX4 20 "DuneBenchModel" "grass" "[I", .fieldLink RX4 23 "DuneBenchModel" "fence" "[I", .fieldLink RX4 26 "DuneBenchModel" "gained" "[I", .fieldLink RX4 47 "DuneBenchModel" "reading" "[I", .fieldLink RX4 29 "DuneBenchModel" "sea" "[I", .fieldLink RX4 32 "DuneBenchModel" "behind" "[I", .fieldLink RX4 35 "DuneBenchModel" "flooded" "[I"] ++ wsX40)
def wsX4_set : List Cond := .code yX4_set cX4_set 5 (some .int) :: ([.fieldLink RX4 16 "DuneBenchModel" "height" "[I", .fieldLink RX4 20 "DuneBenchModel" "grass" "[I", .fieldLink RX4 23 "DuneBenchModel" "fence" "[I", .methodLink RX4 64 yX4_isCell, .instanceMethod yX4_isCell, .selects RX4 yX4_isCell yX4_isCell, .initialized RX4, .code yX4_isCell cX4_isCell 2 (some .boolean), .fieldLink RX4 7 "DuneBenchModel" "n" "I", .methodLink RX4 60 yX4_in, .static yX4_in, .code yX4_in cX4_in 3 (some .boolean)] ++ wsX40)
def wsX4_of : List Cond := .code yX4_of cX4_of 3 (some .int) :: ([.fieldLink RX4 16 "DuneBenchModel" "height" "[I", .fieldLink RX4 20 "DuneBenchModel" "grass" "[I", .fieldLink RX4 23 "DuneBenchModel" "fence" "[I", .fieldLink RX4 26 "DuneBenchModel" "gained" "[I", .methodLink RX4 64 yX4_isCell, .instanceMethod yX4_isCell, .selects RX4 yX4_isCell yX4_isCell, .initialized RX4, .code yX4_isCell cX4_isCell 2 (some .boolean), .fieldLink RX4 7 "DuneBenchModel" "n" "I", .methodLink RX4 60 yX4_in, .static yX4_in, .code yX4_in cX4_in 3 (some .boolean)] ++ wsX40)
def wsX4_keeps : List Cond := .code yX4_keeps cX4_keeps 6 (some .int) :: ([.fieldLink RX4 20 "DuneBenchModel" "grass" "[I", .fieldLink RX4 23 "DuneBenchModel" "fence" "[I", .fieldLink RX4 16 "DuneBenchModel" "height" "[I", .fieldLink RX4 26 "DuneBenchModel" "gained" "[I"] ++ wsX40)
def wsX4_blow : List Cond := .code yX4_blow cX4_blow 8 (some .int) :: ([.fieldLink RX4 7 "DuneBenchModel" "n" "I", .fieldLink RX4 20 "DuneBenchModel" "grass" "[I", .fieldLink RX4 16 "DuneBenchModel" "height" "[I", .fieldLink RX4 32 "DuneBenchModel" "behind" "[I", .methodLink RX4 68 yX4_keeps, .instanceMethod yX4_keeps, .selects RX4 yX4_keeps yX4_keeps, .initialized RX4, .code yX4_keeps cX4_keeps 6 (some .int), .fieldLink RX4 23 "DuneBenchModel" "fence" "[I", .fieldLink RX4 26 "DuneBenchModel" "gained" "[I"] ++ wsX40)
def wsX4_flood : List Cond := .code yX4_flood cX4_flood 6 (some .int) :: ([.fieldLink RX4 7 "DuneBenchModel" "n" "I", .fieldLink RX4 16 "DuneBenchModel" "height" "[I", .fieldLink RX4 29 "DuneBenchModel" "sea" "[I", .fieldLink RX4 20 "DuneBenchModel" "grass" "[I", .fieldLink RX4 23 "DuneBenchModel" "fence" "[I", .fieldLink RX4 35 "DuneBenchModel" "flooded" "[I"] ++ wsX40)
def wsX4_endYear : List Cond := .code yX4_endYear cX4_endYear 5 (some .int) :: ([.fieldLink RX4 7 "DuneBenchModel" "n" "I", .fieldLink RX4 20 "DuneBenchModel" "grass" "[I", .fieldLink RX4 26 "DuneBenchModel" "gained" "[I", .methodLink RX4 60 yX4_in, .static yX4_in, .initialized RX4, .code yX4_in cX4_in 3 (some .boolean)] ++ wsX40)
def wsX4_wind : List Cond := .code yX4_wind cX4_wind 2 (some .int) :: ([.methodLink RX4 60 yX4_in, .static yX4_in, .initialized RX4, .code yX4_in cX4_in 3 (some .boolean), .methodLink RX4 72 yX4_blow, .instanceMethod yX4_blow, .selects RX4 yX4_blow yX4_blow, .code yX4_blow cX4_blow 8 (some .int), .fieldLink RX4 7 "DuneBenchModel" "n" "I", .fieldLink RX4 20 "DuneBenchModel" "grass" "[I", .fieldLink RX4 16 "DuneBenchModel" "height" "[I", .fieldLink RX4 32 "DuneBenchModel" "behind" "[I", .methodLink RX4 68 yX4_keeps, .instanceMethod yX4_keeps, .selects RX4 yX4_keeps yX4_keeps, .code yX4_keeps cX4_keeps 6 (some .int), .fieldLink RX4 23 "DuneBenchModel" "fence" "[I", .fieldLink RX4 26 "DuneBenchModel" "gained" "[I"] ++ wsX40)
def wsX4_storm : List Cond := .code yX4_storm cX4_storm 2 (some .int) :: ([.methodLink RX4 60 yX4_in, .static yX4_in, .initialized RX4, .code yX4_in cX4_in 3 (some .boolean), .methodLink RX4 75 yX4_flood, .instanceMethod yX4_flood, .selects RX4 yX4_flood yX4_flood, .code yX4_flood cX4_flood 6 (some .int), .fieldLink RX4 7 "DuneBenchModel" "n" "I", .fieldLink RX4 16 "DuneBenchModel" "height" "[I", .fieldLink RX4 29 "DuneBenchModel" "sea" "[I", .fieldLink RX4 20 "DuneBenchModel" "grass" "[I", .fieldLink RX4 23 "DuneBenchModel" "fence" "[I", .fieldLink RX4 35 "DuneBenchModel" "flooded" "[I"] ++ wsX40)
def wsX4_end : List Cond := .code yX4_end cX4_end 1 (some .int) :: ([.methodLink RX4 78 yX4_endYear, .instanceMethod yX4_endYear, .selects RX4 yX4_endYear yX4_endYear, .initialized RX4, .code yX4_endYear cX4_endYear 5 (some .int), .fieldLink RX4 7 "DuneBenchModel" "n" "I", .fieldLink RX4 20 "DuneBenchModel" "grass" "[I", .fieldLink RX4 26 "DuneBenchModel" "gained" "[I", .methodLink RX4 60 yX4_in, .static yX4_in, .code yX4_in cX4_in 3 (some .boolean)] ++ wsX40)
def wsX4_nourish : List Cond := .code yX4_nourish cX4_nourish 3 (some .int) :: ([.fieldLink RX4 16 "DuneBenchModel" "height" "[I", .methodLink RX4 60 yX4_in, .static yX4_in, .initialized RX4, .code yX4_in cX4_in 3 (some .boolean)] ++ wsX40)
def wsX4_event : List Cond := .code yX4_event cX4_event 4 (some .int) :: ([.fieldLink RX4 38 "DuneBenchModel" "events" "[I", .fieldLink RX4 41 "DuneBenchModel" "kindOf" "[I", .fieldLink RX4 44 "DuneBenchModel" "valueOf" "[I", .methodLink RX4 82 yX4_isWeather, .static yX4_isWeather, .initialized RX4, .code yX4_isWeather cX4_isWeather 1 (some .boolean), .methodLink RX4 60 yX4_in, .static yX4_in, .code yX4_in cX4_in 3 (some .boolean)] ++ wsX40)
def wsX4_calm : List Cond := .code yX4_calm cX4_calm 3 (some .int) :: ([.fieldLink RX4 38 "DuneBenchModel" "events" "[I", .methodLink RX4 82 yX4_isWeather, .static yX4_isWeather, .initialized RX4, .code yX4_isWeather cX4_isWeather 1 (some .boolean), .methodLink RX4 60 yX4_in, .static yX4_in, .code yX4_in cX4_in 3 (some .boolean)] ++ wsX40)
def wsX4_size : List Cond := .code yX4_size cX4_size 3 (some .int) :: ([.fieldLink RX4 13 "DuneBenchModel" "size" "I", .methodLink RX4 60 yX4_in, .static yX4_in, .initialized RX4, .code yX4_in cX4_in 3 (some .boolean)] ++ wsX40)
def wsX4_setFence : List Cond := .code yX4_setFence cX4_setFence 2 none :: ([.fieldLink RX4 50 "DuneBenchModel" "fences" "[I", .fieldLink RX4 23 "DuneBenchModel" "fence" "[I", .fieldLink RX4 13 "DuneBenchModel" "size" "I"] ++ wsX40)
def wsX4_tryOut_r1 : List Cond := [Cond.fieldLink RX4 35 "DuneBenchModel" "flooded" "[I", Cond.fieldLink RX4 38 "DuneBenchModel" "events" "[I", Cond.fieldLink RX4 41 "DuneBenchModel" "kindOf" "[I", Cond.fieldLink RX4 44 "DuneBenchModel" "valueOf" "[I", Cond.methodLink RX4 85 yX4_copy, Cond.instanceMethod yX4_copy, Cond.selects RX4 yX4_copy yX4_copy, Cond.initialized RX4, Cond.code yX4_copy cX4_copy 4 none, Cond.fieldLink RX4 16 "DuneBenchModel" "height" "[I", Cond.fieldLink RX4 20 "DuneBenchModel" "grass" "[I", Cond.fieldLink RX4 23 "DuneBenchModel" "fence" "[I", Cond.fieldLink RX4 26 "DuneBenchModel" "gained" "[I", Cond.fieldLink RX4 29 "DuneBenchModel" "sea" "[I", Cond.fieldLink RX4 32 "DuneBenchModel" "behind" "[I", Cond.methodLink RX4 89 yX4_setFence, Cond.instanceMethod yX4_setFence, Cond.selects RX4 yX4_setFence yX4_setFence, Cond.code yX4_setFence cX4_setFence 2 none, Cond.fieldLink RX4 50 "DuneBenchModel" "fences" "[I", Cond.fieldLink RX4 13 "DuneBenchModel" "size" "I", Cond.methodLink RX4 72 yX4_blow, Cond.instanceMethod yX4_blow, Cond.selects RX4 yX4_blow yX4_blow]
def wsX4_tryOut_r2 : List Cond := [Cond.code yX4_blow cX4_blow 8 (some .int), Cond.fieldLink RX4 7 "DuneBenchModel" "n" "I", Cond.methodLink RX4 68 yX4_keeps, Cond.instanceMethod yX4_keeps, Cond.selects RX4 yX4_keeps yX4_keeps, Cond.code yX4_keeps cX4_keeps 6 (some .int), Cond.methodLink RX4 75 yX4_flood, Cond.instanceMethod yX4_flood, Cond.selects RX4 yX4_flood yX4_flood, Cond.code yX4_flood cX4_flood 6 (some .int), Cond.methodLink RX4 78 yX4_endYear, Cond.instanceMethod yX4_endYear, Cond.selects RX4 yX4_endYear yX4_endYear, Cond.code yX4_endYear cX4_endYear 5 (some .int), Cond.methodLink RX4 60 yX4_in, Cond.static yX4_in, Cond.code yX4_in cX4_in 3 (some .boolean)]
def wsX4_tryOut : List Cond := .code yX4_tryOut cX4_tryOut 5 none :: ((wsX4_tryOut_r1 ++ wsX4_tryOut_r2) ++ wsX40)
def wsX4_crestOf : List Cond := .code yX4_crestOf cX4_crestOf 4 (some .int) :: ([.fieldLink RX4 7 "DuneBenchModel" "n" "I", .fieldLink RX4 16 "DuneBenchModel" "height" "[I"] ++ wsX40)
def wsX4_isFence : List Cond := .code yX4_isFence cX4_isFence 2 (some .boolean) :: ([.methodLink RX4 64 yX4_isCell, .instanceMethod yX4_isCell, .selects RX4 yX4_isCell yX4_isCell, .initialized RX4, .code yX4_isCell cX4_isCell 2 (some .boolean), .fieldLink RX4 7 "DuneBenchModel" "n" "I", .methodLink RX4 60 yX4_in, .static yX4_in, .code yX4_in cX4_in 3 (some .boolean)] ++ wsX40)
def wsX4_ask_r1 : List Cond := [Cond.fieldLink RX4 50 "DuneBenchModel" "fences" "[I", Cond.methodLink RX4 82 yX4_isWeather, Cond.static yX4_isWeather, Cond.initialized RX4, Cond.code yX4_isWeather cX4_isWeather 1 (some .boolean), Cond.methodLink RX4 60 yX4_in, Cond.static yX4_in, Cond.code yX4_in cX4_in 3 (some .boolean), Cond.methodLink RX4 92 yX4_isFence, Cond.instanceMethod yX4_isFence, Cond.selects RX4 yX4_isFence yX4_isFence, Cond.code yX4_isFence cX4_isFence 2 (some .boolean), Cond.methodLink RX4 64 yX4_isCell, Cond.instanceMethod yX4_isCell, Cond.selects RX4 yX4_isCell yX4_isCell, Cond.code yX4_isCell cX4_isCell 2 (some .boolean), Cond.fieldLink RX4 7 "DuneBenchModel" "n" "I", Cond.methodLink RX4 95 yX4_tryOut, Cond.instanceMethod yX4_tryOut, Cond.selects RX4 yX4_tryOut yX4_tryOut, Cond.code yX4_tryOut cX4_tryOut 5 none, Cond.fieldLink RX4 35 "DuneBenchModel" "flooded" "[I", Cond.fieldLink RX4 38 "DuneBenchModel" "events" "[I", Cond.fieldLink RX4 41 "DuneBenchModel" "kindOf" "[I"]
def wsX4_ask_r2 : List Cond := [Cond.fieldLink RX4 44 "DuneBenchModel" "valueOf" "[I", Cond.methodLink RX4 85 yX4_copy, Cond.instanceMethod yX4_copy, Cond.selects RX4 yX4_copy yX4_copy, Cond.code yX4_copy cX4_copy 4 none, Cond.fieldLink RX4 16 "DuneBenchModel" "height" "[I", Cond.fieldLink RX4 20 "DuneBenchModel" "grass" "[I", Cond.fieldLink RX4 23 "DuneBenchModel" "fence" "[I", Cond.fieldLink RX4 26 "DuneBenchModel" "gained" "[I", Cond.fieldLink RX4 29 "DuneBenchModel" "sea" "[I", Cond.fieldLink RX4 32 "DuneBenchModel" "behind" "[I", Cond.methodLink RX4 89 yX4_setFence, Cond.instanceMethod yX4_setFence, Cond.selects RX4 yX4_setFence yX4_setFence, Cond.code yX4_setFence cX4_setFence 2 none, Cond.fieldLink RX4 13 "DuneBenchModel" "size" "I", Cond.methodLink RX4 72 yX4_blow, Cond.instanceMethod yX4_blow, Cond.selects RX4 yX4_blow yX4_blow, Cond.code yX4_blow cX4_blow 8 (some .int), Cond.methodLink RX4 68 yX4_keeps, Cond.instanceMethod yX4_keeps, Cond.selects RX4 yX4_keeps yX4_keeps, Cond.code yX4_keeps cX4_keeps 6 (some .int)]
def wsX4_ask_r3 : List Cond := [Cond.methodLink RX4 75 yX4_flood, Cond.instanceMethod yX4_flood, Cond.selects RX4 yX4_flood yX4_flood, Cond.code yX4_flood cX4_flood 6 (some .int), Cond.methodLink RX4 78 yX4_endYear, Cond.instanceMethod yX4_endYear, Cond.selects RX4 yX4_endYear yX4_endYear, Cond.code yX4_endYear cX4_endYear 5 (some .int)]
def wsX4_ask : List Cond := .code yX4_ask cX4_ask 5 (some .boolean) :: ((wsX4_ask_r1 ++ (wsX4_ask_r2 ++ wsX4_ask_r3)) ++ wsX40)
def wsX4_crest_r1 : List Cond := [Cond.methodLink RX4 98 yX4_ask, Cond.instanceMethod yX4_ask, Cond.selects RX4 yX4_ask yX4_ask, Cond.initialized RX4, Cond.code yX4_ask cX4_ask 5 (some .boolean), Cond.fieldLink RX4 50 "DuneBenchModel" "fences" "[I", Cond.methodLink RX4 82 yX4_isWeather, Cond.static yX4_isWeather, Cond.code yX4_isWeather cX4_isWeather 1 (some .boolean), Cond.methodLink RX4 60 yX4_in, Cond.static yX4_in, Cond.code yX4_in cX4_in 3 (some .boolean), Cond.methodLink RX4 92 yX4_isFence, Cond.instanceMethod yX4_isFence, Cond.selects RX4 yX4_isFence yX4_isFence, Cond.code yX4_isFence cX4_isFence 2 (some .boolean), Cond.methodLink RX4 64 yX4_isCell, Cond.instanceMethod yX4_isCell, Cond.selects RX4 yX4_isCell yX4_isCell, Cond.code yX4_isCell cX4_isCell 2 (some .boolean), Cond.fieldLink RX4 7 "DuneBenchModel" "n" "I", Cond.methodLink RX4 95 yX4_tryOut, Cond.instanceMethod yX4_tryOut, Cond.selects RX4 yX4_tryOut yX4_tryOut]
def wsX4_crest_r2 : List Cond := [Cond.code yX4_tryOut cX4_tryOut 5 none, Cond.fieldLink RX4 35 "DuneBenchModel" "flooded" "[I", Cond.fieldLink RX4 38 "DuneBenchModel" "events" "[I", Cond.fieldLink RX4 41 "DuneBenchModel" "kindOf" "[I", Cond.fieldLink RX4 44 "DuneBenchModel" "valueOf" "[I", Cond.methodLink RX4 85 yX4_copy, Cond.instanceMethod yX4_copy, Cond.selects RX4 yX4_copy yX4_copy, Cond.code yX4_copy cX4_copy 4 none, Cond.fieldLink RX4 16 "DuneBenchModel" "height" "[I", Cond.fieldLink RX4 20 "DuneBenchModel" "grass" "[I", Cond.fieldLink RX4 23 "DuneBenchModel" "fence" "[I", Cond.fieldLink RX4 26 "DuneBenchModel" "gained" "[I", Cond.fieldLink RX4 29 "DuneBenchModel" "sea" "[I", Cond.fieldLink RX4 32 "DuneBenchModel" "behind" "[I", Cond.methodLink RX4 89 yX4_setFence, Cond.instanceMethod yX4_setFence, Cond.selects RX4 yX4_setFence yX4_setFence, Cond.code yX4_setFence cX4_setFence 2 none, Cond.fieldLink RX4 13 "DuneBenchModel" "size" "I", Cond.methodLink RX4 72 yX4_blow, Cond.instanceMethod yX4_blow, Cond.selects RX4 yX4_blow yX4_blow, Cond.code yX4_blow cX4_blow 8 (some .int)]
def wsX4_crest_r3 : List Cond := [Cond.methodLink RX4 68 yX4_keeps, Cond.instanceMethod yX4_keeps, Cond.selects RX4 yX4_keeps yX4_keeps, Cond.code yX4_keeps cX4_keeps 6 (some .int), Cond.methodLink RX4 75 yX4_flood, Cond.instanceMethod yX4_flood, Cond.selects RX4 yX4_flood yX4_flood, Cond.code yX4_flood cX4_flood 6 (some .int), Cond.methodLink RX4 78 yX4_endYear, Cond.instanceMethod yX4_endYear, Cond.selects RX4 yX4_endYear yX4_endYear, Cond.code yX4_endYear cX4_endYear 5 (some .int), Cond.methodLink RX4 102 yX4_crestOf, Cond.instanceMethod yX4_crestOf, Cond.selects RX4 yX4_crestOf yX4_crestOf, Cond.code yX4_crestOf cX4_crestOf 4 (some .int)]
def wsX4_crest : List Cond := .code yX4_crest cX4_crest 5 (some .int) :: ((wsX4_crest_r1 ++ (wsX4_crest_r2 ++ wsX4_crest_r3)) ++ wsX40)
def wsX4_floods_r1 : List Cond := [Cond.fieldLink RX4 35 "DuneBenchModel" "flooded" "[I", Cond.methodLink RX4 98 yX4_ask, Cond.instanceMethod yX4_ask, Cond.selects RX4 yX4_ask yX4_ask, Cond.initialized RX4, Cond.code yX4_ask cX4_ask 5 (some .boolean), Cond.fieldLink RX4 50 "DuneBenchModel" "fences" "[I", Cond.methodLink RX4 82 yX4_isWeather, Cond.static yX4_isWeather, Cond.code yX4_isWeather cX4_isWeather 1 (some .boolean), Cond.methodLink RX4 60 yX4_in, Cond.static yX4_in, Cond.code yX4_in cX4_in 3 (some .boolean), Cond.methodLink RX4 92 yX4_isFence, Cond.instanceMethod yX4_isFence, Cond.selects RX4 yX4_isFence yX4_isFence, Cond.code yX4_isFence cX4_isFence 2 (some .boolean), Cond.methodLink RX4 64 yX4_isCell, Cond.instanceMethod yX4_isCell, Cond.selects RX4 yX4_isCell yX4_isCell, Cond.code yX4_isCell cX4_isCell 2 (some .boolean), Cond.fieldLink RX4 7 "DuneBenchModel" "n" "I", Cond.methodLink RX4 95 yX4_tryOut, Cond.instanceMethod yX4_tryOut]
def wsX4_floods_r2 : List Cond := [Cond.selects RX4 yX4_tryOut yX4_tryOut, Cond.code yX4_tryOut cX4_tryOut 5 none, Cond.fieldLink RX4 38 "DuneBenchModel" "events" "[I", Cond.fieldLink RX4 41 "DuneBenchModel" "kindOf" "[I", Cond.fieldLink RX4 44 "DuneBenchModel" "valueOf" "[I", Cond.methodLink RX4 85 yX4_copy, Cond.instanceMethod yX4_copy, Cond.selects RX4 yX4_copy yX4_copy, Cond.code yX4_copy cX4_copy 4 none, Cond.fieldLink RX4 16 "DuneBenchModel" "height" "[I", Cond.fieldLink RX4 20 "DuneBenchModel" "grass" "[I", Cond.fieldLink RX4 23 "DuneBenchModel" "fence" "[I", Cond.fieldLink RX4 26 "DuneBenchModel" "gained" "[I", Cond.fieldLink RX4 29 "DuneBenchModel" "sea" "[I", Cond.fieldLink RX4 32 "DuneBenchModel" "behind" "[I", Cond.methodLink RX4 89 yX4_setFence, Cond.instanceMethod yX4_setFence, Cond.selects RX4 yX4_setFence yX4_setFence, Cond.code yX4_setFence cX4_setFence 2 none, Cond.fieldLink RX4 13 "DuneBenchModel" "size" "I", Cond.methodLink RX4 72 yX4_blow, Cond.instanceMethod yX4_blow, Cond.selects RX4 yX4_blow yX4_blow, Cond.code yX4_blow cX4_blow 8 (some .int)]
def wsX4_floods_r3 : List Cond := [Cond.methodLink RX4 68 yX4_keeps, Cond.instanceMethod yX4_keeps, Cond.selects RX4 yX4_keeps yX4_keeps, Cond.code yX4_keeps cX4_keeps 6 (some .int), Cond.methodLink RX4 75 yX4_flood, Cond.instanceMethod yX4_flood, Cond.selects RX4 yX4_flood yX4_flood, Cond.code yX4_flood cX4_flood 6 (some .int), Cond.methodLink RX4 78 yX4_endYear, Cond.instanceMethod yX4_endYear, Cond.selects RX4 yX4_endYear yX4_endYear, Cond.code yX4_endYear cX4_endYear 5 (some .int)]
def wsX4_floods : List Cond := .code yX4_floods cX4_floods 5 (some .int) :: ((wsX4_floods_r1 ++ (wsX4_floods_r2 ++ wsX4_floods_r3)) ++ wsX40)
def wsX4_holds_r1 : List Cond := [Cond.fieldLink RX4 38 "DuneBenchModel" "events" "[I", Cond.fieldLink RX4 35 "DuneBenchModel" "flooded" "[I", Cond.methodLink RX4 95 yX4_tryOut, Cond.instanceMethod yX4_tryOut, Cond.selects RX4 yX4_tryOut yX4_tryOut, Cond.initialized RX4, Cond.code yX4_tryOut cX4_tryOut 5 none, Cond.fieldLink RX4 41 "DuneBenchModel" "kindOf" "[I", Cond.fieldLink RX4 44 "DuneBenchModel" "valueOf" "[I", Cond.methodLink RX4 85 yX4_copy, Cond.instanceMethod yX4_copy, Cond.selects RX4 yX4_copy yX4_copy, Cond.code yX4_copy cX4_copy 4 none, Cond.fieldLink RX4 16 "DuneBenchModel" "height" "[I", Cond.fieldLink RX4 20 "DuneBenchModel" "grass" "[I", Cond.fieldLink RX4 23 "DuneBenchModel" "fence" "[I", Cond.fieldLink RX4 26 "DuneBenchModel" "gained" "[I", Cond.fieldLink RX4 29 "DuneBenchModel" "sea" "[I", Cond.fieldLink RX4 32 "DuneBenchModel" "behind" "[I", Cond.methodLink RX4 89 yX4_setFence, Cond.instanceMethod yX4_setFence, Cond.selects RX4 yX4_setFence yX4_setFence, Cond.code yX4_setFence cX4_setFence 2 none, Cond.fieldLink RX4 50 "DuneBenchModel" "fences" "[I"]
def wsX4_holds_r2 : List Cond := [Cond.fieldLink RX4 13 "DuneBenchModel" "size" "I", Cond.methodLink RX4 72 yX4_blow, Cond.instanceMethod yX4_blow, Cond.selects RX4 yX4_blow yX4_blow, Cond.code yX4_blow cX4_blow 8 (some .int), Cond.fieldLink RX4 7 "DuneBenchModel" "n" "I", Cond.methodLink RX4 68 yX4_keeps, Cond.instanceMethod yX4_keeps, Cond.selects RX4 yX4_keeps yX4_keeps, Cond.code yX4_keeps cX4_keeps 6 (some .int), Cond.methodLink RX4 75 yX4_flood, Cond.instanceMethod yX4_flood, Cond.selects RX4 yX4_flood yX4_flood, Cond.code yX4_flood cX4_flood 6 (some .int), Cond.methodLink RX4 78 yX4_endYear, Cond.instanceMethod yX4_endYear, Cond.selects RX4 yX4_endYear yX4_endYear, Cond.code yX4_endYear cX4_endYear 5 (some .int), Cond.methodLink RX4 60 yX4_in, Cond.static yX4_in, Cond.code yX4_in cX4_in 3 (some .boolean), Cond.methodLink RX4 102 yX4_crestOf, Cond.instanceMethod yX4_crestOf, Cond.selects RX4 yX4_crestOf yX4_crestOf]
def wsX4_holds_r3 : List Cond := [Cond.code yX4_crestOf cX4_crestOf 4 (some .int)]
def wsX4_holds : List Cond := .code yX4_holds cX4_holds 4 (some .int) :: ((wsX4_holds_r1 ++ (wsX4_holds_r2 ++ wsX4_holds_r3)) ++ wsX40)
def wsX4_lay : List Cond := .code yX4_lay cX4_lay 6 (some .int) :: ([.fieldLink RX4 7 "DuneBenchModel" "n" "I", .fieldLink RX4 50 "DuneBenchModel" "fences" "[I"] ++ wsX40)
def wsX4_findPlan_r1 : List Cond := [Cond.fieldLink RX4 7 "DuneBenchModel" "n" "I", Cond.fieldLink RX4 53 "DuneBenchModel" "best" "[I", Cond.fieldLink RX4 50 "DuneBenchModel" "fences" "[I", Cond.methodLink RX4 105 yX4_lay, Cond.instanceMethod yX4_lay, Cond.selects RX4 yX4_lay yX4_lay, Cond.initialized RX4, Cond.code yX4_lay cX4_lay 6 (some .int), Cond.methodLink RX4 108 yX4_holds, Cond.instanceMethod yX4_holds, Cond.selects RX4 yX4_holds yX4_holds, Cond.code yX4_holds cX4_holds 4 (some .int), Cond.fieldLink RX4 38 "DuneBenchModel" "events" "[I", Cond.fieldLink RX4 35 "DuneBenchModel" "flooded" "[I", Cond.methodLink RX4 95 yX4_tryOut, Cond.instanceMethod yX4_tryOut, Cond.selects RX4 yX4_tryOut yX4_tryOut, Cond.code yX4_tryOut cX4_tryOut 5 none, Cond.fieldLink RX4 41 "DuneBenchModel" "kindOf" "[I", Cond.fieldLink RX4 44 "DuneBenchModel" "valueOf" "[I", Cond.methodLink RX4 85 yX4_copy, Cond.instanceMethod yX4_copy, Cond.selects RX4 yX4_copy yX4_copy, Cond.code yX4_copy cX4_copy 4 none]
def wsX4_findPlan_r2 : List Cond := [Cond.fieldLink RX4 16 "DuneBenchModel" "height" "[I", Cond.fieldLink RX4 20 "DuneBenchModel" "grass" "[I", Cond.fieldLink RX4 23 "DuneBenchModel" "fence" "[I", Cond.fieldLink RX4 26 "DuneBenchModel" "gained" "[I", Cond.fieldLink RX4 29 "DuneBenchModel" "sea" "[I", Cond.fieldLink RX4 32 "DuneBenchModel" "behind" "[I", Cond.methodLink RX4 89 yX4_setFence, Cond.instanceMethod yX4_setFence, Cond.selects RX4 yX4_setFence yX4_setFence, Cond.code yX4_setFence cX4_setFence 2 none, Cond.fieldLink RX4 13 "DuneBenchModel" "size" "I", Cond.methodLink RX4 72 yX4_blow, Cond.instanceMethod yX4_blow, Cond.selects RX4 yX4_blow yX4_blow, Cond.code yX4_blow cX4_blow 8 (some .int), Cond.methodLink RX4 68 yX4_keeps, Cond.instanceMethod yX4_keeps, Cond.selects RX4 yX4_keeps yX4_keeps, Cond.code yX4_keeps cX4_keeps 6 (some .int), Cond.methodLink RX4 75 yX4_flood, Cond.instanceMethod yX4_flood, Cond.selects RX4 yX4_flood yX4_flood, Cond.code yX4_flood cX4_flood 6 (some .int), Cond.methodLink RX4 78 yX4_endYear]
def wsX4_findPlan_r3 : List Cond := [Cond.instanceMethod yX4_endYear, Cond.selects RX4 yX4_endYear yX4_endYear, Cond.code yX4_endYear cX4_endYear 5 (some .int), Cond.methodLink RX4 60 yX4_in, Cond.static yX4_in, Cond.code yX4_in cX4_in 3 (some .boolean), Cond.methodLink RX4 102 yX4_crestOf, Cond.instanceMethod yX4_crestOf, Cond.selects RX4 yX4_crestOf yX4_crestOf, Cond.code yX4_crestOf cX4_crestOf 4 (some .int)]
def wsX4_findPlan : List Cond := .code yX4_findPlan cX4_findPlan 6 (some .int) :: ((wsX4_findPlan_r1 ++ (wsX4_findPlan_r2 ++ wsX4_findPlan_r3)) ++ wsX40)
def wsX4_plan_r1 : List Cond := [Cond.fieldLink RX4 53 "DuneBenchModel" "best" "[I", Cond.methodLink RX4 60 yX4_in, Cond.static yX4_in, Cond.initialized RX4, Cond.code yX4_in cX4_in 3 (some .boolean), Cond.methodLink RX4 112 yX4_findPlan, Cond.instanceMethod yX4_findPlan, Cond.selects RX4 yX4_findPlan yX4_findPlan, Cond.code yX4_findPlan cX4_findPlan 6 (some .int), Cond.fieldLink RX4 7 "DuneBenchModel" "n" "I", Cond.fieldLink RX4 50 "DuneBenchModel" "fences" "[I", Cond.methodLink RX4 105 yX4_lay, Cond.instanceMethod yX4_lay, Cond.selects RX4 yX4_lay yX4_lay, Cond.code yX4_lay cX4_lay 6 (some .int), Cond.methodLink RX4 108 yX4_holds, Cond.instanceMethod yX4_holds, Cond.selects RX4 yX4_holds yX4_holds, Cond.code yX4_holds cX4_holds 4 (some .int), Cond.fieldLink RX4 38 "DuneBenchModel" "events" "[I", Cond.fieldLink RX4 35 "DuneBenchModel" "flooded" "[I", Cond.methodLink RX4 95 yX4_tryOut, Cond.instanceMethod yX4_tryOut, Cond.selects RX4 yX4_tryOut yX4_tryOut]
def wsX4_plan_r2 : List Cond := [Cond.code yX4_tryOut cX4_tryOut 5 none, Cond.fieldLink RX4 41 "DuneBenchModel" "kindOf" "[I", Cond.fieldLink RX4 44 "DuneBenchModel" "valueOf" "[I", Cond.methodLink RX4 85 yX4_copy, Cond.instanceMethod yX4_copy, Cond.selects RX4 yX4_copy yX4_copy, Cond.code yX4_copy cX4_copy 4 none, Cond.fieldLink RX4 16 "DuneBenchModel" "height" "[I", Cond.fieldLink RX4 20 "DuneBenchModel" "grass" "[I", Cond.fieldLink RX4 23 "DuneBenchModel" "fence" "[I", Cond.fieldLink RX4 26 "DuneBenchModel" "gained" "[I", Cond.fieldLink RX4 29 "DuneBenchModel" "sea" "[I", Cond.fieldLink RX4 32 "DuneBenchModel" "behind" "[I", Cond.methodLink RX4 89 yX4_setFence, Cond.instanceMethod yX4_setFence, Cond.selects RX4 yX4_setFence yX4_setFence, Cond.code yX4_setFence cX4_setFence 2 none, Cond.fieldLink RX4 13 "DuneBenchModel" "size" "I", Cond.methodLink RX4 72 yX4_blow, Cond.instanceMethod yX4_blow, Cond.selects RX4 yX4_blow yX4_blow, Cond.code yX4_blow cX4_blow 8 (some .int), Cond.methodLink RX4 68 yX4_keeps, Cond.instanceMethod yX4_keeps]
def wsX4_plan_r3 : List Cond := [Cond.selects RX4 yX4_keeps yX4_keeps, Cond.code yX4_keeps cX4_keeps 6 (some .int), Cond.methodLink RX4 75 yX4_flood, Cond.instanceMethod yX4_flood, Cond.selects RX4 yX4_flood yX4_flood, Cond.code yX4_flood cX4_flood 6 (some .int), Cond.methodLink RX4 78 yX4_endYear, Cond.instanceMethod yX4_endYear, Cond.selects RX4 yX4_endYear yX4_endYear, Cond.code yX4_endYear cX4_endYear 5 (some .int), Cond.methodLink RX4 102 yX4_crestOf, Cond.instanceMethod yX4_crestOf, Cond.selects RX4 yX4_crestOf yX4_crestOf, Cond.code yX4_crestOf cX4_crestOf 4 (some .int)]
def wsX4_plan : List Cond := .code yX4_plan cX4_plan 3 (some .int) :: ((wsX4_plan_r1 ++ (wsX4_plan_r2 ++ wsX4_plan_r3)) ++ wsX40)
def wsX4_fences_r1 : List Cond := [Cond.methodLink RX4 60 yX4_in, Cond.static yX4_in, Cond.initialized RX4, Cond.code yX4_in cX4_in 3 (some .boolean), Cond.methodLink RX4 112 yX4_findPlan, Cond.instanceMethod yX4_findPlan, Cond.selects RX4 yX4_findPlan yX4_findPlan, Cond.code yX4_findPlan cX4_findPlan 6 (some .int), Cond.fieldLink RX4 7 "DuneBenchModel" "n" "I", Cond.fieldLink RX4 53 "DuneBenchModel" "best" "[I", Cond.fieldLink RX4 50 "DuneBenchModel" "fences" "[I", Cond.methodLink RX4 105 yX4_lay, Cond.instanceMethod yX4_lay, Cond.selects RX4 yX4_lay yX4_lay, Cond.code yX4_lay cX4_lay 6 (some .int), Cond.methodLink RX4 108 yX4_holds, Cond.instanceMethod yX4_holds, Cond.selects RX4 yX4_holds yX4_holds, Cond.code yX4_holds cX4_holds 4 (some .int), Cond.fieldLink RX4 38 "DuneBenchModel" "events" "[I", Cond.fieldLink RX4 35 "DuneBenchModel" "flooded" "[I", Cond.methodLink RX4 95 yX4_tryOut, Cond.instanceMethod yX4_tryOut, Cond.selects RX4 yX4_tryOut yX4_tryOut]
def wsX4_fences_r2 : List Cond := [Cond.code yX4_tryOut cX4_tryOut 5 none, Cond.fieldLink RX4 41 "DuneBenchModel" "kindOf" "[I", Cond.fieldLink RX4 44 "DuneBenchModel" "valueOf" "[I", Cond.methodLink RX4 85 yX4_copy, Cond.instanceMethod yX4_copy, Cond.selects RX4 yX4_copy yX4_copy, Cond.code yX4_copy cX4_copy 4 none, Cond.fieldLink RX4 16 "DuneBenchModel" "height" "[I", Cond.fieldLink RX4 20 "DuneBenchModel" "grass" "[I", Cond.fieldLink RX4 23 "DuneBenchModel" "fence" "[I", Cond.fieldLink RX4 26 "DuneBenchModel" "gained" "[I", Cond.fieldLink RX4 29 "DuneBenchModel" "sea" "[I", Cond.fieldLink RX4 32 "DuneBenchModel" "behind" "[I", Cond.methodLink RX4 89 yX4_setFence, Cond.instanceMethod yX4_setFence, Cond.selects RX4 yX4_setFence yX4_setFence, Cond.code yX4_setFence cX4_setFence 2 none, Cond.fieldLink RX4 13 "DuneBenchModel" "size" "I", Cond.methodLink RX4 72 yX4_blow, Cond.instanceMethod yX4_blow, Cond.selects RX4 yX4_blow yX4_blow, Cond.code yX4_blow cX4_blow 8 (some .int), Cond.methodLink RX4 68 yX4_keeps, Cond.instanceMethod yX4_keeps]
def wsX4_fences_r3 : List Cond := [Cond.selects RX4 yX4_keeps yX4_keeps, Cond.code yX4_keeps cX4_keeps 6 (some .int), Cond.methodLink RX4 75 yX4_flood, Cond.instanceMethod yX4_flood, Cond.selects RX4 yX4_flood yX4_flood, Cond.code yX4_flood cX4_flood 6 (some .int), Cond.methodLink RX4 78 yX4_endYear, Cond.instanceMethod yX4_endYear, Cond.selects RX4 yX4_endYear yX4_endYear, Cond.code yX4_endYear cX4_endYear 5 (some .int), Cond.methodLink RX4 102 yX4_crestOf, Cond.instanceMethod yX4_crestOf, Cond.selects RX4 yX4_crestOf yX4_crestOf, Cond.code yX4_crestOf cX4_crestOf 4 (some .int)]
def wsX4_fences : List Cond := .code yX4_fences cX4_fences 2 (some .int) :: ((wsX4_fences_r1 ++ (wsX4_fences_r2 ++ wsX4_fences_r3)) ++ wsX40)
def wsX4_most_r1 : List Cond := [Cond.fieldLink RX4 38 "DuneBenchModel" "events" "[I", Cond.fieldLink RX4 7 "DuneBenchModel" "n" "I", Cond.methodLink RX4 105 yX4_lay, Cond.instanceMethod yX4_lay, Cond.selects RX4 yX4_lay yX4_lay, Cond.initialized RX4, Cond.code yX4_lay cX4_lay 6 (some .int), Cond.fieldLink RX4 50 "DuneBenchModel" "fences" "[I", Cond.methodLink RX4 108 yX4_holds, Cond.instanceMethod yX4_holds, Cond.selects RX4 yX4_holds yX4_holds, Cond.code yX4_holds cX4_holds 4 (some .int), Cond.fieldLink RX4 35 "DuneBenchModel" "flooded" "[I", Cond.methodLink RX4 95 yX4_tryOut, Cond.instanceMethod yX4_tryOut, Cond.selects RX4 yX4_tryOut yX4_tryOut, Cond.code yX4_tryOut cX4_tryOut 5 none, Cond.fieldLink RX4 41 "DuneBenchModel" "kindOf" "[I", Cond.fieldLink RX4 44 "DuneBenchModel" "valueOf" "[I", Cond.methodLink RX4 85 yX4_copy, Cond.instanceMethod yX4_copy, Cond.selects RX4 yX4_copy yX4_copy, Cond.code yX4_copy cX4_copy 4 none, Cond.fieldLink RX4 16 "DuneBenchModel" "height" "[I"]
def wsX4_most_r2 : List Cond := [Cond.fieldLink RX4 20 "DuneBenchModel" "grass" "[I", Cond.fieldLink RX4 23 "DuneBenchModel" "fence" "[I", Cond.fieldLink RX4 26 "DuneBenchModel" "gained" "[I", Cond.fieldLink RX4 29 "DuneBenchModel" "sea" "[I", Cond.fieldLink RX4 32 "DuneBenchModel" "behind" "[I", Cond.methodLink RX4 89 yX4_setFence, Cond.instanceMethod yX4_setFence, Cond.selects RX4 yX4_setFence yX4_setFence, Cond.code yX4_setFence cX4_setFence 2 none, Cond.fieldLink RX4 13 "DuneBenchModel" "size" "I", Cond.methodLink RX4 72 yX4_blow, Cond.instanceMethod yX4_blow, Cond.selects RX4 yX4_blow yX4_blow, Cond.code yX4_blow cX4_blow 8 (some .int), Cond.methodLink RX4 68 yX4_keeps, Cond.instanceMethod yX4_keeps, Cond.selects RX4 yX4_keeps yX4_keeps, Cond.code yX4_keeps cX4_keeps 6 (some .int), Cond.methodLink RX4 75 yX4_flood, Cond.instanceMethod yX4_flood, Cond.selects RX4 yX4_flood yX4_flood, Cond.code yX4_flood cX4_flood 6 (some .int), Cond.methodLink RX4 78 yX4_endYear, Cond.instanceMethod yX4_endYear]
def wsX4_most_r3 : List Cond := [Cond.selects RX4 yX4_endYear yX4_endYear, Cond.code yX4_endYear cX4_endYear 5 (some .int), Cond.methodLink RX4 60 yX4_in, Cond.static yX4_in, Cond.code yX4_in cX4_in 3 (some .boolean), Cond.methodLink RX4 102 yX4_crestOf, Cond.instanceMethod yX4_crestOf, Cond.selects RX4 yX4_crestOf yX4_crestOf, Cond.code yX4_crestOf cX4_crestOf 4 (some .int)]
def wsX4_most : List Cond := .code yX4_most cX4_most 5 (some .int) :: ((wsX4_most_r1 ++ (wsX4_most_r2 ++ wsX4_most_r3)) ++ wsX40)
def wsX4_read : List Cond := .code yX4_read cX4_read 4 (some .int) :: ([.fieldLink RX4 47 "DuneBenchModel" "reading" "[I", .methodLink RX4 64 yX4_isCell, .instanceMethod yX4_isCell, .selects RX4 yX4_isCell yX4_isCell, .initialized RX4, .code yX4_isCell cX4_isCell 2 (some .boolean), .fieldLink RX4 7 "DuneBenchModel" "n" "I", .methodLink RX4 60 yX4_in, .static yX4_in, .code yX4_in cX4_in 3 (some .boolean)] ++ wsX40)
def wsX4_take : List Cond := .code yX4_take cX4_take 3 (some .int) :: ([.fieldLink RX4 7 "DuneBenchModel" "n" "I", .fieldLink RX4 47 "DuneBenchModel" "reading" "[I", .fieldLink RX4 16 "DuneBenchModel" "height" "[I"] ++ wsX40)
def wsX4_readings : List Cond := .code yX4_readings cX4_readings 3 (some .int) :: ([.fieldLink RX4 7 "DuneBenchModel" "n" "I", .fieldLink RX4 47 "DuneBenchModel" "reading" "[I"] ++ wsX40)
def wsX4_levelOf : List Cond := .code yX4_levelOf cX4_levelOf 4 (some .int) :: ([.fieldLink RX4 47 "DuneBenchModel" "reading" "[I", .fieldLink RX4 7 "DuneBenchModel" "n" "I"] ++ wsX40)
def wsX4_volumeNow : List Cond := .code yX4_volumeNow cX4_volumeNow 3 (some .int) :: ([.fieldLink RX4 7 "DuneBenchModel" "n" "I", .methodLink RX4 115 yX4_levelOf, .instanceMethod yX4_levelOf, .selects RX4 yX4_levelOf yX4_levelOf, .initialized RX4, .code yX4_levelOf cX4_levelOf 4 (some .int), .fieldLink RX4 47 "DuneBenchModel" "reading" "[I"] ++ wsX40)
def wsX4_part : List Cond := .code yX4_part cX4_part 5 (some .int) :: ([])
def wsX4_level : List Cond := .code yX4_level cX4_level 3 (some .int) :: ([.methodLink RX4 64 yX4_isCell, .instanceMethod yX4_isCell, .selects RX4 yX4_isCell yX4_isCell, .initialized RX4, .code yX4_isCell cX4_isCell 2 (some .boolean), .fieldLink RX4 7 "DuneBenchModel" "n" "I", .methodLink RX4 60 yX4_in, .static yX4_in, .code yX4_in cX4_in 3 (some .boolean), .methodLink RX4 118 yX4_readings, .instanceMethod yX4_readings, .selects RX4 yX4_readings yX4_readings, .code yX4_readings cX4_readings 3 (some .int), .fieldLink RX4 47 "DuneBenchModel" "reading" "[I", .methodLink RX4 115 yX4_levelOf, .instanceMethod yX4_levelOf, .selects RX4 yX4_levelOf yX4_levelOf, .code yX4_levelOf cX4_levelOf 4 (some .int), .methodLink RX4 121 yX4_part, .static yX4_part, .code yX4_part cX4_part 5 (some .int)] ++ wsX40)
def wsX4_volume : List Cond := .code yX4_volume cX4_volume 2 (some .int) :: ([.methodLink RX4 60 yX4_in, .static yX4_in, .initialized RX4, .code yX4_in cX4_in 3 (some .boolean), .methodLink RX4 118 yX4_readings, .instanceMethod yX4_readings, .selects RX4 yX4_readings yX4_readings, .code yX4_readings cX4_readings 3 (some .int), .fieldLink RX4 7 "DuneBenchModel" "n" "I", .fieldLink RX4 47 "DuneBenchModel" "reading" "[I", .methodLink RX4 124 yX4_volumeNow, .instanceMethod yX4_volumeNow, .selects RX4 yX4_volumeNow yX4_volumeNow, .code yX4_volumeNow cX4_volumeNow 3 (some .int), .methodLink RX4 115 yX4_levelOf, .instanceMethod yX4_levelOf, .selects RX4 yX4_levelOf yX4_levelOf, .code yX4_levelOf cX4_levelOf 4 (some .int), .methodLink RX4 121 yX4_part, .static yX4_part, .code yX4_part cX4_part 5 (some .int)] ++ wsX40)
def wsX4_doubt : List Cond := .code yX4_doubt cX4_doubt 7 (some .int) :: ([.fieldLink RX4 7 "DuneBenchModel" "n" "I", .fieldLink RX4 47 "DuneBenchModel" "reading" "[I", .methodLink RX4 60 yX4_in, .static yX4_in, .initialized RX4, .code yX4_in cX4_in 3 (some .boolean), .methodLink RX4 118 yX4_readings, .instanceMethod yX4_readings, .selects RX4 yX4_readings yX4_readings, .code yX4_readings cX4_readings 3 (some .int), .methodLink RX4 124 yX4_volumeNow, .instanceMethod yX4_volumeNow, .selects RX4 yX4_volumeNow yX4_volumeNow, .code yX4_volumeNow cX4_volumeNow 3 (some .int), .methodLink RX4 115 yX4_levelOf, .instanceMethod yX4_levelOf, .selects RX4 yX4_levelOf yX4_levelOf, .code yX4_levelOf cX4_levelOf 4 (some .int), .methodLink RX4 121 yX4_part, .static yX4_part, .code yX4_part cX4_part 5 (some .int)] ++ wsX40)
def wsX4_sand : List Cond := .code yX4_sand cX4_sand 3 (some .int) :: ([.fieldLink RX4 7 "DuneBenchModel" "n" "I", .fieldLink RX4 16 "DuneBenchModel" "height" "[I"] ++ wsX40)
def wsX4_many : List Cond := .code yX4_many cX4_many 2 (some .int) :: ([.fieldLink RX4 7 "DuneBenchModel" "n" "I", .fieldLink RX4 29 "DuneBenchModel" "sea" "[I", .fieldLink RX4 32 "DuneBenchModel" "behind" "[I", .fieldLink RX4 35 "DuneBenchModel" "flooded" "[I", .fieldLink RX4 38 "DuneBenchModel" "events" "[I", .methodLink RX4 127 yX4_sand, .instanceMethod yX4_sand, .selects RX4 yX4_sand yX4_sand, .initialized RX4, .code yX4_sand cX4_sand 3 (some .int), .fieldLink RX4 16 "DuneBenchModel" "height" "[I", .methodLink RX4 102 yX4_crestOf, .instanceMethod yX4_crestOf, .selects RX4 yX4_crestOf yX4_crestOf, .code yX4_crestOf cX4_crestOf 4 (some .int), .methodLink RX4 118 yX4_readings, .instanceMethod yX4_readings, .selects RX4 yX4_readings yX4_readings, .code yX4_readings cX4_readings 3 (some .int), .fieldLink RX4 47 "DuneBenchModel" "reading" "[I"] ++ wsX40)
def wsX4_keep : List Cond := .code yX4_keep cX4_keep 1 (some .int) :: ([.fieldLink RX4 7 "DuneBenchModel" "n" "I", .fieldLink RX4 130 "DuneBenchModel" "keptN" "I", .methodLink RX4 85 yX4_copy, .instanceMethod yX4_copy, .selects RX4 yX4_copy yX4_copy, .initialized RX4, .code yX4_copy cX4_copy 4 none, .fieldLink RX4 16 "DuneBenchModel" "height" "[I", .fieldLink RX4 20 "DuneBenchModel" "grass" "[I", .fieldLink RX4 23 "DuneBenchModel" "fence" "[I", .fieldLink RX4 26 "DuneBenchModel" "gained" "[I", .fieldLink RX4 29 "DuneBenchModel" "sea" "[I", .fieldLink RX4 32 "DuneBenchModel" "behind" "[I", .fieldLink RX4 35 "DuneBenchModel" "flooded" "[I"] ++ wsX40)
def wsX4_back : List Cond := .code yX4_back cX4_back 1 (some .int) :: ([.fieldLink RX4 130 "DuneBenchModel" "keptN" "I", .fieldLink RX4 7 "DuneBenchModel" "n" "I", .methodLink RX4 85 yX4_copy, .instanceMethod yX4_copy, .selects RX4 yX4_copy yX4_copy, .initialized RX4, .code yX4_copy cX4_copy 4 none, .fieldLink RX4 16 "DuneBenchModel" "height" "[I", .fieldLink RX4 20 "DuneBenchModel" "grass" "[I", .fieldLink RX4 23 "DuneBenchModel" "fence" "[I", .fieldLink RX4 26 "DuneBenchModel" "gained" "[I", .fieldLink RX4 29 "DuneBenchModel" "sea" "[I", .fieldLink RX4 32 "DuneBenchModel" "behind" "[I", .fieldLink RX4 35 "DuneBenchModel" "flooded" "[I"] ++ wsX40)
def wsJ9_abs_0f7a4 : List Cond := .code yJ9_abs_0f7a4 cJ9_abs_0f7a4 1 (some .int) :: ([])
def wsJ9_max_7cf53 : List Cond := .code yJ9_max_7cf53 cJ9_max_7cf53 2 (some .int) :: ([])
def wsJ9_min_7cf53 : List Cond := .code yJ9_min_7cf53 cJ9_min_7cf53 2 (some .int) :: ([])
abbrev vwCl : List vw_C := [(RX0, TX0, 8), (RX1, TX1, 1), (RX2, TX2, 3), (RX3, TX3, 8), (RX4, TX4, 16)]
end
section
set_option maxRecDepth 20000 in
theorem ggX0_init_X0_renew : GoodIn wsX0_init wsX0_renew := goodIn_r _ [13, 14, 5, 6, 7, 8, 15, 16, 17, 18, 19, 20, 21, 22, 23, 24, 25] (by decide +kernel) (by decide +kernel)
set_option maxRecDepth 20000 in
theorem gX0_init_X0_renew : GoodIn wsX0_init (wsV RX0 24 RX0 yX0_renew wsX0_renew) := goodIn_app (goodIn_of _ (by decide +kernel)) ggX0_init_X0_renew
theorem dX0_init_0 : decode cX0_init 0 = .ok (.aload_n 0, 1) := by decide +kernel
theorem dX0_init_1 : decode cX0_init 1 = .ok (.invokespecial 3, 3) := by decide +kernel
theorem dX0_init_4 : decode cX0_init 4 = .ok (.aload_n 0, 1) := by decide +kernel
theorem dX0_init_5 : decode cX0_init 5 = .ok (.bipush 7, 2) := by decide +kernel
theorem dX0_init_7 : decode cX0_init 7 = .ok (.newarray .int, 2) := by decide +kernel
theorem dX0_init_9 : decode cX0_init 9 = .ok (.putfield 9, 3) := by decide +kernel
theorem dX0_init_12 : decode cX0_init 12 = .ok (.aload_n 0, 1) := by decide +kernel
theorem dX0_init_13 : decode cX0_init 13 = .ok (.bipush 7, 2) := by decide +kernel
theorem dX0_init_15 : decode cX0_init 15 = .ok (.newarray .int, 2) := by decide +kernel
theorem dX0_init_17 : decode cX0_init 17 = .ok (.putfield 15, 3) := by decide +kernel
theorem dX0_init_20 : decode cX0_init 20 = .ok (.aload_n 0, 1) := by decide +kernel
theorem dX0_init_21 : decode cX0_init 21 = .ok (.bipush 7, 2) := by decide +kernel
theorem dX0_init_23 : decode cX0_init 23 = .ok (.newarray .int, 2) := by decide +kernel
theorem dX0_init_25 : decode cX0_init 25 = .ok (.putfield 18, 3) := by decide +kernel
theorem dX0_init_28 : decode cX0_init 28 = .ok (.aload_n 0, 1) := by decide +kernel
theorem dX0_init_29 : decode cX0_init 29 = .ok (.bipush 7, 2) := by decide +kernel
theorem dX0_init_31 : decode cX0_init 31 = .ok (.newarray .int, 2) := by decide +kernel
theorem dX0_init_33 : decode cX0_init 33 = .ok (.putfield 21, 3) := by decide +kernel
theorem dX0_init_36 : decode cX0_init 36 = .ok (.aload_n 0, 1) := by decide +kernel
theorem dX0_init_37 : decode cX0_init 37 = .ok (.iconst 5, 1) := by decide +kernel
theorem dX0_init_38 : decode cX0_init 38 = .ok (.invokevirtual 24, 3) := by decide +kernel
theorem dX0_init_41 : decode cX0_init 41 = .ok (.return_, 1) := by decide +kernel
theorem dX0_renew_0 : decode cX0_renew 0 = .ok (.aload_n 0, 1) := by decide +kernel
theorem dX0_renew_1 : decode cX0_renew 1 = .ok (.iload_n 1, 1) := by decide +kernel
theorem dX0_renew_2 : decode cX0_renew 2 = .ok (.putfield 28, 3) := by decide +kernel
theorem dX0_renew_5 : decode cX0_renew 5 = .ok (.iconst 0, 1) := by decide +kernel
theorem dX0_renew_6 : decode cX0_renew 6 = .ok (.istore_n 2, 1) := by decide +kernel
theorem dX0_renew_7 : decode cX0_renew 7 = .ok (.iload_n 2, 1) := by decide +kernel
theorem dX0_renew_8 : decode cX0_renew 8 = .ok (.bipush 7, 2) := by decide +kernel
theorem dX0_renew_10 : decode cX0_renew 10 = .ok (.if_icmp .ge 37, 3) := by decide +kernel
theorem dX0_renew_13 : decode cX0_renew 13 = .ok (.aload_n 0, 1) := by decide +kernel
theorem dX0_renew_14 : decode cX0_renew 14 = .ok (.getfield 9, 3) := by decide +kernel
theorem dX0_renew_17 : decode cX0_renew 17 = .ok (.iload_n 2, 1) := by decide +kernel
theorem dX0_renew_18 : decode cX0_renew 18 = .ok (.iconst 0, 1) := by decide +kernel
theorem dX0_renew_19 : decode cX0_renew 19 = .ok (.iastore, 1) := by decide +kernel
theorem dX0_renew_20 : decode cX0_renew 20 = .ok (.aload_n 0, 1) := by decide +kernel
theorem dX0_renew_21 : decode cX0_renew 21 = .ok (.getfield 15, 3) := by decide +kernel
theorem dX0_renew_24 : decode cX0_renew 24 = .ok (.iload_n 2, 1) := by decide +kernel
theorem dX0_renew_25 : decode cX0_renew 25 = .ok (.iconst 0, 1) := by decide +kernel
theorem dX0_renew_26 : decode cX0_renew 26 = .ok (.iastore, 1) := by decide +kernel
theorem dX0_renew_27 : decode cX0_renew 27 = .ok (.aload_n 0, 1) := by decide +kernel
theorem dX0_renew_28 : decode cX0_renew 28 = .ok (.getfield 18, 3) := by decide +kernel
theorem dX0_renew_31 : decode cX0_renew 31 = .ok (.iload_n 2, 1) := by decide +kernel
theorem dX0_renew_32 : decode cX0_renew 32 = .ok (.iconst 0, 1) := by decide +kernel
theorem dX0_renew_33 : decode cX0_renew 33 = .ok (.iastore, 1) := by decide +kernel
theorem dX0_renew_34 : decode cX0_renew 34 = .ok (.aload_n 0, 1) := by decide +kernel
theorem dX0_renew_35 : decode cX0_renew 35 = .ok (.getfield 21, 3) := by decide +kernel
theorem dX0_renew_38 : decode cX0_renew 38 = .ok (.iload_n 2, 1) := by decide +kernel
theorem dX0_renew_39 : decode cX0_renew 39 = .ok (.iconst 0, 1) := by decide +kernel
theorem dX0_renew_40 : decode cX0_renew 40 = .ok (.iastore, 1) := by decide +kernel
theorem dX0_renew_41 : decode cX0_renew 41 = .ok (.iinc 2 1, 3) := by decide +kernel
theorem dX0_renew_44 : decode cX0_renew 44 = .ok (.goto (-37), 3) := by decide +kernel
theorem dX0_renew_47 : decode cX0_renew 47 = .ok (.aload_n 0, 1) := by decide +kernel
theorem dX0_renew_48 : decode cX0_renew 48 = .ok (.iconst 0, 1) := by decide +kernel
theorem dX0_renew_49 : decode cX0_renew 49 = .ok (.putfield 32, 3) := by decide +kernel
theorem dX0_renew_52 : decode cX0_renew 52 = .ok (.aload_n 0, 1) := by decide +kernel
theorem dX0_renew_53 : decode cX0_renew 53 = .ok (.iconst 0, 1) := by decide +kernel
theorem dX0_renew_54 : decode cX0_renew 54 = .ok (.putfield 35, 3) := by decide +kernel
theorem dX0_renew_57 : decode cX0_renew 57 = .ok (.aload_n 0, 1) := by decide +kernel
theorem dX0_renew_58 : decode cX0_renew 58 = .ok (.iconst 0, 1) := by decide +kernel
theorem dX0_renew_59 : decode cX0_renew 59 = .ok (.putfield 38, 3) := by decide +kernel
theorem dX0_renew_62 : decode cX0_renew 62 = .ok (.return_, 1) := by decide +kernel
theorem dX0_copyFrom_0 : decode cX0_copyFrom 0 = .ok (.aload_n 0, 1) := by decide +kernel
theorem dX0_copyFrom_1 : decode cX0_copyFrom 1 = .ok (.aload_n 1, 1) := by decide +kernel
theorem dX0_copyFrom_2 : decode cX0_copyFrom 2 = .ok (.getfield 28, 3) := by decide +kernel
theorem dX0_copyFrom_5 : decode cX0_copyFrom 5 = .ok (.putfield 28, 3) := by decide +kernel
theorem dX0_copyFrom_8 : decode cX0_copyFrom 8 = .ok (.iconst 0, 1) := by decide +kernel
theorem dX0_copyFrom_9 : decode cX0_copyFrom 9 = .ok (.istore_n 2, 1) := by decide +kernel
theorem dX0_copyFrom_10 : decode cX0_copyFrom 10 = .ok (.iload_n 2, 1) := by decide +kernel
theorem dX0_copyFrom_11 : decode cX0_copyFrom 11 = .ok (.bipush 7, 2) := by decide +kernel
theorem dX0_copyFrom_13 : decode cX0_copyFrom 13 = .ok (.if_icmp .ge 57, 3) := by decide +kernel
theorem dX0_copyFrom_16 : decode cX0_copyFrom 16 = .ok (.aload_n 0, 1) := by decide +kernel
theorem dX0_copyFrom_17 : decode cX0_copyFrom 17 = .ok (.getfield 9, 3) := by decide +kernel
theorem dX0_copyFrom_20 : decode cX0_copyFrom 20 = .ok (.iload_n 2, 1) := by decide +kernel
theorem dX0_copyFrom_21 : decode cX0_copyFrom 21 = .ok (.aload_n 1, 1) := by decide +kernel
theorem dX0_copyFrom_22 : decode cX0_copyFrom 22 = .ok (.getfield 9, 3) := by decide +kernel
theorem dX0_copyFrom_25 : decode cX0_copyFrom 25 = .ok (.iload_n 2, 1) := by decide +kernel
theorem dX0_copyFrom_26 : decode cX0_copyFrom 26 = .ok (.iaload, 1) := by decide +kernel
theorem dX0_copyFrom_27 : decode cX0_copyFrom 27 = .ok (.iastore, 1) := by decide +kernel
theorem dX0_copyFrom_28 : decode cX0_copyFrom 28 = .ok (.aload_n 0, 1) := by decide +kernel
theorem dX0_copyFrom_29 : decode cX0_copyFrom 29 = .ok (.getfield 15, 3) := by decide +kernel
theorem dX0_copyFrom_32 : decode cX0_copyFrom 32 = .ok (.iload_n 2, 1) := by decide +kernel
theorem dX0_copyFrom_33 : decode cX0_copyFrom 33 = .ok (.aload_n 1, 1) := by decide +kernel
theorem dX0_copyFrom_34 : decode cX0_copyFrom 34 = .ok (.getfield 15, 3) := by decide +kernel
theorem dX0_copyFrom_37 : decode cX0_copyFrom 37 = .ok (.iload_n 2, 1) := by decide +kernel
theorem dX0_copyFrom_38 : decode cX0_copyFrom 38 = .ok (.iaload, 1) := by decide +kernel
theorem dX0_copyFrom_39 : decode cX0_copyFrom 39 = .ok (.iastore, 1) := by decide +kernel
theorem dX0_copyFrom_40 : decode cX0_copyFrom 40 = .ok (.aload_n 0, 1) := by decide +kernel
theorem dX0_copyFrom_41 : decode cX0_copyFrom 41 = .ok (.getfield 18, 3) := by decide +kernel
theorem dX0_copyFrom_44 : decode cX0_copyFrom 44 = .ok (.iload_n 2, 1) := by decide +kernel
theorem dX0_copyFrom_45 : decode cX0_copyFrom 45 = .ok (.aload_n 1, 1) := by decide +kernel
theorem dX0_copyFrom_46 : decode cX0_copyFrom 46 = .ok (.getfield 18, 3) := by decide +kernel
theorem dX0_copyFrom_49 : decode cX0_copyFrom 49 = .ok (.iload_n 2, 1) := by decide +kernel
theorem dX0_copyFrom_50 : decode cX0_copyFrom 50 = .ok (.iaload, 1) := by decide +kernel
theorem dX0_copyFrom_51 : decode cX0_copyFrom 51 = .ok (.iastore, 1) := by decide +kernel
theorem dX0_copyFrom_52 : decode cX0_copyFrom 52 = .ok (.aload_n 0, 1) := by decide +kernel
theorem dX0_copyFrom_53 : decode cX0_copyFrom 53 = .ok (.getfield 21, 3) := by decide +kernel
theorem dX0_copyFrom_56 : decode cX0_copyFrom 56 = .ok (.iload_n 2, 1) := by decide +kernel
theorem dX0_copyFrom_57 : decode cX0_copyFrom 57 = .ok (.aload_n 1, 1) := by decide +kernel
theorem dX0_copyFrom_58 : decode cX0_copyFrom 58 = .ok (.getfield 21, 3) := by decide +kernel
theorem dX0_copyFrom_61 : decode cX0_copyFrom 61 = .ok (.iload_n 2, 1) := by decide +kernel
theorem dX0_copyFrom_62 : decode cX0_copyFrom 62 = .ok (.iaload, 1) := by decide +kernel
theorem dX0_copyFrom_63 : decode cX0_copyFrom 63 = .ok (.iastore, 1) := by decide +kernel
theorem dX0_copyFrom_64 : decode cX0_copyFrom 64 = .ok (.iinc 2 1, 3) := by decide +kernel
theorem dX0_copyFrom_67 : decode cX0_copyFrom 67 = .ok (.goto (-57), 3) := by decide +kernel
theorem dX0_copyFrom_70 : decode cX0_copyFrom 70 = .ok (.aload_n 0, 1) := by decide +kernel
theorem dX0_copyFrom_71 : decode cX0_copyFrom 71 = .ok (.aload_n 1, 1) := by decide +kernel
theorem dX0_copyFrom_72 : decode cX0_copyFrom 72 = .ok (.getfield 32, 3) := by decide +kernel
theorem dX0_copyFrom_75 : decode cX0_copyFrom 75 = .ok (.putfield 32, 3) := by decide +kernel
theorem dX0_copyFrom_78 : decode cX0_copyFrom 78 = .ok (.aload_n 0, 1) := by decide +kernel
theorem dX0_copyFrom_79 : decode cX0_copyFrom 79 = .ok (.aload_n 1, 1) := by decide +kernel
theorem dX0_copyFrom_80 : decode cX0_copyFrom 80 = .ok (.getfield 35, 3) := by decide +kernel
theorem dX0_copyFrom_83 : decode cX0_copyFrom 83 = .ok (.putfield 35, 3) := by decide +kernel
theorem dX0_copyFrom_86 : decode cX0_copyFrom 86 = .ok (.aload_n 0, 1) := by decide +kernel
theorem dX0_copyFrom_87 : decode cX0_copyFrom 87 = .ok (.aload_n 1, 1) := by decide +kernel
theorem dX0_copyFrom_88 : decode cX0_copyFrom 88 = .ok (.getfield 38, 3) := by decide +kernel
theorem dX0_copyFrom_91 : decode cX0_copyFrom 91 = .ok (.putfield 38, 3) := by decide +kernel
theorem dX0_copyFrom_94 : decode cX0_copyFrom 94 = .ok (.return_, 1) := by decide +kernel
theorem dX0_has_0 : decode cX0_has 0 = .ok (.iload_n 1, 1) := by decide +kernel
theorem dX0_has_1 : decode cX0_has 1 = .ok (.ifCond .lt 15, 3) := by decide +kernel
theorem dX0_has_4 : decode cX0_has 4 = .ok (.iload_n 1, 1) := by decide +kernel
theorem dX0_has_5 : decode cX0_has 5 = .ok (.aload_n 0, 1) := by decide +kernel
theorem dX0_has_6 : decode cX0_has 6 = .ok (.getfield 28, 3) := by decide +kernel
theorem dX0_has_9 : decode cX0_has 9 = .ok (.if_icmp .ge 7, 3) := by decide +kernel
theorem dX0_has_12 : decode cX0_has 12 = .ok (.iconst 1, 1) := by decide +kernel
theorem dX0_has_13 : decode cX0_has 13 = .ok (.goto 4, 3) := by decide +kernel
theorem dX0_has_16 : decode cX0_has 16 = .ok (.iconst 0, 1) := by decide +kernel
theorem dX0_has_17 : decode cX0_has 17 = .ok (.ireturn, 1) := by decide +kernel
theorem dX0_row_0 : decode cX0_row 0 = .ok (.iload_n 1, 1) := by decide +kernel
theorem dX0_row_1 : decode cX0_row 1 = .ok (.tableswitch 42 0 2 #[27, 32, 37], 27) := by decide +kernel
theorem dX0_row_28 : decode cX0_row 28 = .ok (.aload_n 0, 1) := by decide +kernel
theorem dX0_row_29 : decode cX0_row 29 = .ok (.getfield 9, 3) := by decide +kernel
theorem dX0_row_32 : decode cX0_row 32 = .ok (.areturn, 1) := by decide +kernel
theorem dX0_row_33 : decode cX0_row 33 = .ok (.aload_n 0, 1) := by decide +kernel
theorem dX0_row_34 : decode cX0_row 34 = .ok (.getfield 15, 3) := by decide +kernel
theorem dX0_row_37 : decode cX0_row 37 = .ok (.areturn, 1) := by decide +kernel
theorem dX0_row_38 : decode cX0_row 38 = .ok (.aload_n 0, 1) := by decide +kernel
theorem dX0_row_39 : decode cX0_row 39 = .ok (.getfield 18, 3) := by decide +kernel
theorem dX0_row_42 : decode cX0_row 42 = .ok (.areturn, 1) := by decide +kernel
theorem dX0_row_43 : decode cX0_row 43 = .ok (.aload_n 0, 1) := by decide +kernel
theorem dX0_row_44 : decode cX0_row 44 = .ok (.getfield 21, 3) := by decide +kernel
theorem dX0_row_47 : decode cX0_row 47 = .ok (.areturn, 1) := by decide +kernel
set_option maxRecDepth 20000 in
theorem ggX0_blow_X0_hold : GoodIn wsX0_blow wsX0_hold := goodIn_r _ [16, 3, 17, 2, 8, 9, 6, 10, 4, 5, 7, 18, 19, 20, 21, 22, 23, 24, 25, 26] (by decide +kernel) (by decide +kernel)
set_option maxRecDepth 20000 in
theorem gX0_blow_X0_hold : GoodIn wsX0_blow (wsV RX0 50 RX0 yX0_hold wsX0_hold) := goodIn_app (goodIn_of _ (by decide +kernel)) ggX0_blow_X0_hold
theorem dX0_blow_0 : decode cX0_blow 0 = .ok (.iconst 0, 1) := by decide +kernel
theorem dX0_blow_1 : decode cX0_blow 1 = .ok (.istore_n 2, 1) := by decide +kernel
theorem dX0_blow_2 : decode cX0_blow 2 = .ok (.aload_n 0, 1) := by decide +kernel
theorem dX0_blow_3 : decode cX0_blow 3 = .ok (.getfield 28, 3) := by decide +kernel
theorem dX0_blow_6 : decode cX0_blow 6 = .ok (.iconst 1, 1) := by decide +kernel
theorem dX0_blow_7 : decode cX0_blow 7 = .ok (.isub, 1) := by decide +kernel
theorem dX0_blow_8 : decode cX0_blow 8 = .ok (.istore_n 3, 1) := by decide +kernel
theorem dX0_blow_9 : decode cX0_blow 9 = .ok (.iload_n 3, 1) := by decide +kernel
theorem dX0_blow_10 : decode cX0_blow 10 = .ok (.ifCond .lt 81, 3) := by decide +kernel
theorem dX0_blow_13 : decode cX0_blow 13 = .ok (.aload_n 0, 1) := by decide +kernel
theorem dX0_blow_14 : decode cX0_blow 14 = .ok (.getfield 9, 3) := by decide +kernel
theorem dX0_blow_17 : decode cX0_blow 17 = .ok (.iload_n 3, 1) := by decide +kernel
theorem dX0_blow_18 : decode cX0_blow 18 = .ok (.iaload, 1) := by decide +kernel
theorem dX0_blow_19 : decode cX0_blow 19 = .ok (.iconst 0, 1) := by decide +kernel
theorem dX0_blow_20 : decode cX0_blow 20 = .ok (.iload_n 1, 1) := by decide +kernel
theorem dX0_blow_21 : decode cX0_blow 21 = .ok (.aload_n 0, 1) := by decide +kernel
theorem dX0_blow_22 : decode cX0_blow 22 = .ok (.getfield 15, 3) := by decide +kernel
theorem dX0_blow_25 : decode cX0_blow 25 = .ok (.iload_n 3, 1) := by decide +kernel
theorem dX0_blow_26 : decode cX0_blow 26 = .ok (.iaload, 1) := by decide +kernel
theorem dX0_blow_27 : decode cX0_blow 27 = .ok (.isub, 1) := by decide +kernel
theorem dX0_blow_28 : decode cX0_blow 28 = .ok (.invokestatic 41, 3) := by decide +kernel
theorem dX0_blow_31 : decode cX0_blow 31 = .ok (.invokestatic 47, 3) := by decide +kernel
theorem dX0_blow_34 : decode cX0_blow 34 = .ok (.istore 4, 2) := by decide +kernel
theorem dX0_blow_36 : decode cX0_blow 36 = .ok (.aload_n 0, 1) := by decide +kernel
theorem dX0_blow_37 : decode cX0_blow 37 = .ok (.getfield 9, 3) := by decide +kernel
theorem dX0_blow_40 : decode cX0_blow 40 = .ok (.iload_n 3, 1) := by decide +kernel
theorem dX0_blow_41 : decode cX0_blow 41 = .ok (.dup2, 1) := by decide +kernel
theorem dX0_blow_42 : decode cX0_blow 42 = .ok (.iaload, 1) := by decide +kernel
theorem dX0_blow_43 : decode cX0_blow 43 = .ok (.iload 4, 2) := by decide +kernel
theorem dX0_blow_45 : decode cX0_blow 45 = .ok (.isub, 1) := by decide +kernel
theorem dX0_blow_46 : decode cX0_blow 46 = .ok (.iastore, 1) := by decide +kernel
theorem dX0_blow_47 : decode cX0_blow 47 = .ok (.iload_n 3, 1) := by decide +kernel
theorem dX0_blow_48 : decode cX0_blow 48 = .ok (.iconst 1, 1) := by decide +kernel
theorem dX0_blow_49 : decode cX0_blow 49 = .ok (.iadd, 1) := by decide +kernel
theorem dX0_blow_50 : decode cX0_blow 50 = .ok (.istore 5, 2) := by decide +kernel
theorem dX0_blow_52 : decode cX0_blow 52 = .ok (.iload 5, 2) := by decide +kernel
theorem dX0_blow_54 : decode cX0_blow 54 = .ok (.aload_n 0, 1) := by decide +kernel
theorem dX0_blow_55 : decode cX0_blow 55 = .ok (.getfield 28, 3) := by decide +kernel
theorem dX0_blow_58 : decode cX0_blow 58 = .ok (.if_icmp .ge 22, 3) := by decide +kernel
theorem dX0_blow_61 : decode cX0_blow 61 = .ok (.iload 4, 2) := by decide +kernel
theorem dX0_blow_63 : decode cX0_blow 63 = .ok (.aload_n 0, 1) := by decide +kernel
theorem dX0_blow_64 : decode cX0_blow 64 = .ok (.iload 5, 2) := by decide +kernel
theorem dX0_blow_66 : decode cX0_blow 66 = .ok (.iload 4, 2) := by decide +kernel
theorem dX0_blow_68 : decode cX0_blow 68 = .ok (.invokevirtual 50, 3) := by decide +kernel
theorem dX0_blow_71 : decode cX0_blow 71 = .ok (.isub, 1) := by decide +kernel
theorem dX0_blow_72 : decode cX0_blow 72 = .ok (.istore 4, 2) := by decide +kernel
theorem dX0_blow_74 : decode cX0_blow 74 = .ok (.iinc 5 1, 3) := by decide +kernel
theorem dX0_blow_77 : decode cX0_blow 77 = .ok (.goto (-25), 3) := by decide +kernel
theorem dX0_blow_80 : decode cX0_blow 80 = .ok (.iload_n 2, 1) := by decide +kernel
theorem dX0_blow_81 : decode cX0_blow 81 = .ok (.iload 4, 2) := by decide +kernel
theorem dX0_blow_83 : decode cX0_blow 83 = .ok (.iadd, 1) := by decide +kernel
theorem dX0_blow_84 : decode cX0_blow 84 = .ok (.istore_n 2, 1) := by decide +kernel
theorem dX0_blow_85 : decode cX0_blow 85 = .ok (.iinc 3 (-1), 3) := by decide +kernel
theorem dX0_blow_88 : decode cX0_blow 88 = .ok (.goto (-79), 3) := by decide +kernel
theorem dX0_blow_91 : decode cX0_blow 91 = .ok (.aload_n 0, 1) := by decide +kernel
theorem dX0_blow_92 : decode cX0_blow 92 = .ok (.dup, 1) := by decide +kernel
theorem dX0_blow_93 : decode cX0_blow 93 = .ok (.getfield 35, 3) := by decide +kernel
theorem dX0_blow_96 : decode cX0_blow 96 = .ok (.iload_n 2, 1) := by decide +kernel
theorem dX0_blow_97 : decode cX0_blow 97 = .ok (.iadd, 1) := by decide +kernel
theorem dX0_blow_98 : decode cX0_blow 98 = .ok (.putfield 35, 3) := by decide +kernel
theorem dX0_blow_101 : decode cX0_blow 101 = .ok (.iload_n 2, 1) := by decide +kernel
theorem dX0_blow_102 : decode cX0_blow 102 = .ok (.ireturn, 1) := by decide +kernel
theorem dX0_hold_0 : decode cX0_hold 0 = .ok (.iconst 1, 1) := by decide +kernel
theorem dX0_hold_1 : decode cX0_hold 1 = .ok (.iconst 2, 1) := by decide +kernel
theorem dX0_hold_2 : decode cX0_hold 2 = .ok (.aload_n 0, 1) := by decide +kernel
theorem dX0_hold_3 : decode cX0_hold 3 = .ok (.getfield 15, 3) := by decide +kernel
theorem dX0_hold_6 : decode cX0_hold 6 = .ok (.iload_n 1, 1) := by decide +kernel
theorem dX0_hold_7 : decode cX0_hold 7 = .ok (.iaload, 1) := by decide +kernel
theorem dX0_hold_8 : decode cX0_hold 8 = .ok (.imul, 1) := by decide +kernel
theorem dX0_hold_9 : decode cX0_hold 9 = .ok (.iadd, 1) := by decide +kernel
theorem dX0_hold_10 : decode cX0_hold 10 = .ok (.istore_n 3, 1) := by decide +kernel
theorem dX0_hold_11 : decode cX0_hold 11 = .ok (.iload_n 2, 1) := by decide +kernel
theorem dX0_hold_12 : decode cX0_hold 12 = .ok (.iload_n 3, 1) := by decide +kernel
theorem dX0_hold_13 : decode cX0_hold 13 = .ok (.aload_n 0, 1) := by decide +kernel
theorem dX0_hold_14 : decode cX0_hold 14 = .ok (.getfield 18, 3) := by decide +kernel
theorem dX0_hold_17 : decode cX0_hold 17 = .ok (.iload_n 1, 1) := by decide +kernel
theorem dX0_hold_18 : decode cX0_hold 18 = .ok (.iaload, 1) := by decide +kernel
theorem dX0_hold_19 : decode cX0_hold 19 = .ok (.iadd, 1) := by decide +kernel
theorem dX0_hold_20 : decode cX0_hold 20 = .ok (.bipush 99, 2) := by decide +kernel
theorem dX0_hold_22 : decode cX0_hold 22 = .ok (.aload_n 0, 1) := by decide +kernel
theorem dX0_hold_23 : decode cX0_hold 23 = .ok (.getfield 9, 3) := by decide +kernel
theorem dX0_hold_26 : decode cX0_hold 26 = .ok (.iload_n 1, 1) := by decide +kernel
theorem dX0_hold_27 : decode cX0_hold 27 = .ok (.iaload, 1) := by decide +kernel
theorem dX0_hold_28 : decode cX0_hold 28 = .ok (.isub, 1) := by decide +kernel
theorem dX0_hold_29 : decode cX0_hold 29 = .ok (.invokestatic 47, 3) := by decide +kernel
theorem dX0_hold_32 : decode cX0_hold 32 = .ok (.invokestatic 47, 3) := by decide +kernel
theorem dX0_hold_35 : decode cX0_hold 35 = .ok (.istore 4, 2) := by decide +kernel
theorem dX0_hold_37 : decode cX0_hold 37 = .ok (.aload_n 0, 1) := by decide +kernel
theorem dX0_hold_38 : decode cX0_hold 38 = .ok (.getfield 18, 3) := by decide +kernel
theorem dX0_hold_41 : decode cX0_hold 41 = .ok (.iload_n 1, 1) := by decide +kernel
theorem dX0_hold_42 : decode cX0_hold 42 = .ok (.dup2, 1) := by decide +kernel
theorem dX0_hold_43 : decode cX0_hold 43 = .ok (.iaload, 1) := by decide +kernel
theorem dX0_hold_44 : decode cX0_hold 44 = .ok (.iconst 0, 1) := by decide +kernel
theorem dX0_hold_45 : decode cX0_hold 45 = .ok (.iload 4, 2) := by decide +kernel
theorem dX0_hold_47 : decode cX0_hold 47 = .ok (.iload_n 3, 1) := by decide +kernel
theorem dX0_hold_48 : decode cX0_hold 48 = .ok (.isub, 1) := by decide +kernel
theorem dX0_hold_49 : decode cX0_hold 49 = .ok (.invokestatic 41, 3) := by decide +kernel
theorem dX0_hold_52 : decode cX0_hold 52 = .ok (.isub, 1) := by decide +kernel
theorem dX0_hold_53 : decode cX0_hold 53 = .ok (.iastore, 1) := by decide +kernel
theorem dX0_hold_54 : decode cX0_hold 54 = .ok (.aload_n 0, 1) := by decide +kernel
theorem dX0_hold_55 : decode cX0_hold 55 = .ok (.getfield 9, 3) := by decide +kernel
theorem dX0_hold_58 : decode cX0_hold 58 = .ok (.iload_n 1, 1) := by decide +kernel
theorem dX0_hold_59 : decode cX0_hold 59 = .ok (.dup2, 1) := by decide +kernel
theorem dX0_hold_60 : decode cX0_hold 60 = .ok (.iaload, 1) := by decide +kernel
theorem dX0_hold_61 : decode cX0_hold 61 = .ok (.iload 4, 2) := by decide +kernel
theorem dX0_hold_63 : decode cX0_hold 63 = .ok (.iadd, 1) := by decide +kernel
theorem dX0_hold_64 : decode cX0_hold 64 = .ok (.iastore, 1) := by decide +kernel
theorem dX0_hold_65 : decode cX0_hold 65 = .ok (.aload_n 0, 1) := by decide +kernel
theorem dX0_hold_66 : decode cX0_hold 66 = .ok (.getfield 21, 3) := by decide +kernel
theorem dX0_hold_69 : decode cX0_hold 69 = .ok (.iload_n 1, 1) := by decide +kernel
theorem dX0_hold_70 : decode cX0_hold 70 = .ok (.dup2, 1) := by decide +kernel
theorem dX0_hold_71 : decode cX0_hold 71 = .ok (.iaload, 1) := by decide +kernel
theorem dX0_hold_72 : decode cX0_hold 72 = .ok (.iload 4, 2) := by decide +kernel
theorem dX0_hold_74 : decode cX0_hold 74 = .ok (.iadd, 1) := by decide +kernel
theorem dX0_hold_75 : decode cX0_hold 75 = .ok (.iastore, 1) := by decide +kernel
theorem dX0_hold_76 : decode cX0_hold 76 = .ok (.iload 4, 2) := by decide +kernel
theorem dX0_hold_78 : decode cX0_hold 78 = .ok (.ireturn, 1) := by decide +kernel
set_option maxRecDepth 20000 in
theorem ggX0_surge_X0_washOut : GoodIn wsX0_surge wsX0_washOut := goodIn_r _ [10, 2, 11, 12, 13, 14, 15, 16, 17, 18, 19] (by decide +kernel) (by decide +kernel)
set_option maxRecDepth 20000 in
theorem gX0_surge_X0_washOut : GoodIn wsX0_surge (wsV RX0 53 RX0 yX0_washOut wsX0_washOut) := goodIn_app (goodIn_of _ (by decide +kernel)) ggX0_surge_X0_washOut
theorem dX0_surge_0 : decode cX0_surge 0 = .ok (.iconst 0, 1) := by decide +kernel
theorem dX0_surge_1 : decode cX0_surge 1 = .ok (.istore_n 2, 1) := by decide +kernel
theorem dX0_surge_2 : decode cX0_surge 2 = .ok (.iload_n 2, 1) := by decide +kernel
theorem dX0_surge_3 : decode cX0_surge 3 = .ok (.aload_n 0, 1) := by decide +kernel
theorem dX0_surge_4 : decode cX0_surge 4 = .ok (.getfield 28, 3) := by decide +kernel
theorem dX0_surge_7 : decode cX0_surge 7 = .ok (.if_icmp .ge 56, 3) := by decide +kernel
theorem dX0_surge_10 : decode cX0_surge 10 = .ok (.aload_n 0, 1) := by decide +kernel
theorem dX0_surge_11 : decode cX0_surge 11 = .ok (.getfield 9, 3) := by decide +kernel
theorem dX0_surge_14 : decode cX0_surge 14 = .ok (.iload_n 2, 1) := by decide +kernel
theorem dX0_surge_15 : decode cX0_surge 15 = .ok (.iaload, 1) := by decide +kernel
theorem dX0_surge_16 : decode cX0_surge 16 = .ok (.iload_n 1, 1) := by decide +kernel
theorem dX0_surge_17 : decode cX0_surge 17 = .ok (.if_icmp .lt 13, 3) := by decide +kernel
theorem dX0_surge_20 : decode cX0_surge 20 = .ok (.aload_n 0, 1) := by decide +kernel
theorem dX0_surge_21 : decode cX0_surge 21 = .ok (.iload_n 2, 1) := by decide +kernel
theorem dX0_surge_22 : decode cX0_surge 22 = .ok (.iload_n 1, 1) := by decide +kernel
theorem dX0_surge_23 : decode cX0_surge 23 = .ok (.iconst 4, 1) := by decide +kernel
theorem dX0_surge_24 : decode cX0_surge 24 = .ok (.idiv, 1) := by decide +kernel
theorem dX0_surge_25 : decode cX0_surge 25 = .ok (.invokevirtual 53, 3) := by decide +kernel
theorem dX0_surge_28 : decode cX0_surge 28 = .ok (.iload_n 2, 1) := by decide +kernel
theorem dX0_surge_29 : decode cX0_surge 29 = .ok (.ireturn, 1) := by decide +kernel
theorem dX0_surge_30 : decode cX0_surge 30 = .ok (.aload_n 0, 1) := by decide +kernel
theorem dX0_surge_31 : decode cX0_surge 31 = .ok (.iload_n 2, 1) := by decide +kernel
theorem dX0_surge_32 : decode cX0_surge 32 = .ok (.aload_n 0, 1) := by decide +kernel
theorem dX0_surge_33 : decode cX0_surge 33 = .ok (.getfield 9, 3) := by decide +kernel
theorem dX0_surge_36 : decode cX0_surge 36 = .ok (.iload_n 2, 1) := by decide +kernel
theorem dX0_surge_37 : decode cX0_surge 37 = .ok (.iaload, 1) := by decide +kernel
theorem dX0_surge_38 : decode cX0_surge 38 = .ok (.iconst 2, 1) := by decide +kernel
theorem dX0_surge_39 : decode cX0_surge 39 = .ok (.idiv, 1) := by decide +kernel
theorem dX0_surge_40 : decode cX0_surge 40 = .ok (.invokevirtual 53, 3) := by decide +kernel
theorem dX0_surge_43 : decode cX0_surge 43 = .ok (.aload_n 0, 1) := by decide +kernel
theorem dX0_surge_44 : decode cX0_surge 44 = .ok (.getfield 15, 3) := by decide +kernel
theorem dX0_surge_47 : decode cX0_surge 47 = .ok (.iload_n 2, 1) := by decide +kernel
theorem dX0_surge_48 : decode cX0_surge 48 = .ok (.iconst 0, 1) := by decide +kernel
theorem dX0_surge_49 : decode cX0_surge 49 = .ok (.iastore, 1) := by decide +kernel
theorem dX0_surge_50 : decode cX0_surge 50 = .ok (.aload_n 0, 1) := by decide +kernel
theorem dX0_surge_51 : decode cX0_surge 51 = .ok (.getfield 18, 3) := by decide +kernel
theorem dX0_surge_54 : decode cX0_surge 54 = .ok (.iload_n 2, 1) := by decide +kernel
theorem dX0_surge_55 : decode cX0_surge 55 = .ok (.iconst 0, 1) := by decide +kernel
theorem dX0_surge_56 : decode cX0_surge 56 = .ok (.iastore, 1) := by decide +kernel
theorem dX0_surge_57 : decode cX0_surge 57 = .ok (.iinc 2 1, 3) := by decide +kernel
theorem dX0_surge_60 : decode cX0_surge 60 = .ok (.goto (-58), 3) := by decide +kernel
theorem dX0_surge_63 : decode cX0_surge 63 = .ok (.aload_n 0, 1) := by decide +kernel
theorem dX0_surge_64 : decode cX0_surge 64 = .ok (.dup, 1) := by decide +kernel
theorem dX0_surge_65 : decode cX0_surge 65 = .ok (.getfield 38, 3) := by decide +kernel
theorem dX0_surge_68 : decode cX0_surge 68 = .ok (.iconst 1, 1) := by decide +kernel
theorem dX0_surge_69 : decode cX0_surge 69 = .ok (.iadd, 1) := by decide +kernel
theorem dX0_surge_70 : decode cX0_surge 70 = .ok (.putfield 38, 3) := by decide +kernel
theorem dX0_surge_73 : decode cX0_surge 73 = .ok (.aload_n 0, 1) := by decide +kernel
theorem dX0_surge_74 : decode cX0_surge 74 = .ok (.getfield 28, 3) := by decide +kernel
theorem dX0_surge_77 : decode cX0_surge 77 = .ok (.ireturn, 1) := by decide +kernel
theorem dX0_washOut_0 : decode cX0_washOut 0 = .ok (.aload_n 0, 1) := by decide +kernel
theorem dX0_washOut_1 : decode cX0_washOut 1 = .ok (.getfield 9, 3) := by decide +kernel
theorem dX0_washOut_4 : decode cX0_washOut 4 = .ok (.iload_n 1, 1) := by decide +kernel
theorem dX0_washOut_5 : decode cX0_washOut 5 = .ok (.dup2, 1) := by decide +kernel
theorem dX0_washOut_6 : decode cX0_washOut 6 = .ok (.iaload, 1) := by decide +kernel
theorem dX0_washOut_7 : decode cX0_washOut 7 = .ok (.iload_n 2, 1) := by decide +kernel
theorem dX0_washOut_8 : decode cX0_washOut 8 = .ok (.isub, 1) := by decide +kernel
theorem dX0_washOut_9 : decode cX0_washOut 9 = .ok (.iastore, 1) := by decide +kernel
theorem dX0_washOut_10 : decode cX0_washOut 10 = .ok (.aload_n 0, 1) := by decide +kernel
theorem dX0_washOut_11 : decode cX0_washOut 11 = .ok (.dup, 1) := by decide +kernel
theorem dX0_washOut_12 : decode cX0_washOut 12 = .ok (.getfield 32, 3) := by decide +kernel
theorem dX0_washOut_15 : decode cX0_washOut 15 = .ok (.iload_n 2, 1) := by decide +kernel
theorem dX0_washOut_16 : decode cX0_washOut 16 = .ok (.iadd, 1) := by decide +kernel
theorem dX0_washOut_17 : decode cX0_washOut 17 = .ok (.putfield 32, 3) := by decide +kernel
theorem dX0_washOut_20 : decode cX0_washOut 20 = .ok (.return_, 1) := by decide +kernel
set_option maxRecDepth 20000 in
theorem ggX0_endYear_X0_nextGrass : GoodIn wsX0_endYear wsX0_nextGrass := goodIn_r _ [7, 8, 9, 10, 11, 12, 13, 14] (by decide +kernel) (by decide +kernel)
set_option maxRecDepth 20000 in
theorem gX0_endYear_X0_nextGrass : GoodIn wsX0_endYear (va_wsS RX0 57 yX0_nextGrass wsX0_nextGrass) := goodIn_app (goodIn_of _ (by decide +kernel)) ggX0_endYear_X0_nextGrass
theorem dX0_endYear_0 : decode cX0_endYear 0 = .ok (.iconst 0, 1) := by decide +kernel
theorem dX0_endYear_1 : decode cX0_endYear 1 = .ok (.istore_n 1, 1) := by decide +kernel
theorem dX0_endYear_2 : decode cX0_endYear 2 = .ok (.iconst 0, 1) := by decide +kernel
theorem dX0_endYear_3 : decode cX0_endYear 3 = .ok (.istore_n 2, 1) := by decide +kernel
theorem dX0_endYear_4 : decode cX0_endYear 4 = .ok (.iload_n 2, 1) := by decide +kernel
theorem dX0_endYear_5 : decode cX0_endYear 5 = .ok (.aload_n 0, 1) := by decide +kernel
theorem dX0_endYear_6 : decode cX0_endYear 6 = .ok (.getfield 28, 3) := by decide +kernel
theorem dX0_endYear_9 : decode cX0_endYear 9 = .ok (.if_icmp .ge 52, 3) := by decide +kernel
theorem dX0_endYear_12 : decode cX0_endYear 12 = .ok (.aload_n 0, 1) := by decide +kernel
theorem dX0_endYear_13 : decode cX0_endYear 13 = .ok (.getfield 15, 3) := by decide +kernel
theorem dX0_endYear_16 : decode cX0_endYear 16 = .ok (.iload_n 2, 1) := by decide +kernel
theorem dX0_endYear_17 : decode cX0_endYear 17 = .ok (.iaload, 1) := by decide +kernel
theorem dX0_endYear_18 : decode cX0_endYear 18 = .ok (.aload_n 0, 1) := by decide +kernel
theorem dX0_endYear_19 : decode cX0_endYear 19 = .ok (.getfield 21, 3) := by decide +kernel
theorem dX0_endYear_22 : decode cX0_endYear 22 = .ok (.iload_n 2, 1) := by decide +kernel
theorem dX0_endYear_23 : decode cX0_endYear 23 = .ok (.iaload, 1) := by decide +kernel
theorem dX0_endYear_24 : decode cX0_endYear 24 = .ok (.invokestatic 57, 3) := by decide +kernel
theorem dX0_endYear_27 : decode cX0_endYear 27 = .ok (.istore_n 3, 1) := by decide +kernel
theorem dX0_endYear_28 : decode cX0_endYear 28 = .ok (.iload_n 3, 1) := by decide +kernel
theorem dX0_endYear_29 : decode cX0_endYear 29 = .ok (.aload_n 0, 1) := by decide +kernel
theorem dX0_endYear_30 : decode cX0_endYear 30 = .ok (.getfield 15, 3) := by decide +kernel
theorem dX0_endYear_33 : decode cX0_endYear 33 = .ok (.iload_n 2, 1) := by decide +kernel
theorem dX0_endYear_34 : decode cX0_endYear 34 = .ok (.iaload, 1) := by decide +kernel
theorem dX0_endYear_35 : decode cX0_endYear 35 = .ok (.if_icmp .eq 6, 3) := by decide +kernel
theorem dX0_endYear_38 : decode cX0_endYear 38 = .ok (.iinc 1 1, 3) := by decide +kernel
theorem dX0_endYear_41 : decode cX0_endYear 41 = .ok (.aload_n 0, 1) := by decide +kernel
theorem dX0_endYear_42 : decode cX0_endYear 42 = .ok (.getfield 15, 3) := by decide +kernel
theorem dX0_endYear_45 : decode cX0_endYear 45 = .ok (.iload_n 2, 1) := by decide +kernel
theorem dX0_endYear_46 : decode cX0_endYear 46 = .ok (.iload_n 3, 1) := by decide +kernel
theorem dX0_endYear_47 : decode cX0_endYear 47 = .ok (.iastore, 1) := by decide +kernel
theorem dX0_endYear_48 : decode cX0_endYear 48 = .ok (.aload_n 0, 1) := by decide +kernel
theorem dX0_endYear_49 : decode cX0_endYear 49 = .ok (.getfield 21, 3) := by decide +kernel
theorem dX0_endYear_52 : decode cX0_endYear 52 = .ok (.iload_n 2, 1) := by decide +kernel
theorem dX0_endYear_53 : decode cX0_endYear 53 = .ok (.iconst 0, 1) := by decide +kernel
theorem dX0_endYear_54 : decode cX0_endYear 54 = .ok (.iastore, 1) := by decide +kernel
theorem dX0_endYear_55 : decode cX0_endYear 55 = .ok (.iinc 2 1, 3) := by decide +kernel
theorem dX0_endYear_58 : decode cX0_endYear 58 = .ok (.goto (-54), 3) := by decide +kernel
theorem dX0_endYear_61 : decode cX0_endYear 61 = .ok (.iload_n 1, 1) := by decide +kernel
theorem dX0_endYear_62 : decode cX0_endYear 62 = .ok (.ireturn, 1) := by decide +kernel
set_option maxRecDepth 20000 in
theorem ggX0_nextGrass_X3_isWithin : GoodIn wsX0_nextGrass wsX3_isWithin := goodIn_r _ [7] (by decide +kernel) (by decide +kernel)
set_option maxRecDepth 20000 in
theorem gX0_nextGrass_X3_isWithin_n60 : GoodIn wsX0_nextGrass (wsX3_isWithin) := ggX0_nextGrass_X3_isWithin
theorem dX0_nextGrass_0 : decode cX0_nextGrass 0 = .ok (.iload_n 0, 1) := by decide +kernel
theorem dX0_nextGrass_1 : decode cX0_nextGrass 1 = .ok (.ifCond .eq 9, 3) := by decide +kernel
theorem dX0_nextGrass_4 : decode cX0_nextGrass 4 = .ok (.iload_n 1, 1) := by decide +kernel
theorem dX0_nextGrass_5 : decode cX0_nextGrass 5 = .ok (.bipush 30, 2) := by decide +kernel
theorem dX0_nextGrass_7 : decode cX0_nextGrass 7 = .ok (.if_icmp .le 5, 3) := by decide +kernel
theorem dX0_nextGrass_10 : decode cX0_nextGrass 10 = .ok (.iconst 0, 1) := by decide +kernel
theorem dX0_nextGrass_11 : decode cX0_nextGrass 11 = .ok (.ireturn, 1) := by decide +kernel
theorem dX0_nextGrass_12 : decode cX0_nextGrass 12 = .ok (.iload_n 1, 1) := by decide +kernel
theorem dX0_nextGrass_13 : decode cX0_nextGrass 13 = .ok (.iconst 1, 1) := by decide +kernel
theorem dX0_nextGrass_14 : decode cX0_nextGrass 14 = .ok (.bipush 9, 2) := by decide +kernel
theorem dX0_nextGrass_16 : decode cX0_nextGrass 16 = .ok (.invokestatic 60, 3) := by decide +kernel
theorem dX0_nextGrass_19 : decode cX0_nextGrass 19 = .ok (.ifCond .eq 14, 3) := by decide +kernel
theorem dX0_nextGrass_22 : decode cX0_nextGrass 22 = .ok (.bipush 9, 2) := by decide +kernel
theorem dX0_nextGrass_24 : decode cX0_nextGrass 24 = .ok (.iload_n 0, 1) := by decide +kernel
theorem dX0_nextGrass_25 : decode cX0_nextGrass 25 = .ok (.iconst 1, 1) := by decide +kernel
theorem dX0_nextGrass_26 : decode cX0_nextGrass 26 = .ok (.iadd, 1) := by decide +kernel
theorem dX0_nextGrass_27 : decode cX0_nextGrass 27 = .ok (.invokestatic 47, 3) := by decide +kernel
theorem dX0_nextGrass_30 : decode cX0_nextGrass 30 = .ok (.goto 4, 3) := by decide +kernel
theorem dX0_nextGrass_33 : decode cX0_nextGrass 33 = .ok (.iload_n 0, 1) := by decide +kernel
theorem dX0_nextGrass_34 : decode cX0_nextGrass 34 = .ok (.ireturn, 1) := by decide +kernel
theorem dX0_addSand_0 : decode cX0_addSand 0 = .ok (.iload_n 1, 1) := by decide +kernel
theorem dX0_addSand_1 : decode cX0_addSand 1 = .ok (.bipush 99, 2) := by decide +kernel
theorem dX0_addSand_3 : decode cX0_addSand 3 = .ok (.aload_n 0, 1) := by decide +kernel
theorem dX0_addSand_4 : decode cX0_addSand 4 = .ok (.getfield 9, 3) := by decide +kernel
theorem dX0_addSand_7 : decode cX0_addSand 7 = .ok (.iconst 0, 1) := by decide +kernel
theorem dX0_addSand_8 : decode cX0_addSand 8 = .ok (.iaload, 1) := by decide +kernel
theorem dX0_addSand_9 : decode cX0_addSand 9 = .ok (.isub, 1) := by decide +kernel
theorem dX0_addSand_10 : decode cX0_addSand 10 = .ok (.invokestatic 47, 3) := by decide +kernel
theorem dX0_addSand_13 : decode cX0_addSand 13 = .ok (.istore_n 2, 1) := by decide +kernel
theorem dX0_addSand_14 : decode cX0_addSand 14 = .ok (.aload_n 0, 1) := by decide +kernel
theorem dX0_addSand_15 : decode cX0_addSand 15 = .ok (.getfield 9, 3) := by decide +kernel
theorem dX0_addSand_18 : decode cX0_addSand 18 = .ok (.iconst 0, 1) := by decide +kernel
theorem dX0_addSand_19 : decode cX0_addSand 19 = .ok (.dup2, 1) := by decide +kernel
theorem dX0_addSand_20 : decode cX0_addSand 20 = .ok (.iaload, 1) := by decide +kernel
theorem dX0_addSand_21 : decode cX0_addSand 21 = .ok (.iload_n 2, 1) := by decide +kernel
theorem dX0_addSand_22 : decode cX0_addSand 22 = .ok (.iadd, 1) := by decide +kernel
theorem dX0_addSand_23 : decode cX0_addSand 23 = .ok (.iastore, 1) := by decide +kernel
theorem dX0_addSand_24 : decode cX0_addSand 24 = .ok (.iload_n 2, 1) := by decide +kernel
theorem dX0_addSand_25 : decode cX0_addSand 25 = .ok (.ireturn, 1) := by decide +kernel
theorem dX0_heightsTogether_0 : decode cX0_heightsTogether 0 = .ok (.iconst 0, 1) := by decide +kernel
theorem dX0_heightsTogether_1 : decode cX0_heightsTogether 1 = .ok (.istore_n 1, 1) := by decide +kernel
theorem dX0_heightsTogether_2 : decode cX0_heightsTogether 2 = .ok (.iconst 0, 1) := by decide +kernel
theorem dX0_heightsTogether_3 : decode cX0_heightsTogether 3 = .ok (.istore_n 2, 1) := by decide +kernel
theorem dX0_heightsTogether_4 : decode cX0_heightsTogether 4 = .ok (.iload_n 2, 1) := by decide +kernel
theorem dX0_heightsTogether_5 : decode cX0_heightsTogether 5 = .ok (.aload_n 0, 1) := by decide +kernel
theorem dX0_heightsTogether_6 : decode cX0_heightsTogether 6 = .ok (.getfield 28, 3) := by decide +kernel
theorem dX0_heightsTogether_9 : decode cX0_heightsTogether 9 = .ok (.if_icmp .ge 18, 3) := by decide +kernel
theorem dX0_heightsTogether_12 : decode cX0_heightsTogether 12 = .ok (.iload_n 1, 1) := by decide +kernel
theorem dX0_heightsTogether_13 : decode cX0_heightsTogether 13 = .ok (.aload_n 0, 1) := by decide +kernel
theorem dX0_heightsTogether_14 : decode cX0_heightsTogether 14 = .ok (.getfield 9, 3) := by decide +kernel
theorem dX0_heightsTogether_17 : decode cX0_heightsTogether 17 = .ok (.iload_n 2, 1) := by decide +kernel
theorem dX0_heightsTogether_18 : decode cX0_heightsTogether 18 = .ok (.iaload, 1) := by decide +kernel
theorem dX0_heightsTogether_19 : decode cX0_heightsTogether 19 = .ok (.iadd, 1) := by decide +kernel
theorem dX0_heightsTogether_20 : decode cX0_heightsTogether 20 = .ok (.istore_n 1, 1) := by decide +kernel
theorem dX0_heightsTogether_21 : decode cX0_heightsTogether 21 = .ok (.iinc 2 1, 3) := by decide +kernel
theorem dX0_heightsTogether_24 : decode cX0_heightsTogether 24 = .ok (.goto (-20), 3) := by decide +kernel
theorem dX0_heightsTogether_27 : decode cX0_heightsTogether 27 = .ok (.iload_n 1, 1) := by decide +kernel
theorem dX0_heightsTogether_28 : decode cX0_heightsTogether 28 = .ok (.ireturn, 1) := by decide +kernel
theorem dX0_greatestHeight_0 : decode cX0_greatestHeight 0 = .ok (.iconst 0, 1) := by decide +kernel
theorem dX0_greatestHeight_1 : decode cX0_greatestHeight 1 = .ok (.istore_n 1, 1) := by decide +kernel
theorem dX0_greatestHeight_2 : decode cX0_greatestHeight 2 = .ok (.iconst 0, 1) := by decide +kernel
theorem dX0_greatestHeight_3 : decode cX0_greatestHeight 3 = .ok (.istore_n 2, 1) := by decide +kernel
theorem dX0_greatestHeight_4 : decode cX0_greatestHeight 4 = .ok (.iload_n 2, 1) := by decide +kernel
theorem dX0_greatestHeight_5 : decode cX0_greatestHeight 5 = .ok (.aload_n 0, 1) := by decide +kernel
theorem dX0_greatestHeight_6 : decode cX0_greatestHeight 6 = .ok (.getfield 28, 3) := by decide +kernel
theorem dX0_greatestHeight_9 : decode cX0_greatestHeight 9 = .ok (.if_icmp .ge 20, 3) := by decide +kernel
theorem dX0_greatestHeight_12 : decode cX0_greatestHeight 12 = .ok (.iload_n 1, 1) := by decide +kernel
theorem dX0_greatestHeight_13 : decode cX0_greatestHeight 13 = .ok (.aload_n 0, 1) := by decide +kernel
theorem dX0_greatestHeight_14 : decode cX0_greatestHeight 14 = .ok (.getfield 9, 3) := by decide +kernel
theorem dX0_greatestHeight_17 : decode cX0_greatestHeight 17 = .ok (.iload_n 2, 1) := by decide +kernel
theorem dX0_greatestHeight_18 : decode cX0_greatestHeight 18 = .ok (.iaload, 1) := by decide +kernel
theorem dX0_greatestHeight_19 : decode cX0_greatestHeight 19 = .ok (.invokestatic 41, 3) := by decide +kernel
theorem dX0_greatestHeight_22 : decode cX0_greatestHeight 22 = .ok (.istore_n 1, 1) := by decide +kernel
theorem dX0_greatestHeight_23 : decode cX0_greatestHeight 23 = .ok (.iinc 2 1, 3) := by decide +kernel
theorem dX0_greatestHeight_26 : decode cX0_greatestHeight 26 = .ok (.goto (-22), 3) := by decide +kernel
theorem dX0_greatestHeight_29 : decode cX0_greatestHeight 29 = .ok (.iload_n 1, 1) := by decide +kernel
theorem dX0_greatestHeight_30 : decode cX0_greatestHeight 30 = .ok (.ireturn, 1) := by decide +kernel
set_option maxRecDepth 20000 in
theorem ggX1_init_X1_forget : GoodIn wsX1_init wsX1_forget := goodIn_r _ [10, 5, 11] (by decide +kernel) (by decide +kernel)
set_option maxRecDepth 20000 in
theorem gX1_init_X1_forget : GoodIn wsX1_init (wsV RX1 15 RX1 yX1_forget wsX1_forget) := goodIn_app (goodIn_of _ (by decide +kernel)) ggX1_init_X1_forget
theorem dX1_init_0 : decode cX1_init 0 = .ok (.aload_n 0, 1) := by decide +kernel
theorem dX1_init_1 : decode cX1_init 1 = .ok (.invokespecial 3, 3) := by decide +kernel
theorem dX1_init_4 : decode cX1_init 4 = .ok (.aload_n 0, 1) := by decide +kernel
theorem dX1_init_5 : decode cX1_init 5 = .ok (.bipush 7, 2) := by decide +kernel
theorem dX1_init_7 : decode cX1_init 7 = .ok (.newarray .int, 2) := by decide +kernel
theorem dX1_init_9 : decode cX1_init 9 = .ok (.putfield 9, 3) := by decide +kernel
theorem dX1_init_12 : decode cX1_init 12 = .ok (.aload_n 0, 1) := by decide +kernel
theorem dX1_init_13 : decode cX1_init 13 = .ok (.invokevirtual 15, 3) := by decide +kernel
theorem dX1_init_16 : decode cX1_init 16 = .ok (.return_, 1) := by decide +kernel
theorem dX1_forget_0 : decode cX1_forget 0 = .ok (.iconst 0, 1) := by decide +kernel
theorem dX1_forget_1 : decode cX1_forget 1 = .ok (.istore_n 1, 1) := by decide +kernel
theorem dX1_forget_2 : decode cX1_forget 2 = .ok (.iload_n 1, 1) := by decide +kernel
theorem dX1_forget_3 : decode cX1_forget 3 = .ok (.bipush 7, 2) := by decide +kernel
theorem dX1_forget_5 : decode cX1_forget 5 = .ok (.if_icmp .ge 16, 3) := by decide +kernel
theorem dX1_forget_8 : decode cX1_forget 8 = .ok (.aload_n 0, 1) := by decide +kernel
theorem dX1_forget_9 : decode cX1_forget 9 = .ok (.getfield 9, 3) := by decide +kernel
theorem dX1_forget_12 : decode cX1_forget 12 = .ok (.iload_n 1, 1) := by decide +kernel
theorem dX1_forget_13 : decode cX1_forget 13 = .ok (.iconst (-1), 1) := by decide +kernel
theorem dX1_forget_14 : decode cX1_forget 14 = .ok (.iastore, 1) := by decide +kernel
theorem dX1_forget_15 : decode cX1_forget 15 = .ok (.iinc 1 1, 3) := by decide +kernel
theorem dX1_forget_18 : decode cX1_forget 18 = .ok (.goto (-16), 3) := by decide +kernel
theorem dX1_forget_21 : decode cX1_forget 21 = .ok (.return_, 1) := by decide +kernel
theorem dX1_put_0 : decode cX1_put 0 = .ok (.aload_n 0, 1) := by decide +kernel
theorem dX1_put_1 : decode cX1_put 1 = .ok (.getfield 9, 3) := by decide +kernel
theorem dX1_put_4 : decode cX1_put 4 = .ok (.iload_n 1, 1) := by decide +kernel
theorem dX1_put_5 : decode cX1_put 5 = .ok (.iaload, 1) := by decide +kernel
theorem dX1_put_6 : decode cX1_put 6 = .ok (.istore_n 3, 1) := by decide +kernel
theorem dX1_put_7 : decode cX1_put 7 = .ok (.aload_n 0, 1) := by decide +kernel
theorem dX1_put_8 : decode cX1_put 8 = .ok (.getfield 9, 3) := by decide +kernel
theorem dX1_put_11 : decode cX1_put 11 = .ok (.iload_n 1, 1) := by decide +kernel
theorem dX1_put_12 : decode cX1_put 12 = .ok (.iload_n 2, 1) := by decide +kernel
theorem dX1_put_13 : decode cX1_put 13 = .ok (.iastore, 1) := by decide +kernel
theorem dX1_put_14 : decode cX1_put 14 = .ok (.iload_n 3, 1) := by decide +kernel
theorem dX1_put_15 : decode cX1_put 15 = .ok (.ireturn, 1) := by decide +kernel
theorem dX1_readings_0 : decode cX1_readings 0 = .ok (.iconst 0, 1) := by decide +kernel
theorem dX1_readings_1 : decode cX1_readings 1 = .ok (.istore_n 1, 1) := by decide +kernel
theorem dX1_readings_2 : decode cX1_readings 2 = .ok (.iconst 0, 1) := by decide +kernel
theorem dX1_readings_3 : decode cX1_readings 3 = .ok (.istore_n 2, 1) := by decide +kernel
theorem dX1_readings_4 : decode cX1_readings 4 = .ok (.iload_n 2, 1) := by decide +kernel
theorem dX1_readings_5 : decode cX1_readings 5 = .ok (.bipush 7, 2) := by decide +kernel
theorem dX1_readings_7 : decode cX1_readings 7 = .ok (.if_icmp .ge 22, 3) := by decide +kernel
theorem dX1_readings_10 : decode cX1_readings 10 = .ok (.aload_n 0, 1) := by decide +kernel
theorem dX1_readings_11 : decode cX1_readings 11 = .ok (.getfield 9, 3) := by decide +kernel
theorem dX1_readings_14 : decode cX1_readings 14 = .ok (.iload_n 2, 1) := by decide +kernel
theorem dX1_readings_15 : decode cX1_readings 15 = .ok (.iaload, 1) := by decide +kernel
theorem dX1_readings_16 : decode cX1_readings 16 = .ok (.iconst (-1), 1) := by decide +kernel
theorem dX1_readings_17 : decode cX1_readings 17 = .ok (.if_icmp .eq 6, 3) := by decide +kernel
theorem dX1_readings_20 : decode cX1_readings 20 = .ok (.iinc 1 1, 3) := by decide +kernel
theorem dX1_readings_23 : decode cX1_readings 23 = .ok (.iinc 2 1, 3) := by decide +kernel
theorem dX1_readings_26 : decode cX1_readings 26 = .ok (.goto (-22), 3) := by decide +kernel
theorem dX1_readings_29 : decode cX1_readings 29 = .ok (.iload_n 1, 1) := by decide +kernel
theorem dX1_readings_30 : decode cX1_readings 30 = .ok (.ireturn, 1) := by decide +kernel
theorem dX1_nearest_0 : decode cX1_nearest 0 = .ok (.iload_n 1, 1) := by decide +kernel
theorem dX1_nearest_1 : decode cX1_nearest 1 = .ok (.istore 5, 2) := by decide +kernel
theorem dX1_nearest_3 : decode cX1_nearest 3 = .ok (.iconst 0, 1) := by decide +kernel
theorem dX1_nearest_4 : decode cX1_nearest 4 = .ok (.istore 6, 2) := by decide +kernel
theorem dX1_nearest_6 : decode cX1_nearest 6 = .ok (.iload 6, 2) := by decide +kernel
theorem dX1_nearest_8 : decode cX1_nearest 8 = .ok (.bipush 7, 2) := by decide +kernel
theorem dX1_nearest_10 : decode cX1_nearest 10 = .ok (.if_icmp .ge 47, 3) := by decide +kernel
theorem dX1_nearest_13 : decode cX1_nearest 13 = .ok (.iload 5, 2) := by decide +kernel
theorem dX1_nearest_15 : decode cX1_nearest 15 = .ok (.ifCond .lt 42, 3) := by decide +kernel
theorem dX1_nearest_18 : decode cX1_nearest 18 = .ok (.iload 5, 2) := by decide +kernel
theorem dX1_nearest_20 : decode cX1_nearest 20 = .ok (.iload_n 3, 1) := by decide +kernel
theorem dX1_nearest_21 : decode cX1_nearest 21 = .ok (.if_icmp .ge 36, 3) := by decide +kernel
theorem dX1_nearest_24 : decode cX1_nearest 24 = .ok (.aload_n 0, 1) := by decide +kernel
theorem dX1_nearest_25 : decode cX1_nearest 25 = .ok (.getfield 9, 3) := by decide +kernel
theorem dX1_nearest_28 : decode cX1_nearest 28 = .ok (.iload 5, 2) := by decide +kernel
theorem dX1_nearest_30 : decode cX1_nearest 30 = .ok (.iaload, 1) := by decide +kernel
theorem dX1_nearest_31 : decode cX1_nearest 31 = .ok (.iconst (-1), 1) := by decide +kernel
theorem dX1_nearest_32 : decode cX1_nearest 32 = .ok (.if_icmp .eq 13, 3) := by decide +kernel
theorem dX1_nearest_35 : decode cX1_nearest 35 = .ok (.iload 5, 2) := by decide +kernel
theorem dX1_nearest_37 : decode cX1_nearest 37 = .ok (.iload 4, 2) := by decide +kernel
theorem dX1_nearest_39 : decode cX1_nearest 39 = .ok (.if_icmp .eq 6, 3) := by decide +kernel
theorem dX1_nearest_42 : decode cX1_nearest 42 = .ok (.iload 5, 2) := by decide +kernel
theorem dX1_nearest_44 : decode cX1_nearest 44 = .ok (.ireturn, 1) := by decide +kernel
theorem dX1_nearest_45 : decode cX1_nearest 45 = .ok (.iload 5, 2) := by decide +kernel
theorem dX1_nearest_47 : decode cX1_nearest 47 = .ok (.iload_n 2, 1) := by decide +kernel
theorem dX1_nearest_48 : decode cX1_nearest 48 = .ok (.iadd, 1) := by decide +kernel
theorem dX1_nearest_49 : decode cX1_nearest 49 = .ok (.istore 5, 2) := by decide +kernel
theorem dX1_nearest_51 : decode cX1_nearest 51 = .ok (.iinc 6 1, 3) := by decide +kernel
theorem dX1_nearest_54 : decode cX1_nearest 54 = .ok (.goto (-48), 3) := by decide +kernel
theorem dX1_nearest_57 : decode cX1_nearest 57 = .ok (.iconst (-1), 1) := by decide +kernel
theorem dX1_nearest_58 : decode cX1_nearest 58 = .ok (.ireturn, 1) := by decide +kernel
set_option maxRecDepth 20000 in
theorem ggX1_scaledLevel_X1_nearest : GoodIn wsX1_scaledLevel wsX1_nearest := goodIn_r _ [6, 1, 7] (by decide +kernel) (by decide +kernel)
set_option maxRecDepth 20000 in
theorem gX1_scaledLevel_X1_nearest : GoodIn wsX1_scaledLevel (wsV RX1 18 RX1 yX1_nearest wsX1_nearest) := goodIn_app (goodIn_of _ (by decide +kernel)) ggX1_scaledLevel_X1_nearest
theorem dX1_scaledLevel_0 : decode cX1_scaledLevel 0 = .ok (.aload_n 0, 1) := by decide +kernel
theorem dX1_scaledLevel_1 : decode cX1_scaledLevel 1 = .ok (.iload_n 1, 1) := by decide +kernel
theorem dX1_scaledLevel_2 : decode cX1_scaledLevel 2 = .ok (.iconst (-1), 1) := by decide +kernel
theorem dX1_scaledLevel_3 : decode cX1_scaledLevel 3 = .ok (.iload_n 2, 1) := by decide +kernel
theorem dX1_scaledLevel_4 : decode cX1_scaledLevel 4 = .ok (.iload_n 3, 1) := by decide +kernel
theorem dX1_scaledLevel_5 : decode cX1_scaledLevel 5 = .ok (.invokevirtual 18, 3) := by decide +kernel
theorem dX1_scaledLevel_8 : decode cX1_scaledLevel 8 = .ok (.istore 4, 2) := by decide +kernel
theorem dX1_scaledLevel_10 : decode cX1_scaledLevel 10 = .ok (.aload_n 0, 1) := by decide +kernel
theorem dX1_scaledLevel_11 : decode cX1_scaledLevel 11 = .ok (.iload_n 1, 1) := by decide +kernel
theorem dX1_scaledLevel_12 : decode cX1_scaledLevel 12 = .ok (.iconst 1, 1) := by decide +kernel
theorem dX1_scaledLevel_13 : decode cX1_scaledLevel 13 = .ok (.iload_n 2, 1) := by decide +kernel
theorem dX1_scaledLevel_14 : decode cX1_scaledLevel 14 = .ok (.iload_n 3, 1) := by decide +kernel
theorem dX1_scaledLevel_15 : decode cX1_scaledLevel 15 = .ok (.invokevirtual 18, 3) := by decide +kernel
theorem dX1_scaledLevel_18 : decode cX1_scaledLevel 18 = .ok (.istore 5, 2) := by decide +kernel
theorem dX1_scaledLevel_20 : decode cX1_scaledLevel 20 = .ok (.iload 4, 2) := by decide +kernel
theorem dX1_scaledLevel_22 : decode cX1_scaledLevel 22 = .ok (.iconst (-1), 1) := by decide +kernel
theorem dX1_scaledLevel_23 : decode cX1_scaledLevel 23 = .ok (.if_icmp .ne 11, 3) := by decide +kernel
theorem dX1_scaledLevel_26 : decode cX1_scaledLevel 26 = .ok (.iload 5, 2) := by decide +kernel
theorem dX1_scaledLevel_28 : decode cX1_scaledLevel 28 = .ok (.iconst (-1), 1) := by decide +kernel
theorem dX1_scaledLevel_29 : decode cX1_scaledLevel 29 = .ok (.if_icmp .ne 5, 3) := by decide +kernel
theorem dX1_scaledLevel_32 : decode cX1_scaledLevel 32 = .ok (.iconst 0, 1) := by decide +kernel
theorem dX1_scaledLevel_33 : decode cX1_scaledLevel 33 = .ok (.ireturn, 1) := by decide +kernel
theorem dX1_scaledLevel_34 : decode cX1_scaledLevel 34 = .ok (.iload 4, 2) := by decide +kernel
theorem dX1_scaledLevel_36 : decode cX1_scaledLevel 36 = .ok (.iconst (-1), 1) := by decide +kernel
theorem dX1_scaledLevel_37 : decode cX1_scaledLevel 37 = .ok (.if_icmp .ne 14, 3) := by decide +kernel
theorem dX1_scaledLevel_40 : decode cX1_scaledLevel 40 = .ok (.bipush 60, 2) := by decide +kernel
theorem dX1_scaledLevel_42 : decode cX1_scaledLevel 42 = .ok (.aload_n 0, 1) := by decide +kernel
theorem dX1_scaledLevel_43 : decode cX1_scaledLevel 43 = .ok (.getfield 9, 3) := by decide +kernel
theorem dX1_scaledLevel_46 : decode cX1_scaledLevel 46 = .ok (.iload 5, 2) := by decide +kernel
theorem dX1_scaledLevel_48 : decode cX1_scaledLevel 48 = .ok (.iaload, 1) := by decide +kernel
theorem dX1_scaledLevel_49 : decode cX1_scaledLevel 49 = .ok (.imul, 1) := by decide +kernel
theorem dX1_scaledLevel_50 : decode cX1_scaledLevel 50 = .ok (.ireturn, 1) := by decide +kernel
theorem dX1_scaledLevel_51 : decode cX1_scaledLevel 51 = .ok (.iload 5, 2) := by decide +kernel
theorem dX1_scaledLevel_53 : decode cX1_scaledLevel 53 = .ok (.iconst (-1), 1) := by decide +kernel
theorem dX1_scaledLevel_54 : decode cX1_scaledLevel 54 = .ok (.if_icmp .eq 10, 3) := by decide +kernel
theorem dX1_scaledLevel_57 : decode cX1_scaledLevel 57 = .ok (.iload 5, 2) := by decide +kernel
theorem dX1_scaledLevel_59 : decode cX1_scaledLevel 59 = .ok (.iload 4, 2) := by decide +kernel
theorem dX1_scaledLevel_61 : decode cX1_scaledLevel 61 = .ok (.if_icmp .gt 14, 3) := by decide +kernel
theorem dX1_scaledLevel_64 : decode cX1_scaledLevel 64 = .ok (.bipush 60, 2) := by decide +kernel
theorem dX1_scaledLevel_66 : decode cX1_scaledLevel 66 = .ok (.aload_n 0, 1) := by decide +kernel
theorem dX1_scaledLevel_67 : decode cX1_scaledLevel 67 = .ok (.getfield 9, 3) := by decide +kernel
theorem dX1_scaledLevel_70 : decode cX1_scaledLevel 70 = .ok (.iload 4, 2) := by decide +kernel
theorem dX1_scaledLevel_72 : decode cX1_scaledLevel 72 = .ok (.iaload, 1) := by decide +kernel
theorem dX1_scaledLevel_73 : decode cX1_scaledLevel 73 = .ok (.imul, 1) := by decide +kernel
theorem dX1_scaledLevel_74 : decode cX1_scaledLevel 74 = .ok (.ireturn, 1) := by decide +kernel
theorem dX1_scaledLevel_75 : decode cX1_scaledLevel 75 = .ok (.bipush 60, 2) := by decide +kernel
theorem dX1_scaledLevel_77 : decode cX1_scaledLevel 77 = .ok (.iload 5, 2) := by decide +kernel
theorem dX1_scaledLevel_79 : decode cX1_scaledLevel 79 = .ok (.iload 4, 2) := by decide +kernel
theorem dX1_scaledLevel_81 : decode cX1_scaledLevel 81 = .ok (.isub, 1) := by decide +kernel
theorem dX1_scaledLevel_82 : decode cX1_scaledLevel 82 = .ok (.idiv, 1) := by decide +kernel
theorem dX1_scaledLevel_83 : decode cX1_scaledLevel 83 = .ok (.istore 6, 2) := by decide +kernel
theorem dX1_scaledLevel_85 : decode cX1_scaledLevel 85 = .ok (.iload 6, 2) := by decide +kernel
theorem dX1_scaledLevel_87 : decode cX1_scaledLevel 87 = .ok (.aload_n 0, 1) := by decide +kernel
theorem dX1_scaledLevel_88 : decode cX1_scaledLevel 88 = .ok (.getfield 9, 3) := by decide +kernel
theorem dX1_scaledLevel_91 : decode cX1_scaledLevel 91 = .ok (.iload 4, 2) := by decide +kernel
theorem dX1_scaledLevel_93 : decode cX1_scaledLevel 93 = .ok (.iaload, 1) := by decide +kernel
theorem dX1_scaledLevel_94 : decode cX1_scaledLevel 94 = .ok (.iload 5, 2) := by decide +kernel
theorem dX1_scaledLevel_96 : decode cX1_scaledLevel 96 = .ok (.iload_n 1, 1) := by decide +kernel
theorem dX1_scaledLevel_97 : decode cX1_scaledLevel 97 = .ok (.isub, 1) := by decide +kernel
theorem dX1_scaledLevel_98 : decode cX1_scaledLevel 98 = .ok (.imul, 1) := by decide +kernel
theorem dX1_scaledLevel_99 : decode cX1_scaledLevel 99 = .ok (.aload_n 0, 1) := by decide +kernel
theorem dX1_scaledLevel_100 : decode cX1_scaledLevel 100 = .ok (.getfield 9, 3) := by decide +kernel
theorem dX1_scaledLevel_103 : decode cX1_scaledLevel 103 = .ok (.iload 5, 2) := by decide +kernel
theorem dX1_scaledLevel_105 : decode cX1_scaledLevel 105 = .ok (.iaload, 1) := by decide +kernel
theorem dX1_scaledLevel_106 : decode cX1_scaledLevel 106 = .ok (.iload_n 1, 1) := by decide +kernel
theorem dX1_scaledLevel_107 : decode cX1_scaledLevel 107 = .ok (.iload 4, 2) := by decide +kernel
theorem dX1_scaledLevel_109 : decode cX1_scaledLevel 109 = .ok (.isub, 1) := by decide +kernel
theorem dX1_scaledLevel_110 : decode cX1_scaledLevel 110 = .ok (.imul, 1) := by decide +kernel
theorem dX1_scaledLevel_111 : decode cX1_scaledLevel 111 = .ok (.iadd, 1) := by decide +kernel
theorem dX1_scaledLevel_112 : decode cX1_scaledLevel 112 = .ok (.imul, 1) := by decide +kernel
theorem dX1_scaledLevel_113 : decode cX1_scaledLevel 113 = .ok (.ireturn, 1) := by decide +kernel
set_option maxRecDepth 20000 in
theorem ggX1_scaledVolume_X1_scaledLevel : GoodIn wsX1_scaledVolume wsX1_scaledLevel := goodIn_r _ [5, 6, 7, 8, 9, 4, 10, 11] (by decide +kernel) (by decide +kernel)
set_option maxRecDepth 20000 in
theorem gX1_scaledVolume_X1_scaledLevel : GoodIn wsX1_scaledVolume (wsV RX1 22 RX1 yX1_scaledLevel wsX1_scaledLevel) := goodIn_app (goodIn_of _ (by decide +kernel)) ggX1_scaledVolume_X1_scaledLevel
theorem dX1_scaledVolume_0 : decode cX1_scaledVolume 0 = .ok (.iconst 0, 1) := by decide +kernel
theorem dX1_scaledVolume_1 : decode cX1_scaledVolume 1 = .ok (.istore_n 3, 1) := by decide +kernel
theorem dX1_scaledVolume_2 : decode cX1_scaledVolume 2 = .ok (.iconst 0, 1) := by decide +kernel
theorem dX1_scaledVolume_3 : decode cX1_scaledVolume 3 = .ok (.istore 4, 2) := by decide +kernel
theorem dX1_scaledVolume_5 : decode cX1_scaledVolume 5 = .ok (.iload 4, 2) := by decide +kernel
theorem dX1_scaledVolume_7 : decode cX1_scaledVolume 7 = .ok (.iload_n 1, 1) := by decide +kernel
theorem dX1_scaledVolume_8 : decode cX1_scaledVolume 8 = .ok (.if_icmp .ge 20, 3) := by decide +kernel
theorem dX1_scaledVolume_11 : decode cX1_scaledVolume 11 = .ok (.iload_n 3, 1) := by decide +kernel
theorem dX1_scaledVolume_12 : decode cX1_scaledVolume 12 = .ok (.aload_n 0, 1) := by decide +kernel
theorem dX1_scaledVolume_13 : decode cX1_scaledVolume 13 = .ok (.iload 4, 2) := by decide +kernel
theorem dX1_scaledVolume_15 : decode cX1_scaledVolume 15 = .ok (.iload_n 1, 1) := by decide +kernel
theorem dX1_scaledVolume_16 : decode cX1_scaledVolume 16 = .ok (.iload_n 2, 1) := by decide +kernel
theorem dX1_scaledVolume_17 : decode cX1_scaledVolume 17 = .ok (.invokevirtual 22, 3) := by decide +kernel
theorem dX1_scaledVolume_20 : decode cX1_scaledVolume 20 = .ok (.iadd, 1) := by decide +kernel
theorem dX1_scaledVolume_21 : decode cX1_scaledVolume 21 = .ok (.istore_n 3, 1) := by decide +kernel
theorem dX1_scaledVolume_22 : decode cX1_scaledVolume 22 = .ok (.iinc 4 1, 3) := by decide +kernel
theorem dX1_scaledVolume_25 : decode cX1_scaledVolume 25 = .ok (.goto (-20), 3) := by decide +kernel
theorem dX1_scaledVolume_28 : decode cX1_scaledVolume 28 = .ok (.iload_n 3, 1) := by decide +kernel
theorem dX1_scaledVolume_29 : decode cX1_scaledVolume 29 = .ok (.ireturn, 1) := by decide +kernel
set_option maxRecDepth 20000 in
theorem ggX1_scaledDoubt_X1_scaledVolume : GoodIn wsX1_scaledDoubt wsX1_scaledVolume := goodIn_r _ [13, 14, 15, 16, 12, 17, 1, 18, 19, 20, 21, 22] (by decide +kernel) (by decide +kernel)
set_option maxRecDepth 20000 in
theorem gX1_scaledDoubt_X1_scaledVolume : GoodIn wsX1_scaledDoubt (wsV RX1 26 RX1 yX1_scaledVolume wsX1_scaledVolume) := goodIn_app (goodIn_of _ (by decide +kernel)) ggX1_scaledDoubt_X1_scaledVolume
theorem dX1_scaledDoubt_0 : decode cX1_scaledDoubt 0 = .ok (.aload_n 0, 1) := by decide +kernel
theorem dX1_scaledDoubt_1 : decode cX1_scaledDoubt 1 = .ok (.iload_n 1, 1) := by decide +kernel
theorem dX1_scaledDoubt_2 : decode cX1_scaledDoubt 2 = .ok (.iconst (-1), 1) := by decide +kernel
theorem dX1_scaledDoubt_3 : decode cX1_scaledDoubt 3 = .ok (.invokevirtual 26, 3) := by decide +kernel
theorem dX1_scaledDoubt_6 : decode cX1_scaledDoubt 6 = .ok (.istore_n 2, 1) := by decide +kernel
theorem dX1_scaledDoubt_7 : decode cX1_scaledDoubt 7 = .ok (.iconst 0, 1) := by decide +kernel
theorem dX1_scaledDoubt_8 : decode cX1_scaledDoubt 8 = .ok (.istore_n 3, 1) := by decide +kernel
theorem dX1_scaledDoubt_9 : decode cX1_scaledDoubt 9 = .ok (.iconst 0, 1) := by decide +kernel
theorem dX1_scaledDoubt_10 : decode cX1_scaledDoubt 10 = .ok (.istore 4, 2) := by decide +kernel
theorem dX1_scaledDoubt_12 : decode cX1_scaledDoubt 12 = .ok (.iload 4, 2) := by decide +kernel
theorem dX1_scaledDoubt_14 : decode cX1_scaledDoubt 14 = .ok (.iload_n 1, 1) := by decide +kernel
theorem dX1_scaledDoubt_15 : decode cX1_scaledDoubt 15 = .ok (.if_icmp .ge 37, 3) := by decide +kernel
theorem dX1_scaledDoubt_18 : decode cX1_scaledDoubt 18 = .ok (.aload_n 0, 1) := by decide +kernel
theorem dX1_scaledDoubt_19 : decode cX1_scaledDoubt 19 = .ok (.getfield 9, 3) := by decide +kernel
theorem dX1_scaledDoubt_22 : decode cX1_scaledDoubt 22 = .ok (.iload 4, 2) := by decide +kernel
theorem dX1_scaledDoubt_24 : decode cX1_scaledDoubt 24 = .ok (.iaload, 1) := by decide +kernel
theorem dX1_scaledDoubt_25 : decode cX1_scaledDoubt 25 = .ok (.iconst (-1), 1) := by decide +kernel
theorem dX1_scaledDoubt_26 : decode cX1_scaledDoubt 26 = .ok (.if_icmp .eq 20, 3) := by decide +kernel
theorem dX1_scaledDoubt_29 : decode cX1_scaledDoubt 29 = .ok (.iload_n 3, 1) := by decide +kernel
theorem dX1_scaledDoubt_30 : decode cX1_scaledDoubt 30 = .ok (.aload_n 0, 1) := by decide +kernel
theorem dX1_scaledDoubt_31 : decode cX1_scaledDoubt 31 = .ok (.iload_n 1, 1) := by decide +kernel
theorem dX1_scaledDoubt_32 : decode cX1_scaledDoubt 32 = .ok (.iload 4, 2) := by decide +kernel
theorem dX1_scaledDoubt_34 : decode cX1_scaledDoubt 34 = .ok (.invokevirtual 26, 3) := by decide +kernel
theorem dX1_scaledDoubt_37 : decode cX1_scaledDoubt 37 = .ok (.iload_n 2, 1) := by decide +kernel
theorem dX1_scaledDoubt_38 : decode cX1_scaledDoubt 38 = .ok (.isub, 1) := by decide +kernel
theorem dX1_scaledDoubt_39 : decode cX1_scaledDoubt 39 = .ok (.invokestatic 30, 3) := by decide +kernel
theorem dX1_scaledDoubt_42 : decode cX1_scaledDoubt 42 = .ok (.invokestatic 36, 3) := by decide +kernel
theorem dX1_scaledDoubt_45 : decode cX1_scaledDoubt 45 = .ok (.istore_n 3, 1) := by decide +kernel
theorem dX1_scaledDoubt_46 : decode cX1_scaledDoubt 46 = .ok (.iinc 4 1, 3) := by decide +kernel
theorem dX1_scaledDoubt_49 : decode cX1_scaledDoubt 49 = .ok (.goto (-37), 3) := by decide +kernel
theorem dX1_scaledDoubt_52 : decode cX1_scaledDoubt 52 = .ok (.iload_n 3, 1) := by decide +kernel
theorem dX1_scaledDoubt_53 : decode cX1_scaledDoubt 53 = .ok (.ireturn, 1) := by decide +kernel
theorem dX2_init_0 : decode cX2_init 0 = .ok (.aload_n 0, 1) := by decide +kernel
theorem dX2_init_1 : decode cX2_init 1 = .ok (.invokespecial 3, 3) := by decide +kernel
theorem dX2_init_4 : decode cX2_init 4 = .ok (.aload_n 0, 1) := by decide +kernel
theorem dX2_init_5 : decode cX2_init 5 = .ok (.iconst 3, 1) := by decide +kernel
theorem dX2_init_6 : decode cX2_init 6 = .ok (.newarray .int, 2) := by decide +kernel
theorem dX2_init_8 : decode cX2_init 8 = .ok (.putfield 9, 3) := by decide +kernel
theorem dX2_init_11 : decode cX2_init 11 = .ok (.aload_n 0, 1) := by decide +kernel
theorem dX2_init_12 : decode cX2_init 12 = .ok (.iconst 3, 1) := by decide +kernel
theorem dX2_init_13 : decode cX2_init 13 = .ok (.bipush 12, 2) := by decide +kernel
theorem dX2_init_15 : decode cX2_init 15 = .ok (.multianewarray 15 2, 4) := by decide +kernel
theorem dX2_init_19 : decode cX2_init 19 = .ok (.putfield 17, 3) := by decide +kernel
theorem dX2_init_22 : decode cX2_init 22 = .ok (.aload_n 0, 1) := by decide +kernel
theorem dX2_init_23 : decode cX2_init 23 = .ok (.iconst 3, 1) := by decide +kernel
theorem dX2_init_24 : decode cX2_init 24 = .ok (.bipush 12, 2) := by decide +kernel
theorem dX2_init_26 : decode cX2_init 26 = .ok (.multianewarray 15 2, 4) := by decide +kernel
theorem dX2_init_30 : decode cX2_init 30 = .ok (.putfield 20, 3) := by decide +kernel
theorem dX2_init_33 : decode cX2_init 33 = .ok (.return_, 1) := by decide +kernel
theorem dX2_add_0 : decode cX2_add 0 = .ok (.aload_n 0, 1) := by decide +kernel
theorem dX2_add_1 : decode cX2_add 1 = .ok (.getfield 9, 3) := by decide +kernel
theorem dX2_add_4 : decode cX2_add 4 = .ok (.iload_n 1, 1) := by decide +kernel
theorem dX2_add_5 : decode cX2_add 5 = .ok (.iaload, 1) := by decide +kernel
theorem dX2_add_6 : decode cX2_add 6 = .ok (.istore 4, 2) := by decide +kernel
theorem dX2_add_8 : decode cX2_add 8 = .ok (.aload_n 0, 1) := by decide +kernel
theorem dX2_add_9 : decode cX2_add 9 = .ok (.getfield 17, 3) := by decide +kernel
theorem dX2_add_12 : decode cX2_add 12 = .ok (.iload_n 1, 1) := by decide +kernel
theorem dX2_add_13 : decode cX2_add 13 = .ok (.aaload, 1) := by decide +kernel
theorem dX2_add_14 : decode cX2_add 14 = .ok (.iload 4, 2) := by decide +kernel
theorem dX2_add_16 : decode cX2_add 16 = .ok (.iload_n 2, 1) := by decide +kernel
theorem dX2_add_17 : decode cX2_add 17 = .ok (.iastore, 1) := by decide +kernel
theorem dX2_add_18 : decode cX2_add 18 = .ok (.aload_n 0, 1) := by decide +kernel
theorem dX2_add_19 : decode cX2_add 19 = .ok (.getfield 20, 3) := by decide +kernel
theorem dX2_add_22 : decode cX2_add 22 = .ok (.iload_n 1, 1) := by decide +kernel
theorem dX2_add_23 : decode cX2_add 23 = .ok (.aaload, 1) := by decide +kernel
theorem dX2_add_24 : decode cX2_add 24 = .ok (.iload 4, 2) := by decide +kernel
theorem dX2_add_26 : decode cX2_add 26 = .ok (.iload_n 3, 1) := by decide +kernel
theorem dX2_add_27 : decode cX2_add 27 = .ok (.iastore, 1) := by decide +kernel
theorem dX2_add_28 : decode cX2_add 28 = .ok (.aload_n 0, 1) := by decide +kernel
theorem dX2_add_29 : decode cX2_add 29 = .ok (.getfield 9, 3) := by decide +kernel
theorem dX2_add_32 : decode cX2_add 32 = .ok (.iload_n 1, 1) := by decide +kernel
theorem dX2_add_33 : decode cX2_add 33 = .ok (.iload 4, 2) := by decide +kernel
theorem dX2_add_35 : decode cX2_add 35 = .ok (.iconst 1, 1) := by decide +kernel
theorem dX2_add_36 : decode cX2_add 36 = .ok (.iadd, 1) := by decide +kernel
theorem dX2_add_37 : decode cX2_add 37 = .ok (.iastore, 1) := by decide +kernel
theorem dX2_add_38 : decode cX2_add 38 = .ok (.iload 4, 2) := by decide +kernel
theorem dX2_add_40 : decode cX2_add 40 = .ok (.iconst 1, 1) := by decide +kernel
theorem dX2_add_41 : decode cX2_add 41 = .ok (.iadd, 1) := by decide +kernel
theorem dX2_add_42 : decode cX2_add 42 = .ok (.ireturn, 1) := by decide +kernel
theorem dX2_any_0 : decode cX2_any 0 = .ok (.iconst 0, 1) := by decide +kernel
theorem dX2_any_1 : decode cX2_any 1 = .ok (.istore_n 1, 1) := by decide +kernel
theorem dX2_any_2 : decode cX2_any 2 = .ok (.iload_n 1, 1) := by decide +kernel
theorem dX2_any_3 : decode cX2_any 3 = .ok (.iconst 3, 1) := by decide +kernel
theorem dX2_any_4 : decode cX2_any 4 = .ok (.if_icmp .ge 20, 3) := by decide +kernel
theorem dX2_any_7 : decode cX2_any 7 = .ok (.aload_n 0, 1) := by decide +kernel
theorem dX2_any_8 : decode cX2_any 8 = .ok (.getfield 9, 3) := by decide +kernel
theorem dX2_any_11 : decode cX2_any 11 = .ok (.iload_n 1, 1) := by decide +kernel
theorem dX2_any_12 : decode cX2_any 12 = .ok (.iaload, 1) := by decide +kernel
theorem dX2_any_13 : decode cX2_any 13 = .ok (.ifCond .le 5, 3) := by decide +kernel
theorem dX2_any_16 : decode cX2_any 16 = .ok (.iconst 1, 1) := by decide +kernel
theorem dX2_any_17 : decode cX2_any 17 = .ok (.ireturn, 1) := by decide +kernel
theorem dX2_any_18 : decode cX2_any 18 = .ok (.iinc 1 1, 3) := by decide +kernel
theorem dX2_any_21 : decode cX2_any 21 = .ok (.goto (-19), 3) := by decide +kernel
theorem dX2_any_24 : decode cX2_any 24 = .ok (.iconst 0, 1) := by decide +kernel
theorem dX2_any_25 : decode cX2_any 25 = .ok (.ireturn, 1) := by decide +kernel
set_option maxRecDepth 20000 in
theorem ggX2_lastYear_X2_yearEnds : GoodIn wsX2_lastYear wsX2_yearEnds := goodIn_r _ [9, 10, 11, 12, 13, 14] (by decide +kernel) (by decide +kernel)
set_option maxRecDepth 20000 in
theorem gX2_lastYear_X2_yearEnds : GoodIn wsX2_lastYear (wsV RX2 23 RX2 yX2_yearEnds wsX2_yearEnds) := goodIn_app (goodIn_of _ (by decide +kernel)) ggX2_lastYear_X2_yearEnds
theorem dX2_lastYear_0 : decode cX2_lastYear 0 = .ok (.iconst 0, 1) := by decide +kernel
theorem dX2_lastYear_1 : decode cX2_lastYear 1 = .ok (.istore_n 1, 1) := by decide +kernel
theorem dX2_lastYear_2 : decode cX2_lastYear 2 = .ok (.iconst 0, 1) := by decide +kernel
theorem dX2_lastYear_3 : decode cX2_lastYear 3 = .ok (.istore_n 2, 1) := by decide +kernel
theorem dX2_lastYear_4 : decode cX2_lastYear 4 = .ok (.iload_n 2, 1) := by decide +kernel
theorem dX2_lastYear_5 : decode cX2_lastYear 5 = .ok (.iconst 3, 1) := by decide +kernel
theorem dX2_lastYear_6 : decode cX2_lastYear 6 = .ok (.if_icmp .ge 19, 3) := by decide +kernel
theorem dX2_lastYear_9 : decode cX2_lastYear 9 = .ok (.iload_n 1, 1) := by decide +kernel
theorem dX2_lastYear_10 : decode cX2_lastYear 10 = .ok (.aload_n 0, 1) := by decide +kernel
theorem dX2_lastYear_11 : decode cX2_lastYear 11 = .ok (.iload_n 2, 1) := by decide +kernel
theorem dX2_lastYear_12 : decode cX2_lastYear 12 = .ok (.invokevirtual 23, 3) := by decide +kernel
theorem dX2_lastYear_15 : decode cX2_lastYear 15 = .ok (.invokestatic 27, 3) := by decide +kernel
theorem dX2_lastYear_18 : decode cX2_lastYear 18 = .ok (.istore_n 1, 1) := by decide +kernel
theorem dX2_lastYear_19 : decode cX2_lastYear 19 = .ok (.iinc 2 1, 3) := by decide +kernel
theorem dX2_lastYear_22 : decode cX2_lastYear 22 = .ok (.goto (-18), 3) := by decide +kernel
theorem dX2_lastYear_25 : decode cX2_lastYear 25 = .ok (.iload_n 1, 1) := by decide +kernel
theorem dX2_lastYear_26 : decode cX2_lastYear 26 = .ok (.ireturn, 1) := by decide +kernel
theorem dX2_yearEnds_0 : decode cX2_yearEnds 0 = .ok (.iconst 0, 1) := by decide +kernel
theorem dX2_yearEnds_1 : decode cX2_yearEnds 1 = .ok (.istore_n 2, 1) := by decide +kernel
theorem dX2_yearEnds_2 : decode cX2_yearEnds 2 = .ok (.iconst 0, 1) := by decide +kernel
theorem dX2_yearEnds_3 : decode cX2_yearEnds 3 = .ok (.istore_n 3, 1) := by decide +kernel
theorem dX2_yearEnds_4 : decode cX2_yearEnds 4 = .ok (.iload_n 3, 1) := by decide +kernel
theorem dX2_yearEnds_5 : decode cX2_yearEnds 5 = .ok (.aload_n 0, 1) := by decide +kernel
theorem dX2_yearEnds_6 : decode cX2_yearEnds 6 = .ok (.getfield 9, 3) := by decide +kernel
theorem dX2_yearEnds_9 : decode cX2_yearEnds 9 = .ok (.iload_n 1, 1) := by decide +kernel
theorem dX2_yearEnds_10 : decode cX2_yearEnds 10 = .ok (.iaload, 1) := by decide +kernel
theorem dX2_yearEnds_11 : decode cX2_yearEnds 11 = .ok (.if_icmp .ge 24, 3) := by decide +kernel
theorem dX2_yearEnds_14 : decode cX2_yearEnds 14 = .ok (.aload_n 0, 1) := by decide +kernel
theorem dX2_yearEnds_15 : decode cX2_yearEnds 15 = .ok (.getfield 17, 3) := by decide +kernel
theorem dX2_yearEnds_18 : decode cX2_yearEnds 18 = .ok (.iload_n 1, 1) := by decide +kernel
theorem dX2_yearEnds_19 : decode cX2_yearEnds 19 = .ok (.aaload, 1) := by decide +kernel
theorem dX2_yearEnds_20 : decode cX2_yearEnds 20 = .ok (.iload_n 3, 1) := by decide +kernel
theorem dX2_yearEnds_21 : decode cX2_yearEnds 21 = .ok (.iaload, 1) := by decide +kernel
theorem dX2_yearEnds_22 : decode cX2_yearEnds 22 = .ok (.iconst 2, 1) := by decide +kernel
theorem dX2_yearEnds_23 : decode cX2_yearEnds 23 = .ok (.if_icmp .ne 6, 3) := by decide +kernel
theorem dX2_yearEnds_26 : decode cX2_yearEnds 26 = .ok (.iinc 2 1, 3) := by decide +kernel
theorem dX2_yearEnds_29 : decode cX2_yearEnds 29 = .ok (.iinc 3 1, 3) := by decide +kernel
theorem dX2_yearEnds_32 : decode cX2_yearEnds 32 = .ok (.goto (-28), 3) := by decide +kernel
theorem dX2_yearEnds_35 : decode cX2_yearEnds 35 = .ok (.iload_n 2, 1) := by decide +kernel
theorem dX2_yearEnds_36 : decode cX2_yearEnds 36 = .ok (.ireturn, 1) := by decide +kernel
theorem dJ9_abs_0f7a4_0 : decode cJ9_abs_0f7a4 0 = .ok (.iload_n 0, 1) := by decide +kernel
theorem dJ9_abs_0f7a4_1 : decode cJ9_abs_0f7a4 1 = .ok (.ifCond .ge 8, 3) := by decide +kernel
theorem dJ9_abs_0f7a4_4 : decode cJ9_abs_0f7a4 4 = .ok (.iload_n 0, 1) := by decide +kernel
theorem dJ9_abs_0f7a4_5 : decode cJ9_abs_0f7a4 5 = .ok (.ineg, 1) := by decide +kernel
theorem dJ9_abs_0f7a4_6 : decode cJ9_abs_0f7a4 6 = .ok (.goto 4, 3) := by decide +kernel
theorem dJ9_abs_0f7a4_9 : decode cJ9_abs_0f7a4 9 = .ok (.iload_n 0, 1) := by decide +kernel
theorem dJ9_abs_0f7a4_10 : decode cJ9_abs_0f7a4 10 = .ok (.ireturn, 1) := by decide +kernel
theorem dJ9_max_7cf53_0 : decode cJ9_max_7cf53 0 = .ok (.iload_n 0, 1) := by decide +kernel
theorem dJ9_max_7cf53_1 : decode cJ9_max_7cf53 1 = .ok (.iload_n 1, 1) := by decide +kernel
theorem dJ9_max_7cf53_2 : decode cJ9_max_7cf53 2 = .ok (.if_icmp .lt 7, 3) := by decide +kernel
theorem dJ9_max_7cf53_5 : decode cJ9_max_7cf53 5 = .ok (.iload_n 0, 1) := by decide +kernel
theorem dJ9_max_7cf53_6 : decode cJ9_max_7cf53 6 = .ok (.goto 4, 3) := by decide +kernel
theorem dJ9_max_7cf53_9 : decode cJ9_max_7cf53 9 = .ok (.iload_n 1, 1) := by decide +kernel
theorem dJ9_max_7cf53_10 : decode cJ9_max_7cf53 10 = .ok (.ireturn, 1) := by decide +kernel
theorem dJ9_min_7cf53_0 : decode cJ9_min_7cf53 0 = .ok (.iload_n 0, 1) := by decide +kernel
theorem dJ9_min_7cf53_1 : decode cJ9_min_7cf53 1 = .ok (.iload_n 1, 1) := by decide +kernel
theorem dJ9_min_7cf53_2 : decode cJ9_min_7cf53 2 = .ok (.if_icmp .gt 7, 3) := by decide +kernel
theorem dJ9_min_7cf53_5 : decode cJ9_min_7cf53 5 = .ok (.iload_n 0, 1) := by decide +kernel
theorem dJ9_min_7cf53_6 : decode cJ9_min_7cf53 6 = .ok (.goto 4, 3) := by decide +kernel
theorem dJ9_min_7cf53_9 : decode cJ9_min_7cf53 9 = .ok (.iload_n 1, 1) := by decide +kernel
theorem dJ9_min_7cf53_10 : decode cJ9_min_7cf53 10 = .ok (.ireturn, 1) := by decide +kernel
end
section
set_option maxRecDepth 20000 in
theorem ggX3_init_X0_init : GoodIn wsX3_init wsX0_init := goodIn_r _ [24, 25, 2, 3, 20, 26, 27, 28, 29, 30, 31, 32, 6, 33, 34, 35, 36, 37, 55, 56, 57, 58, 59, 60, 61, 62] (by decide +kernel) (by decide +kernel)
set_option maxRecDepth 20000 in
theorem gX3_init_X0_init : GoodIn wsX3_init (wsX0_init) := ggX3_init_X0_init
set_option maxRecDepth 20000 in
theorem ggX3_init_X2_init : GoodIn wsX3_init wsX2_init := goodIn_r _ [40, 41, 2, 3, 20, 42, 43, 44, 45, 71, 72, 73] (by decide +kernel) (by decide +kernel)
set_option maxRecDepth 20000 in
theorem gX3_init_X2_init : GoodIn wsX3_init (wsX2_init) := ggX3_init_X2_init
set_option maxRecDepth 20000 in
theorem ggX3_init_X1_init : GoodIn wsX3_init wsX1_init := goodIn_r _ [48, 49, 2, 3, 20, 50, 51, 52, 53, 17, 54, 74] (by decide +kernel) (by decide +kernel)
set_option maxRecDepth 20000 in
theorem gX3_init_X1_init : GoodIn wsX3_init (wsX1_init) := ggX3_init_X1_init
theorem dX3_init_0 : decode cX3_init 0 = .ok (.aload_n 0, 1) := by decide +kernel
theorem dX3_init_1 : decode cX3_init 1 = .ok (.invokespecial 1, 3) := by decide +kernel
theorem dX3_init_4 : decode cX3_init 4 = .ok (.aload_n 0, 1) := by decide +kernel
theorem dX3_init_5 : decode cX3_init 5 = .ok (.new 7, 3) := by decide +kernel
theorem dX3_init_8 : decode cX3_init 8 = .ok (.dup, 1) := by decide +kernel
theorem dX3_init_9 : decode cX3_init 9 = .ok (.invokespecial 9, 3) := by decide +kernel
theorem dX3_init_12 : decode cX3_init 12 = .ok (.putfield 10, 3) := by decide +kernel
theorem dX3_init_15 : decode cX3_init 15 = .ok (.aload_n 0, 1) := by decide +kernel
theorem dX3_init_16 : decode cX3_init 16 = .ok (.new 7, 3) := by decide +kernel
theorem dX3_init_19 : decode cX3_init 19 = .ok (.dup, 1) := by decide +kernel
theorem dX3_init_20 : decode cX3_init 20 = .ok (.invokespecial 9, 3) := by decide +kernel
theorem dX3_init_23 : decode cX3_init 23 = .ok (.putfield 16, 3) := by decide +kernel
theorem dX3_init_26 : decode cX3_init 26 = .ok (.aload_n 0, 1) := by decide +kernel
theorem dX3_init_27 : decode cX3_init 27 = .ok (.new 7, 3) := by decide +kernel
theorem dX3_init_30 : decode cX3_init 30 = .ok (.dup, 1) := by decide +kernel
theorem dX3_init_31 : decode cX3_init 31 = .ok (.invokespecial 9, 3) := by decide +kernel
theorem dX3_init_34 : decode cX3_init 34 = .ok (.putfield 19, 3) := by decide +kernel
theorem dX3_init_37 : decode cX3_init 37 = .ok (.aload_n 0, 1) := by decide +kernel
theorem dX3_init_38 : decode cX3_init 38 = .ok (.iconst 0, 1) := by decide +kernel
theorem dX3_init_39 : decode cX3_init 39 = .ok (.putfield 22, 3) := by decide +kernel
theorem dX3_init_42 : decode cX3_init 42 = .ok (.aload_n 0, 1) := by decide +kernel
theorem dX3_init_43 : decode cX3_init 43 = .ok (.new 26, 3) := by decide +kernel
theorem dX3_init_46 : decode cX3_init 46 = .ok (.dup, 1) := by decide +kernel
theorem dX3_init_47 : decode cX3_init 47 = .ok (.invokespecial 28, 3) := by decide +kernel
theorem dX3_init_50 : decode cX3_init 50 = .ok (.putfield 29, 3) := by decide +kernel
theorem dX3_init_53 : decode cX3_init 53 = .ok (.aload_n 0, 1) := by decide +kernel
theorem dX3_init_54 : decode cX3_init 54 = .ok (.new 33, 3) := by decide +kernel
theorem dX3_init_57 : decode cX3_init 57 = .ok (.dup, 1) := by decide +kernel
theorem dX3_init_58 : decode cX3_init 58 = .ok (.invokespecial 35, 3) := by decide +kernel
theorem dX3_init_61 : decode cX3_init 61 = .ok (.putfield 36, 3) := by decide +kernel
theorem dX3_init_64 : decode cX3_init 64 = .ok (.aload_n 0, 1) := by decide +kernel
theorem dX3_init_65 : decode cX3_init 65 = .ok (.bipush 10, 2) := by decide +kernel
theorem dX3_init_67 : decode cX3_init 67 = .ok (.putfield 40, 3) := by decide +kernel
theorem dX3_init_70 : decode cX3_init 70 = .ok (.aload_n 0, 1) := by decide +kernel
theorem dX3_init_71 : decode cX3_init 71 = .ok (.iconst 3, 1) := by decide +kernel
theorem dX3_init_72 : decode cX3_init 72 = .ok (.newarray .int, 2) := by decide +kernel
theorem dX3_init_74 : decode cX3_init 74 = .ok (.putfield 44, 3) := by decide +kernel
theorem dX3_init_77 : decode cX3_init 77 = .ok (.return_, 1) := by decide +kernel
set_option maxRecDepth 20000 in
theorem ggX3_coast_X3_isWithin : GoodIn wsX3_coast wsX3_isWithin := goodIn_r _ [6] (by decide +kernel) (by decide +kernel)
set_option maxRecDepth 20000 in
theorem gX3_coast_X3_isWithin : GoodIn wsX3_coast (va_wsS RX3 48 yX3_isWithin wsX3_isWithin) := goodIn_app (goodIn_of _ (by decide +kernel)) ggX3_coast_X3_isWithin
set_option maxRecDepth 20000 in
theorem ggX3_coast_X0_renew : GoodIn wsX3_coast wsX0_renew := goodIn_r _ [11, 12, 13, 14, 15, 16, 17, 18, 19, 34, 35, 36, 37, 38, 39, 40, 41] (by decide +kernel) (by decide +kernel)
set_option maxRecDepth 20000 in
theorem gX3_coast_X0_renew : GoodIn wsX3_coast (wsV RX3 52 RX0 yX0_renew wsX0_renew) := goodIn_app (goodIn_of _ (by decide +kernel)) ggX3_coast_X0_renew
set_option maxRecDepth 20000 in
theorem ggX3_coast_X1_forget : GoodIn wsX3_coast wsX1_forget := goodIn_r _ [24, 25, 42] (by decide +kernel) (by decide +kernel)
set_option maxRecDepth 20000 in
theorem gX3_coast_X1_forget : GoodIn wsX3_coast (wsV RX3 56 RX1 yX1_forget wsX1_forget) := goodIn_app (goodIn_of _ (by decide +kernel)) ggX3_coast_X1_forget
theorem dX3_coast_0 : decode cX3_coast 0 = .ok (.iload_n 1, 1) := by decide +kernel
theorem dX3_coast_1 : decode cX3_coast 1 = .ok (.iconst 3, 1) := by decide +kernel
theorem dX3_coast_2 : decode cX3_coast 2 = .ok (.bipush 7, 2) := by decide +kernel
theorem dX3_coast_4 : decode cX3_coast 4 = .ok (.invokestatic 48, 3) := by decide +kernel
theorem dX3_coast_7 : decode cX3_coast 7 = .ok (.ifCond .ne 5, 3) := by decide +kernel
theorem dX3_coast_10 : decode cX3_coast 10 = .ok (.iconst (-1), 1) := by decide +kernel
theorem dX3_coast_11 : decode cX3_coast 11 = .ok (.ireturn, 1) := by decide +kernel
theorem dX3_coast_12 : decode cX3_coast 12 = .ok (.aload_n 0, 1) := by decide +kernel
theorem dX3_coast_13 : decode cX3_coast 13 = .ok (.getfield 10, 3) := by decide +kernel
theorem dX3_coast_16 : decode cX3_coast 16 = .ok (.iload_n 1, 1) := by decide +kernel
theorem dX3_coast_17 : decode cX3_coast 17 = .ok (.invokevirtual 52, 3) := by decide +kernel
theorem dX3_coast_20 : decode cX3_coast 20 = .ok (.aload_n 0, 1) := by decide +kernel
theorem dX3_coast_21 : decode cX3_coast 21 = .ok (.getfield 36, 3) := by decide +kernel
theorem dX3_coast_24 : decode cX3_coast 24 = .ok (.invokevirtual 56, 3) := by decide +kernel
theorem dX3_coast_27 : decode cX3_coast 27 = .ok (.iload_n 1, 1) := by decide +kernel
theorem dX3_coast_28 : decode cX3_coast 28 = .ok (.ireturn, 1) := by decide +kernel
set_option maxRecDepth 20000 in
theorem ggX3_set_X0_has : GoodIn wsX3_set wsX0_has := goodIn_r _ [6, 7, 31, 32, 33, 34, 35, 36, 37, 38] (by decide +kernel) (by decide +kernel)
set_option maxRecDepth 20000 in
theorem gX3_set_X0_has : GoodIn wsX3_set (wsV RX3 59 RX0 yX0_has wsX0_has) := goodIn_app (goodIn_of _ (by decide +kernel)) ggX3_set_X0_has
set_option maxRecDepth 20000 in
theorem ggX3_set_X3_isWithin : GoodIn wsX3_set wsX3_isWithin := goodIn_r _ [11] (by decide +kernel) (by decide +kernel)
set_option maxRecDepth 20000 in
theorem gX3_set_X3_isWithin : GoodIn wsX3_set (va_wsS RX3 48 yX3_isWithin wsX3_isWithin) := goodIn_app (goodIn_of _ (by decide +kernel)) ggX3_set_X3_isWithin
set_option maxRecDepth 20000 in
theorem ggX3_set_X3_mostOf : GoodIn wsX3_set wsX3_mostOf := goodIn_r _ [14] (by decide +kernel) (by decide +kernel)
set_option maxRecDepth 20000 in
theorem gX3_set_X3_mostOf : GoodIn wsX3_set (va_wsS RX3 63 yX3_mostOf wsX3_mostOf) := goodIn_app (goodIn_of _ (by decide +kernel)) ggX3_set_X3_mostOf
set_option maxRecDepth 20000 in
theorem ggX3_set_X0_row : GoodIn wsX3_set wsX0_row := goodIn_r _ [18, 19, 20, 21, 22, 31, 32, 33, 34, 35, 36, 37, 38] (by decide +kernel) (by decide +kernel)
set_option maxRecDepth 20000 in
theorem gX3_set_X0_row : GoodIn wsX3_set (wsV RX3 67 RX0 yX0_row wsX0_row) := goodIn_app (goodIn_of _ (by decide +kernel)) ggX3_set_X0_row
theorem dX3_set_0 : decode cX3_set 0 = .ok (.aload_n 0, 1) := by decide +kernel
theorem dX3_set_1 : decode cX3_set 1 = .ok (.getfield 10, 3) := by decide +kernel
theorem dX3_set_4 : decode cX3_set 4 = .ok (.iload_n 1, 1) := by decide +kernel
theorem dX3_set_5 : decode cX3_set 5 = .ok (.invokevirtual 59, 3) := by decide +kernel
theorem dX3_set_8 : decode cX3_set 8 = .ok (.ifCond .eq 24, 3) := by decide +kernel
theorem dX3_set_11 : decode cX3_set 11 = .ok (.iload_n 2, 1) := by decide +kernel
theorem dX3_set_12 : decode cX3_set 12 = .ok (.iconst 0, 1) := by decide +kernel
theorem dX3_set_13 : decode cX3_set 13 = .ok (.iconst 2, 1) := by decide +kernel
theorem dX3_set_14 : decode cX3_set 14 = .ok (.invokestatic 48, 3) := by decide +kernel
theorem dX3_set_17 : decode cX3_set 17 = .ok (.ifCond .eq 15, 3) := by decide +kernel
theorem dX3_set_20 : decode cX3_set 20 = .ok (.iload_n 3, 1) := by decide +kernel
theorem dX3_set_21 : decode cX3_set 21 = .ok (.iconst 0, 1) := by decide +kernel
theorem dX3_set_22 : decode cX3_set 22 = .ok (.iload_n 2, 1) := by decide +kernel
theorem dX3_set_23 : decode cX3_set 23 = .ok (.invokestatic 63, 3) := by decide +kernel
theorem dX3_set_26 : decode cX3_set 26 = .ok (.invokestatic 48, 3) := by decide +kernel
theorem dX3_set_29 : decode cX3_set 29 = .ok (.ifCond .ne 5, 3) := by decide +kernel
theorem dX3_set_32 : decode cX3_set 32 = .ok (.iconst (-1), 1) := by decide +kernel
theorem dX3_set_33 : decode cX3_set 33 = .ok (.ireturn, 1) := by decide +kernel
theorem dX3_set_34 : decode cX3_set 34 = .ok (.aload_n 0, 1) := by decide +kernel
theorem dX3_set_35 : decode cX3_set 35 = .ok (.getfield 10, 3) := by decide +kernel
theorem dX3_set_38 : decode cX3_set 38 = .ok (.iload_n 2, 1) := by decide +kernel
theorem dX3_set_39 : decode cX3_set 39 = .ok (.invokevirtual 67, 3) := by decide +kernel
theorem dX3_set_42 : decode cX3_set 42 = .ok (.astore 4, 2) := by decide +kernel
theorem dX3_set_44 : decode cX3_set 44 = .ok (.aload 4, 2) := by decide +kernel
theorem dX3_set_46 : decode cX3_set 46 = .ok (.iload_n 1, 1) := by decide +kernel
theorem dX3_set_47 : decode cX3_set 47 = .ok (.iaload, 1) := by decide +kernel
theorem dX3_set_48 : decode cX3_set 48 = .ok (.istore 5, 2) := by decide +kernel
theorem dX3_set_50 : decode cX3_set 50 = .ok (.aload 4, 2) := by decide +kernel
theorem dX3_set_52 : decode cX3_set 52 = .ok (.iload_n 1, 1) := by decide +kernel
theorem dX3_set_53 : decode cX3_set 53 = .ok (.iload_n 3, 1) := by decide +kernel
theorem dX3_set_54 : decode cX3_set 54 = .ok (.iastore, 1) := by decide +kernel
theorem dX3_set_55 : decode cX3_set 55 = .ok (.iload 5, 2) := by decide +kernel
theorem dX3_set_57 : decode cX3_set 57 = .ok (.ireturn, 1) := by decide +kernel
set_option maxRecDepth 20000 in
theorem ggX3_of_X0_has : GoodIn wsX3_of wsX0_has := goodIn_r _ [6, 7, 28, 29, 30, 31, 32, 33, 34, 35] (by decide +kernel) (by decide +kernel)
set_option maxRecDepth 20000 in
theorem gX3_of_X0_has : GoodIn wsX3_of (wsV RX3 59 RX0 yX0_has wsX0_has) := goodIn_app (goodIn_of _ (by decide +kernel)) ggX3_of_X0_has
set_option maxRecDepth 20000 in
theorem ggX3_of_X3_isWithin : GoodIn wsX3_of wsX3_isWithin := goodIn_r _ [11] (by decide +kernel) (by decide +kernel)
set_option maxRecDepth 20000 in
theorem gX3_of_X3_isWithin : GoodIn wsX3_of (va_wsS RX3 48 yX3_isWithin wsX3_isWithin) := goodIn_app (goodIn_of _ (by decide +kernel)) ggX3_of_X3_isWithin
set_option maxRecDepth 20000 in
theorem ggX3_of_X0_row : GoodIn wsX3_of wsX0_row := goodIn_r _ [15, 16, 17, 18, 19, 28, 29, 30, 31, 32, 33, 34, 35] (by decide +kernel) (by decide +kernel)
set_option maxRecDepth 20000 in
theorem gX3_of_X0_row : GoodIn wsX3_of (wsV RX3 67 RX0 yX0_row wsX0_row) := goodIn_app (goodIn_of _ (by decide +kernel)) ggX3_of_X0_row
theorem dX3_of_0 : decode cX3_of 0 = .ok (.aload_n 0, 1) := by decide +kernel
theorem dX3_of_1 : decode cX3_of 1 = .ok (.getfield 10, 3) := by decide +kernel
theorem dX3_of_4 : decode cX3_of 4 = .ok (.iload_n 1, 1) := by decide +kernel
theorem dX3_of_5 : decode cX3_of 5 = .ok (.invokevirtual 59, 3) := by decide +kernel
theorem dX3_of_8 : decode cX3_of 8 = .ok (.ifCond .eq 12, 3) := by decide +kernel
theorem dX3_of_11 : decode cX3_of 11 = .ok (.iload_n 2, 1) := by decide +kernel
theorem dX3_of_12 : decode cX3_of 12 = .ok (.iconst 0, 1) := by decide +kernel
theorem dX3_of_13 : decode cX3_of 13 = .ok (.iconst 3, 1) := by decide +kernel
theorem dX3_of_14 : decode cX3_of 14 = .ok (.invokestatic 48, 3) := by decide +kernel
theorem dX3_of_17 : decode cX3_of 17 = .ok (.ifCond .ne 5, 3) := by decide +kernel
theorem dX3_of_20 : decode cX3_of 20 = .ok (.iconst (-1), 1) := by decide +kernel
theorem dX3_of_21 : decode cX3_of 21 = .ok (.ireturn, 1) := by decide +kernel
theorem dX3_of_22 : decode cX3_of 22 = .ok (.aload_n 0, 1) := by decide +kernel
theorem dX3_of_23 : decode cX3_of 23 = .ok (.getfield 10, 3) := by decide +kernel
theorem dX3_of_26 : decode cX3_of 26 = .ok (.iload_n 2, 1) := by decide +kernel
theorem dX3_of_27 : decode cX3_of 27 = .ok (.invokevirtual 67, 3) := by decide +kernel
theorem dX3_of_30 : decode cX3_of 30 = .ok (.iload_n 1, 1) := by decide +kernel
theorem dX3_of_31 : decode cX3_of 31 = .ok (.iaload, 1) := by decide +kernel
theorem dX3_of_32 : decode cX3_of 32 = .ok (.ireturn, 1) := by decide +kernel
set_option maxRecDepth 20000 in
theorem ggX3_wind_X3_isWithin : GoodIn wsX3_wind wsX3_isWithin := goodIn_r _ [5] (by decide +kernel) (by decide +kernel)
set_option maxRecDepth 20000 in
theorem gX3_wind_X3_isWithin : GoodIn wsX3_wind (va_wsS RX3 48 yX3_isWithin wsX3_isWithin) := goodIn_app (goodIn_of _ (by decide +kernel)) ggX3_wind_X3_isWithin
set_option maxRecDepth 20000 in
theorem ggX3_wind_X0_blow : GoodIn wsX3_wind wsX0_blow := goodIn_r _ [10, 11, 12, 13, 14, 15, 16, 17, 18, 19, 20, 21, 22, 23, 24, 9, 25, 26, 27, 36, 37, 38, 39, 40, 41, 42, 43] (by decide +kernel) (by decide +kernel)
set_option maxRecDepth 20000 in
theorem gX3_wind_X0_blow : GoodIn wsX3_wind (wsV RX3 71 RX0 yX0_blow wsX0_blow) := goodIn_app (goodIn_of _ (by decide +kernel)) ggX3_wind_X0_blow
theorem dX3_wind_0 : decode cX3_wind 0 = .ok (.iload_n 1, 1) := by decide +kernel
theorem dX3_wind_1 : decode cX3_wind 1 = .ok (.iconst 1, 1) := by decide +kernel
theorem dX3_wind_2 : decode cX3_wind 2 = .ok (.bipush 9, 2) := by decide +kernel
theorem dX3_wind_4 : decode cX3_wind 4 = .ok (.invokestatic 48, 3) := by decide +kernel
theorem dX3_wind_7 : decode cX3_wind 7 = .ok (.ifCond .eq 14, 3) := by decide +kernel
theorem dX3_wind_10 : decode cX3_wind 10 = .ok (.aload_n 0, 1) := by decide +kernel
theorem dX3_wind_11 : decode cX3_wind 11 = .ok (.getfield 10, 3) := by decide +kernel
theorem dX3_wind_14 : decode cX3_wind 14 = .ok (.iload_n 1, 1) := by decide +kernel
theorem dX3_wind_15 : decode cX3_wind 15 = .ok (.invokevirtual 71, 3) := by decide +kernel
theorem dX3_wind_18 : decode cX3_wind 18 = .ok (.goto 4, 3) := by decide +kernel
theorem dX3_wind_21 : decode cX3_wind 21 = .ok (.iconst (-1), 1) := by decide +kernel
theorem dX3_wind_22 : decode cX3_wind 22 = .ok (.ireturn, 1) := by decide +kernel
set_option maxRecDepth 20000 in
theorem ggX3_storm_X3_isWithin : GoodIn wsX3_storm wsX3_isWithin := goodIn_r _ [5] (by decide +kernel) (by decide +kernel)
set_option maxRecDepth 20000 in
theorem gX3_storm_X3_isWithin : GoodIn wsX3_storm (va_wsS RX3 48 yX3_isWithin wsX3_isWithin) := goodIn_app (goodIn_of _ (by decide +kernel)) ggX3_storm_X3_isWithin
set_option maxRecDepth 20000 in
theorem ggX3_storm_X0_surge : GoodIn wsX3_storm wsX0_surge := goodIn_r _ [10, 11, 12, 13, 14, 15, 16, 17, 18, 9, 19, 20, 29, 30, 31, 32, 33, 34, 35, 36] (by decide +kernel) (by decide +kernel)
set_option maxRecDepth 20000 in
theorem gX3_storm_X0_surge : GoodIn wsX3_storm (wsV RX3 74 RX0 yX0_surge wsX0_surge) := goodIn_app (goodIn_of _ (by decide +kernel)) ggX3_storm_X0_surge
theorem dX3_storm_0 : decode cX3_storm 0 = .ok (.iload_n 1, 1) := by decide +kernel
theorem dX3_storm_1 : decode cX3_storm 1 = .ok (.iconst 1, 1) := by decide +kernel
theorem dX3_storm_2 : decode cX3_storm 2 = .ok (.bipush 99, 2) := by decide +kernel
theorem dX3_storm_4 : decode cX3_storm 4 = .ok (.invokestatic 48, 3) := by decide +kernel
theorem dX3_storm_7 : decode cX3_storm 7 = .ok (.ifCond .eq 14, 3) := by decide +kernel
theorem dX3_storm_10 : decode cX3_storm 10 = .ok (.aload_n 0, 1) := by decide +kernel
theorem dX3_storm_11 : decode cX3_storm 11 = .ok (.getfield 10, 3) := by decide +kernel
theorem dX3_storm_14 : decode cX3_storm 14 = .ok (.iload_n 1, 1) := by decide +kernel
theorem dX3_storm_15 : decode cX3_storm 15 = .ok (.invokevirtual 74, 3) := by decide +kernel
theorem dX3_storm_18 : decode cX3_storm 18 = .ok (.goto 4, 3) := by decide +kernel
theorem dX3_storm_21 : decode cX3_storm 21 = .ok (.iconst (-1), 1) := by decide +kernel
theorem dX3_storm_22 : decode cX3_storm 22 = .ok (.ireturn, 1) := by decide +kernel
set_option maxRecDepth 20000 in
theorem ggX3_end_X0_endYear : GoodIn wsX3_end wsX0_endYear := goodIn_r _ [6, 7, 8, 9, 10, 11, 5, 12, 13, 14, 15, 16, 17, 18, 19, 28, 29, 30, 31, 32, 33, 34, 35] (by decide +kernel) (by decide +kernel)
set_option maxRecDepth 20000 in
theorem gX3_end_X0_endYear : GoodIn wsX3_end (wsV RX3 77 RX0 yX0_endYear wsX0_endYear) := goodIn_app (goodIn_of _ (by decide +kernel)) ggX3_end_X0_endYear
theorem dX3_end_0 : decode cX3_end 0 = .ok (.aload_n 0, 1) := by decide +kernel
theorem dX3_end_1 : decode cX3_end 1 = .ok (.getfield 10, 3) := by decide +kernel
theorem dX3_end_4 : decode cX3_end 4 = .ok (.invokevirtual 77, 3) := by decide +kernel
theorem dX3_end_7 : decode cX3_end 7 = .ok (.ireturn, 1) := by decide +kernel
set_option maxRecDepth 20000 in
theorem ggX3_nourish_X3_isWithin : GoodIn wsX3_nourish wsX3_isWithin := goodIn_r _ [5] (by decide +kernel) (by decide +kernel)
set_option maxRecDepth 20000 in
theorem gX3_nourish_X3_isWithin : GoodIn wsX3_nourish (va_wsS RX3 48 yX3_isWithin wsX3_isWithin) := goodIn_app (goodIn_of _ (by decide +kernel)) ggX3_nourish_X3_isWithin
set_option maxRecDepth 20000 in
theorem ggX3_nourish_X0_addSand : GoodIn wsX3_nourish wsX0_addSand := goodIn_r _ [10, 11, 12, 13, 14, 15, 24, 25, 26, 27, 28, 29, 30, 31] (by decide +kernel) (by decide +kernel)
set_option maxRecDepth 20000 in
theorem gX3_nourish_X0_addSand : GoodIn wsX3_nourish (wsV RX3 81 RX0 yX0_addSand wsX0_addSand) := goodIn_app (goodIn_of _ (by decide +kernel)) ggX3_nourish_X0_addSand
theorem dX3_nourish_0 : decode cX3_nourish 0 = .ok (.iload_n 1, 1) := by decide +kernel
theorem dX3_nourish_1 : decode cX3_nourish 1 = .ok (.iconst 1, 1) := by decide +kernel
theorem dX3_nourish_2 : decode cX3_nourish 2 = .ok (.bipush 99, 2) := by decide +kernel
theorem dX3_nourish_4 : decode cX3_nourish 4 = .ok (.invokestatic 48, 3) := by decide +kernel
theorem dX3_nourish_7 : decode cX3_nourish 7 = .ok (.ifCond .eq 14, 3) := by decide +kernel
theorem dX3_nourish_10 : decode cX3_nourish 10 = .ok (.aload_n 0, 1) := by decide +kernel
theorem dX3_nourish_11 : decode cX3_nourish 11 = .ok (.getfield 10, 3) := by decide +kernel
theorem dX3_nourish_14 : decode cX3_nourish 14 = .ok (.iload_n 1, 1) := by decide +kernel
theorem dX3_nourish_15 : decode cX3_nourish 15 = .ok (.invokevirtual 81, 3) := by decide +kernel
theorem dX3_nourish_18 : decode cX3_nourish 18 = .ok (.goto 4, 3) := by decide +kernel
theorem dX3_nourish_21 : decode cX3_nourish 21 = .ok (.iconst (-1), 1) := by decide +kernel
theorem dX3_nourish_22 : decode cX3_nourish 22 = .ok (.ireturn, 1) := by decide +kernel
set_option maxRecDepth 20000 in
theorem ggX3_event_X3_isWeather : GoodIn wsX3_event wsX3_isWeather := goodIn_r _ [6, 7, 8, 5, 9] (by decide +kernel) (by decide +kernel)
set_option maxRecDepth 20000 in
theorem gX3_event_X3_isWeather : GoodIn wsX3_event (va_wsS RX3 84 yX3_isWeather wsX3_isWeather) := goodIn_app (goodIn_of _ (by decide +kernel)) ggX3_event_X3_isWeather
set_option maxRecDepth 20000 in
theorem ggX3_event_X3_isEvent : GoodIn wsX3_event wsX3_isEvent := goodIn_r _ [12, 7, 8, 5, 9] (by decide +kernel) (by decide +kernel)
set_option maxRecDepth 20000 in
theorem gX3_event_X3_isEvent : GoodIn wsX3_event (va_wsS RX3 87 yX3_isEvent wsX3_isEvent) := goodIn_app (goodIn_of _ (by decide +kernel)) ggX3_event_X3_isEvent
set_option maxRecDepth 20000 in
theorem ggX3_event_X2_add : GoodIn wsX3_event wsX2_add := goodIn_r _ [17, 18, 19, 20, 29, 30, 31] (by decide +kernel) (by decide +kernel)
set_option maxRecDepth 20000 in
theorem gX3_event_X2_add : GoodIn wsX3_event (wsV RX3 94 RX2 yX2_add wsX2_add) := goodIn_app (goodIn_of _ (by decide +kernel)) ggX3_event_X2_add
theorem dX3_event_0 : decode cX3_event 0 = .ok (.iload_n 1, 1) := by decide +kernel
theorem dX3_event_1 : decode cX3_event 1 = .ok (.invokestatic 84, 3) := by decide +kernel
theorem dX3_event_4 : decode cX3_event 4 = .ok (.ifCond .eq 11, 3) := by decide +kernel
theorem dX3_event_7 : decode cX3_event 7 = .ok (.iload_n 2, 1) := by decide +kernel
theorem dX3_event_8 : decode cX3_event 8 = .ok (.iload_n 3, 1) := by decide +kernel
theorem dX3_event_9 : decode cX3_event 9 = .ok (.invokestatic 87, 3) := by decide +kernel
theorem dX3_event_12 : decode cX3_event 12 = .ok (.ifCond .ne 5, 3) := by decide +kernel
theorem dX3_event_15 : decode cX3_event 15 = .ok (.iconst (-1), 1) := by decide +kernel
theorem dX3_event_16 : decode cX3_event 16 = .ok (.ireturn, 1) := by decide +kernel
theorem dX3_event_17 : decode cX3_event 17 = .ok (.aload_n 0, 1) := by decide +kernel
theorem dX3_event_18 : decode cX3_event 18 = .ok (.getfield 29, 3) := by decide +kernel
theorem dX3_event_21 : decode cX3_event 21 = .ok (.getfield 91, 3) := by decide +kernel
theorem dX3_event_24 : decode cX3_event 24 = .ok (.iload_n 1, 1) := by decide +kernel
theorem dX3_event_25 : decode cX3_event 25 = .ok (.iaload, 1) := by decide +kernel
theorem dX3_event_26 : decode cX3_event 26 = .ok (.bipush 12, 2) := by decide +kernel
theorem dX3_event_28 : decode cX3_event 28 = .ok (.if_icmp .lt 6, 3) := by decide +kernel
theorem dX3_event_31 : decode cX3_event 31 = .ok (.bipush (-2), 2) := by decide +kernel
theorem dX3_event_33 : decode cX3_event 33 = .ok (.ireturn, 1) := by decide +kernel
theorem dX3_event_34 : decode cX3_event 34 = .ok (.aload_n 0, 1) := by decide +kernel
theorem dX3_event_35 : decode cX3_event 35 = .ok (.getfield 29, 3) := by decide +kernel
theorem dX3_event_38 : decode cX3_event 38 = .ok (.iload_n 1, 1) := by decide +kernel
theorem dX3_event_39 : decode cX3_event 39 = .ok (.iload_n 2, 1) := by decide +kernel
theorem dX3_event_40 : decode cX3_event 40 = .ok (.iload_n 3, 1) := by decide +kernel
theorem dX3_event_41 : decode cX3_event 41 = .ok (.invokevirtual 94, 3) := by decide +kernel
theorem dX3_event_44 : decode cX3_event 44 = .ok (.ireturn, 1) := by decide +kernel
set_option maxRecDepth 20000 in
theorem ggX3_calm_X3_isWeather : GoodIn wsX3_calm wsX3_isWeather := goodIn_r _ [6, 7, 8, 5, 9] (by decide +kernel) (by decide +kernel)
set_option maxRecDepth 20000 in
theorem gX3_calm_X3_isWeather : GoodIn wsX3_calm (va_wsS RX3 84 yX3_isWeather wsX3_isWeather) := goodIn_app (goodIn_of _ (by decide +kernel)) ggX3_calm_X3_isWeather
theorem dX3_calm_0 : decode cX3_calm 0 = .ok (.iload_n 1, 1) := by decide +kernel
theorem dX3_calm_1 : decode cX3_calm 1 = .ok (.invokestatic 84, 3) := by decide +kernel
theorem dX3_calm_4 : decode cX3_calm 4 = .ok (.ifCond .ne 5, 3) := by decide +kernel
theorem dX3_calm_7 : decode cX3_calm 7 = .ok (.iconst (-1), 1) := by decide +kernel
theorem dX3_calm_8 : decode cX3_calm 8 = .ok (.ireturn, 1) := by decide +kernel
theorem dX3_calm_9 : decode cX3_calm 9 = .ok (.aload_n 0, 1) := by decide +kernel
theorem dX3_calm_10 : decode cX3_calm 10 = .ok (.getfield 29, 3) := by decide +kernel
theorem dX3_calm_13 : decode cX3_calm 13 = .ok (.getfield 91, 3) := by decide +kernel
theorem dX3_calm_16 : decode cX3_calm 16 = .ok (.iload_n 1, 1) := by decide +kernel
theorem dX3_calm_17 : decode cX3_calm 17 = .ok (.iaload, 1) := by decide +kernel
theorem dX3_calm_18 : decode cX3_calm 18 = .ok (.istore_n 2, 1) := by decide +kernel
theorem dX3_calm_19 : decode cX3_calm 19 = .ok (.aload_n 0, 1) := by decide +kernel
theorem dX3_calm_20 : decode cX3_calm 20 = .ok (.getfield 29, 3) := by decide +kernel
theorem dX3_calm_23 : decode cX3_calm 23 = .ok (.getfield 91, 3) := by decide +kernel
theorem dX3_calm_26 : decode cX3_calm 26 = .ok (.iload_n 1, 1) := by decide +kernel
theorem dX3_calm_27 : decode cX3_calm 27 = .ok (.iconst 0, 1) := by decide +kernel
theorem dX3_calm_28 : decode cX3_calm 28 = .ok (.iastore, 1) := by decide +kernel
theorem dX3_calm_29 : decode cX3_calm 29 = .ok (.iload_n 2, 1) := by decide +kernel
theorem dX3_calm_30 : decode cX3_calm 30 = .ok (.ireturn, 1) := by decide +kernel
set_option maxRecDepth 20000 in
theorem ggX3_size_X3_isWithin : GoodIn wsX3_size wsX3_isWithin := goodIn_r _ [5] (by decide +kernel) (by decide +kernel)
set_option maxRecDepth 20000 in
theorem gX3_size_X3_isWithin : GoodIn wsX3_size (va_wsS RX3 48 yX3_isWithin wsX3_isWithin) := goodIn_app (goodIn_of _ (by decide +kernel)) ggX3_size_X3_isWithin
theorem dX3_size_0 : decode cX3_size 0 = .ok (.iload_n 1, 1) := by decide +kernel
theorem dX3_size_1 : decode cX3_size 1 = .ok (.iconst 1, 1) := by decide +kernel
theorem dX3_size_2 : decode cX3_size 2 = .ok (.bipush 20, 2) := by decide +kernel
theorem dX3_size_4 : decode cX3_size 4 = .ok (.invokestatic 48, 3) := by decide +kernel
theorem dX3_size_7 : decode cX3_size 7 = .ok (.ifCond .ne 5, 3) := by decide +kernel
theorem dX3_size_10 : decode cX3_size 10 = .ok (.iconst (-1), 1) := by decide +kernel
theorem dX3_size_11 : decode cX3_size 11 = .ok (.ireturn, 1) := by decide +kernel
theorem dX3_size_12 : decode cX3_size 12 = .ok (.aload_n 0, 1) := by decide +kernel
theorem dX3_size_13 : decode cX3_size 13 = .ok (.getfield 40, 3) := by decide +kernel
theorem dX3_size_16 : decode cX3_size 16 = .ok (.istore_n 2, 1) := by decide +kernel
theorem dX3_size_17 : decode cX3_size 17 = .ok (.aload_n 0, 1) := by decide +kernel
theorem dX3_size_18 : decode cX3_size 18 = .ok (.iload_n 1, 1) := by decide +kernel
theorem dX3_size_19 : decode cX3_size 19 = .ok (.putfield 40, 3) := by decide +kernel
theorem dX3_size_22 : decode cX3_size 22 = .ok (.iload_n 2, 1) := by decide +kernel
theorem dX3_size_23 : decode cX3_size 23 = .ok (.ireturn, 1) := by decide +kernel
set_option maxRecDepth 20000 in
theorem ggX3_crest_X3_tryOut : GoodIn wsX3_crest wsX3_tryOut := goodIn_r _ [6, 7, 8, 9, 5, 10, 11, 12, 13, 14, 15, 16, 17, 18, 19, 20, 21, 22, 23, 24, 25, 26, 27, 28, 1, 29, 30, 31, 32, 33, 34, 35, 36, 37, 38, 39, 40, 41, 42, 43, 44, 45, 46, 47, 48, 49, 50, 51, 52, 53, 54, 55, 56, 57, 58, 59, 60, 61, 62, 63, 64, 65, 66, 67, 68, 69, 70, 71, 72, 73, 74, 75, 76, 77, 78, 79, 80, 85, 86, 87, 88, 89, 90, 91, 92, 93, 94, 95, 96, 97, 98, 99, 100, 101, 102, 103] (by decide +kernel) (by decide +kernel)
set_option maxRecDepth 20000 in
theorem gX3_crest_X3_tryOut : GoodIn wsX3_crest (wsV RX3 98 RX3 yX3_tryOut wsX3_tryOut) := goodIn_app (goodIn_of _ (by decide +kernel)) ggX3_crest_X3_tryOut
set_option maxRecDepth 20000 in
theorem ggX3_crest_X0_greatestHeight : GoodIn wsX3_crest wsX0_greatestHeight := goodIn_r _ [84, 24, 38, 55, 56, 57, 58, 93, 94, 95, 96, 97, 98, 99, 100] (by decide +kernel) (by decide +kernel)
set_option maxRecDepth 20000 in
theorem gX3_crest_X0_greatestHeight : GoodIn wsX3_crest (wsV RX3 102 RX0 yX0_greatestHeight wsX0_greatestHeight) := goodIn_app (goodIn_of _ (by decide +kernel)) ggX3_crest_X0_greatestHeight
theorem dX3_crest_0 : decode cX3_crest 0 = .ok (.aload_n 0, 1) := by decide +kernel
theorem dX3_crest_1 : decode cX3_crest 1 = .ok (.iload_n 1, 1) := by decide +kernel
theorem dX3_crest_2 : decode cX3_crest 2 = .ok (.iload_n 2, 1) := by decide +kernel
theorem dX3_crest_3 : decode cX3_crest 3 = .ok (.iload_n 3, 1) := by decide +kernel
theorem dX3_crest_4 : decode cX3_crest 4 = .ok (.iload 4, 2) := by decide +kernel
theorem dX3_crest_6 : decode cX3_crest 6 = .ok (.invokevirtual 98, 3) := by decide +kernel
theorem dX3_crest_9 : decode cX3_crest 9 = .ok (.ifCond .ne 5, 3) := by decide +kernel
theorem dX3_crest_12 : decode cX3_crest 12 = .ok (.iconst (-1), 1) := by decide +kernel
theorem dX3_crest_13 : decode cX3_crest 13 = .ok (.ireturn, 1) := by decide +kernel
theorem dX3_crest_14 : decode cX3_crest 14 = .ok (.aload_n 0, 1) := by decide +kernel
theorem dX3_crest_15 : decode cX3_crest 15 = .ok (.getfield 16, 3) := by decide +kernel
theorem dX3_crest_18 : decode cX3_crest 18 = .ok (.invokevirtual 102, 3) := by decide +kernel
theorem dX3_crest_21 : decode cX3_crest 21 = .ok (.ireturn, 1) := by decide +kernel
set_option maxRecDepth 20000 in
theorem ggX3_floods_X3_tryOut : GoodIn wsX3_floods wsX3_tryOut := goodIn_r _ [7, 8, 9, 10, 6, 11, 12, 13, 14, 15, 16, 17, 18, 19, 20, 21, 22, 23, 24, 25, 26, 27, 28, 29, 1, 2, 30, 31, 32, 33, 34, 35, 36, 37, 38, 39, 40, 41, 42, 43, 44, 45, 46, 47, 48, 49, 50, 51, 52, 53, 54, 55, 56, 57, 58, 59, 60, 61, 62, 63, 64, 65, 66, 67, 68, 69, 70, 71, 72, 73, 74, 75, 76, 77, 78, 79, 80, 81, 82, 83, 84, 85, 86, 87, 88, 89, 90, 91, 92, 93, 94, 95, 96, 97, 98, 99] (by decide +kernel) (by decide +kernel)
set_option maxRecDepth 20000 in
theorem gX3_floods_X3_tryOut : GoodIn wsX3_floods (wsV RX3 98 RX3 yX3_tryOut wsX3_tryOut) := goodIn_app (goodIn_of _ (by decide +kernel)) ggX3_floods_X3_tryOut
theorem dX3_floods_0 : decode cX3_floods 0 = .ok (.aload_n 0, 1) := by decide +kernel
theorem dX3_floods_1 : decode cX3_floods 1 = .ok (.iload_n 1, 1) := by decide +kernel
theorem dX3_floods_2 : decode cX3_floods 2 = .ok (.iload_n 2, 1) := by decide +kernel
theorem dX3_floods_3 : decode cX3_floods 3 = .ok (.iload_n 3, 1) := by decide +kernel
theorem dX3_floods_4 : decode cX3_floods 4 = .ok (.iload 4, 2) := by decide +kernel
theorem dX3_floods_6 : decode cX3_floods 6 = .ok (.invokevirtual 98, 3) := by decide +kernel
theorem dX3_floods_9 : decode cX3_floods 9 = .ok (.ifCond .ne 5, 3) := by decide +kernel
theorem dX3_floods_12 : decode cX3_floods 12 = .ok (.iconst (-1), 1) := by decide +kernel
theorem dX3_floods_13 : decode cX3_floods 13 = .ok (.ireturn, 1) := by decide +kernel
theorem dX3_floods_14 : decode cX3_floods 14 = .ok (.aload_n 0, 1) := by decide +kernel
theorem dX3_floods_15 : decode cX3_floods 15 = .ok (.getfield 16, 3) := by decide +kernel
theorem dX3_floods_18 : decode cX3_floods 18 = .ok (.getfield 105, 3) := by decide +kernel
theorem dX3_floods_21 : decode cX3_floods 21 = .ok (.ireturn, 1) := by decide +kernel
set_option maxRecDepth 20000 in
theorem ggX3_plan_X3_isAim : GoodIn wsX3_plan wsX3_isAim := goodIn_r _ [5, 6, 7, 4, 8] (by decide +kernel) (by decide +kernel)
set_option maxRecDepth 20000 in
theorem gX3_plan_X3_isAim : GoodIn wsX3_plan (va_wsS RX3 108 yX3_isAim wsX3_isAim) := goodIn_app (goodIn_of _ (by decide +kernel)) ggX3_plan_X3_isAim
set_option maxRecDepth 20000 in
theorem ggX3_plan_X3_isWithin : GoodIn wsX3_plan wsX3_isWithin := goodIn_r _ [8] (by decide +kernel) (by decide +kernel)
set_option maxRecDepth 20000 in
theorem gX3_plan_X3_isWithin : GoodIn wsX3_plan (va_wsS RX3 48 yX3_isWithin wsX3_isWithin) := goodIn_app (goodIn_of _ (by decide +kernel)) ggX3_plan_X3_isWithin
set_option maxRecDepth 20000 in
theorem ggX3_plan_X3_findPlan : GoodIn wsX3_plan wsX3_findPlan := goodIn_r _ [12, 13, 14, 15, 16, 17, 18, 19, 20, 21, 22, 23, 24, 25, 26, 27, 28, 29, 30, 31, 4, 32, 1, 33, 34, 35, 36, 37, 38, 39, 40, 41, 42, 43, 44, 45, 46, 47, 48, 49, 50, 51, 52, 53, 54, 55, 56, 57, 58, 59, 60, 61, 62, 63, 64, 65, 66, 67, 68, 69, 70, 71, 72, 73, 74, 75, 76, 77, 78, 79, 80, 81, 82, 83, 84, 85, 86, 87, 88, 89, 90, 91, 92, 93, 94, 95, 96, 97, 98, 99, 100, 101, 7, 8, 102, 103, 104, 105, 106, 107, 108, 109, 110, 111, 112, 113, 114, 115, 116, 117, 118, 119, 120, 121, 122, 123, 124] (by decide +kernel) (by decide +kernel)
set_option maxRecDepth 20000 in
theorem gX3_plan_X3_findPlan : GoodIn wsX3_plan (wsV RX3 111 RX3 yX3_findPlan wsX3_findPlan) := goodIn_app (goodIn_of _ (by decide +kernel)) ggX3_plan_X3_findPlan
theorem dX3_plan_0 : decode cX3_plan 0 = .ok (.iload_n 1, 1) := by decide +kernel
theorem dX3_plan_1 : decode cX3_plan 1 = .ok (.invokestatic 108, 3) := by decide +kernel
theorem dX3_plan_4 : decode cX3_plan 4 = .ok (.ifCond .eq 12, 3) := by decide +kernel
theorem dX3_plan_7 : decode cX3_plan 7 = .ok (.iload_n 2, 1) := by decide +kernel
theorem dX3_plan_8 : decode cX3_plan 8 = .ok (.iconst 0, 1) := by decide +kernel
theorem dX3_plan_9 : decode cX3_plan 9 = .ok (.iconst 2, 1) := by decide +kernel
theorem dX3_plan_10 : decode cX3_plan 10 = .ok (.invokestatic 48, 3) := by decide +kernel
theorem dX3_plan_13 : decode cX3_plan 13 = .ok (.ifCond .ne 5, 3) := by decide +kernel
theorem dX3_plan_16 : decode cX3_plan 16 = .ok (.iconst (-1), 1) := by decide +kernel
theorem dX3_plan_17 : decode cX3_plan 17 = .ok (.ireturn, 1) := by decide +kernel
theorem dX3_plan_18 : decode cX3_plan 18 = .ok (.aload_n 0, 1) := by decide +kernel
theorem dX3_plan_19 : decode cX3_plan 19 = .ok (.iload_n 1, 1) := by decide +kernel
theorem dX3_plan_20 : decode cX3_plan 20 = .ok (.invokevirtual 111, 3) := by decide +kernel
theorem dX3_plan_23 : decode cX3_plan 23 = .ok (.ifCond .eq 13, 3) := by decide +kernel
theorem dX3_plan_26 : decode cX3_plan 26 = .ok (.aload_n 0, 1) := by decide +kernel
theorem dX3_plan_27 : decode cX3_plan 27 = .ok (.getfield 44, 3) := by decide +kernel
theorem dX3_plan_30 : decode cX3_plan 30 = .ok (.iload_n 2, 1) := by decide +kernel
theorem dX3_plan_31 : decode cX3_plan 31 = .ok (.iaload, 1) := by decide +kernel
theorem dX3_plan_32 : decode cX3_plan 32 = .ok (.iconst (-1), 1) := by decide +kernel
theorem dX3_plan_33 : decode cX3_plan 33 = .ok (.if_icmp .ne 6, 3) := by decide +kernel
theorem dX3_plan_36 : decode cX3_plan 36 = .ok (.bipush (-3), 2) := by decide +kernel
theorem dX3_plan_38 : decode cX3_plan 38 = .ok (.ireturn, 1) := by decide +kernel
theorem dX3_plan_39 : decode cX3_plan 39 = .ok (.aload_n 0, 1) := by decide +kernel
theorem dX3_plan_40 : decode cX3_plan 40 = .ok (.getfield 44, 3) := by decide +kernel
theorem dX3_plan_43 : decode cX3_plan 43 = .ok (.iload_n 2, 1) := by decide +kernel
theorem dX3_plan_44 : decode cX3_plan 44 = .ok (.iaload, 1) := by decide +kernel
theorem dX3_plan_45 : decode cX3_plan 45 = .ok (.ireturn, 1) := by decide +kernel
set_option maxRecDepth 20000 in
theorem ggX3_fences_X3_isAim : GoodIn wsX3_fences wsX3_isAim := goodIn_r _ [4, 5, 6, 3, 7] (by decide +kernel) (by decide +kernel)
set_option maxRecDepth 20000 in
theorem gX3_fences_X3_isAim : GoodIn wsX3_fences (va_wsS RX3 108 yX3_isAim wsX3_isAim) := goodIn_app (goodIn_of _ (by decide +kernel)) ggX3_fences_X3_isAim
set_option maxRecDepth 20000 in
theorem ggX3_fences_X3_findPlan : GoodIn wsX3_fences wsX3_findPlan := goodIn_r _ [11, 12, 13, 14, 15, 16, 17, 18, 19, 20, 21, 22, 23, 24, 25, 26, 27, 28, 29, 30, 3, 31, 32, 33, 34, 35, 36, 37, 38, 39, 40, 41, 42, 43, 44, 45, 46, 47, 48, 49, 50, 51, 52, 53, 54, 55, 56, 57, 58, 59, 60, 61, 62, 63, 64, 65, 66, 67, 68, 69, 70, 71, 72, 73, 74, 75, 76, 77, 78, 79, 80, 81, 82, 83, 84, 85, 86, 87, 88, 89, 90, 91, 92, 93, 94, 95, 96, 97, 98, 99, 100, 101, 6, 7, 102, 103, 104, 105, 106, 107, 108, 109, 110, 111, 112, 113, 114, 115, 116, 117, 118, 119, 120, 121, 122, 123, 124] (by decide +kernel) (by decide +kernel)
set_option maxRecDepth 20000 in
theorem gX3_fences_X3_findPlan : GoodIn wsX3_fences (wsV RX3 111 RX3 yX3_findPlan wsX3_findPlan) := goodIn_app (goodIn_of _ (by decide +kernel)) ggX3_fences_X3_findPlan
set_option maxRecDepth 20000 in
theorem ggX3_fences_X3_plannedFences : GoodIn wsX3_fences wsX3_plannedFences := goodIn_r _ [43, 32, 106, 107, 108, 109, 110, 111, 112, 113] (by decide +kernel) (by decide +kernel)
set_option maxRecDepth 20000 in
theorem gX3_fences_X3_plannedFences : GoodIn wsX3_fences (wsV RX3 114 RX3 yX3_plannedFences wsX3_plannedFences) := goodIn_app (goodIn_of _ (by decide +kernel)) ggX3_fences_X3_plannedFences
theorem dX3_fences_0 : decode cX3_fences 0 = .ok (.iload_n 1, 1) := by decide +kernel
theorem dX3_fences_1 : decode cX3_fences 1 = .ok (.invokestatic 108, 3) := by decide +kernel
theorem dX3_fences_4 : decode cX3_fences 4 = .ok (.ifCond .ne 5, 3) := by decide +kernel
theorem dX3_fences_7 : decode cX3_fences 7 = .ok (.iconst (-1), 1) := by decide +kernel
theorem dX3_fences_8 : decode cX3_fences 8 = .ok (.ireturn, 1) := by decide +kernel
theorem dX3_fences_9 : decode cX3_fences 9 = .ok (.aload_n 0, 1) := by decide +kernel
theorem dX3_fences_10 : decode cX3_fences 10 = .ok (.iload_n 1, 1) := by decide +kernel
theorem dX3_fences_11 : decode cX3_fences 11 = .ok (.invokevirtual 111, 3) := by decide +kernel
theorem dX3_fences_14 : decode cX3_fences 14 = .ok (.ifCond .eq 10, 3) := by decide +kernel
theorem dX3_fences_17 : decode cX3_fences 17 = .ok (.aload_n 0, 1) := by decide +kernel
theorem dX3_fences_18 : decode cX3_fences 18 = .ok (.invokevirtual 114, 3) := by decide +kernel
theorem dX3_fences_21 : decode cX3_fences 21 = .ok (.goto 5, 3) := by decide +kernel
theorem dX3_fences_24 : decode cX3_fences 24 = .ok (.bipush (-3), 2) := by decide +kernel
theorem dX3_fences_26 : decode cX3_fences 26 = .ok (.ireturn, 1) := by decide +kernel
set_option maxRecDepth 20000 in
theorem ggX3_most_X2_any : GoodIn wsX3_most wsX2_any := goodIn_r _ [10, 11, 107, 108, 109] (by decide +kernel) (by decide +kernel)
set_option maxRecDepth 20000 in
theorem gX3_most_X2_any : GoodIn wsX3_most (wsV RX3 117 RX2 yX2_any wsX2_any) := goodIn_app (goodIn_of _ (by decide +kernel)) ggX3_most_X2_any
set_option maxRecDepth 20000 in
theorem ggX3_most_X2_lastYear : GoodIn wsX3_most wsX2_lastYear := goodIn_r _ [15, 16, 3, 4, 5, 17, 18, 19, 9, 20, 11, 21, 107, 108, 109] (by decide +kernel) (by decide +kernel)
set_option maxRecDepth 20000 in
theorem gX3_most_X2_lastYear : GoodIn wsX3_most (wsV RX3 121 RX2 yX2_lastYear wsX2_lastYear) := goodIn_app (goodIn_of _ (by decide +kernel)) ggX3_most_X2_lastYear
set_option maxRecDepth 20000 in
theorem ggX3_most_X3_choosePlan : GoodIn wsX3_most wsX3_choosePlan := goodIn_r _ [26, 27, 28, 29, 30, 31, 32, 33, 34, 99, 100, 101, 102, 103, 104, 105, 106, 110, 111, 112, 113, 114, 115, 116, 117] (by decide +kernel) (by decide +kernel)
set_option maxRecDepth 20000 in
theorem gX3_most_X3_choosePlan : GoodIn wsX3_most (wsV RX3 124 RX3 yX3_choosePlan wsX3_choosePlan) := goodIn_app (goodIn_of _ (by decide +kernel)) ggX3_most_X3_choosePlan
set_option maxRecDepth 20000 in
theorem ggX3_most_X3_worstCrest : GoodIn wsX3_most wsX3_worstCrest := goodIn_r _ [38, 1, 39, 40, 41, 42, 4, 43, 44, 45, 46, 47, 25, 48, 28, 49, 50, 51, 52, 53, 32, 54, 34, 55, 56, 57, 58, 59, 60, 61, 62, 63, 64, 65, 27, 66, 67, 29, 30, 31, 33, 68, 69, 70, 71, 72, 3, 5, 73, 74, 75, 76, 77, 78, 79, 80, 81, 82, 83, 84, 85, 86, 87, 88, 89, 90, 91, 92, 93, 94, 95, 96, 97, 98, 99, 100, 101, 102, 103, 104, 105, 106, 107, 108, 109, 110, 111, 112, 113, 114, 115, 116, 117] (by decide +kernel) (by decide +kernel)
set_option maxRecDepth 20000 in
theorem gX3_most_X3_worstCrest : GoodIn wsX3_most (wsV RX3 127 RX3 yX3_worstCrest wsX3_worstCrest) := goodIn_app (goodIn_of _ (by decide +kernel)) ggX3_most_X3_worstCrest
theorem dX3_most_0 : decode cX3_most 0 = .ok (.aload_n 0, 1) := by decide +kernel
theorem dX3_most_1 : decode cX3_most 1 = .ok (.getfield 29, 3) := by decide +kernel
theorem dX3_most_4 : decode cX3_most 4 = .ok (.invokevirtual 117, 3) := by decide +kernel
theorem dX3_most_7 : decode cX3_most 7 = .ok (.ifCond .ne 6, 3) := by decide +kernel
theorem dX3_most_10 : decode cX3_most 10 = .ok (.bipush (-3), 2) := by decide +kernel
theorem dX3_most_12 : decode cX3_most 12 = .ok (.ireturn, 1) := by decide +kernel
theorem dX3_most_13 : decode cX3_most 13 = .ok (.aload_n 0, 1) := by decide +kernel
theorem dX3_most_14 : decode cX3_most 14 = .ok (.getfield 29, 3) := by decide +kernel
theorem dX3_most_17 : decode cX3_most 17 = .ok (.invokevirtual 121, 3) := by decide +kernel
theorem dX3_most_20 : decode cX3_most 20 = .ok (.istore_n 1, 1) := by decide +kernel
theorem dX3_most_21 : decode cX3_most 21 = .ok (.iconst (-1), 1) := by decide +kernel
theorem dX3_most_22 : decode cX3_most 22 = .ok (.istore_n 2, 1) := by decide +kernel
theorem dX3_most_23 : decode cX3_most 23 = .ok (.iconst 0, 1) := by decide +kernel
theorem dX3_most_24 : decode cX3_most 24 = .ok (.istore_n 3, 1) := by decide +kernel
theorem dX3_most_25 : decode cX3_most 25 = .ok (.iload_n 3, 1) := by decide +kernel
theorem dX3_most_26 : decode cX3_most 26 = .ok (.sipush 512, 3) := by decide +kernel
theorem dX3_most_29 : decode cX3_most 29 = .ok (.if_icmp .ge 30, 3) := by decide +kernel
theorem dX3_most_32 : decode cX3_most 32 = .ok (.aload_n 0, 1) := by decide +kernel
theorem dX3_most_33 : decode cX3_most 33 = .ok (.iload_n 3, 1) := by decide +kernel
theorem dX3_most_34 : decode cX3_most 34 = .ok (.iload_n 1, 1) := by decide +kernel
theorem dX3_most_35 : decode cX3_most 35 = .ok (.invokevirtual 124, 3) := by decide +kernel
theorem dX3_most_38 : decode cX3_most 38 = .ok (.ifCond .eq 15, 3) := by decide +kernel
theorem dX3_most_41 : decode cX3_most 41 = .ok (.iload_n 2, 1) := by decide +kernel
theorem dX3_most_42 : decode cX3_most 42 = .ok (.aload_n 0, 1) := by decide +kernel
theorem dX3_most_43 : decode cX3_most 43 = .ok (.iload_n 2, 1) := by decide +kernel
theorem dX3_most_44 : decode cX3_most 44 = .ok (.iconst 1, 1) := by decide +kernel
theorem dX3_most_45 : decode cX3_most 45 = .ok (.iadd, 1) := by decide +kernel
theorem dX3_most_46 : decode cX3_most 46 = .ok (.invokevirtual 127, 3) := by decide +kernel
theorem dX3_most_49 : decode cX3_most 49 = .ok (.invokestatic 130, 3) := by decide +kernel
theorem dX3_most_52 : decode cX3_most 52 = .ok (.istore_n 2, 1) := by decide +kernel
theorem dX3_most_53 : decode cX3_most 53 = .ok (.iinc 3 1, 3) := by decide +kernel
theorem dX3_most_56 : decode cX3_most 56 = .ok (.goto (-31), 3) := by decide +kernel
theorem dX3_most_59 : decode cX3_most 59 = .ok (.iload_n 2, 1) := by decide +kernel
theorem dX3_most_60 : decode cX3_most 60 = .ok (.ifCond .ge 8, 3) := by decide +kernel
theorem dX3_most_63 : decode cX3_most 63 = .ok (.bipush (-3), 2) := by decide +kernel
theorem dX3_most_65 : decode cX3_most 65 = .ok (.goto 4, 3) := by decide +kernel
theorem dX3_most_68 : decode cX3_most 68 = .ok (.iload_n 2, 1) := by decide +kernel
theorem dX3_most_69 : decode cX3_most 69 = .ok (.ireturn, 1) := by decide +kernel
set_option maxRecDepth 20000 in
theorem ggX3_read_X0_has : GoodIn wsX3_read wsX0_has := goodIn_r _ [7, 8, 27, 28, 29, 30, 31, 32, 33, 34] (by decide +kernel) (by decide +kernel)
set_option maxRecDepth 20000 in
theorem gX3_read_X0_has : GoodIn wsX3_read (wsV RX3 59 RX0 yX0_has wsX0_has) := goodIn_app (goodIn_of _ (by decide +kernel)) ggX3_read_X0_has
set_option maxRecDepth 20000 in
theorem ggX3_read_X3_isWithin : GoodIn wsX3_read wsX3_isWithin := goodIn_r _ [12] (by decide +kernel) (by decide +kernel)
set_option maxRecDepth 20000 in
theorem gX3_read_X3_isWithin : GoodIn wsX3_read (va_wsS RX3 48 yX3_isWithin wsX3_isWithin) := goodIn_app (goodIn_of _ (by decide +kernel)) ggX3_read_X3_isWithin
set_option maxRecDepth 20000 in
theorem ggX3_read_X1_put : GoodIn wsX3_read wsX1_put := goodIn_r _ [17, 18, 35] (by decide +kernel) (by decide +kernel)
set_option maxRecDepth 20000 in
theorem gX3_read_X1_put : GoodIn wsX3_read (wsV RX3 136 RX1 yX1_put wsX1_put) := goodIn_app (goodIn_of _ (by decide +kernel)) ggX3_read_X1_put
theorem dX3_read_0 : decode cX3_read 0 = .ok (.aload_n 0, 1) := by decide +kernel
theorem dX3_read_1 : decode cX3_read 1 = .ok (.getfield 10, 3) := by decide +kernel
theorem dX3_read_4 : decode cX3_read 4 = .ok (.iload_n 1, 1) := by decide +kernel
theorem dX3_read_5 : decode cX3_read 5 = .ok (.invokevirtual 59, 3) := by decide +kernel
theorem dX3_read_8 : decode cX3_read 8 = .ok (.ifCond .eq 13, 3) := by decide +kernel
theorem dX3_read_11 : decode cX3_read 11 = .ok (.iload_n 2, 1) := by decide +kernel
theorem dX3_read_12 : decode cX3_read 12 = .ok (.iconst (-1), 1) := by decide +kernel
theorem dX3_read_13 : decode cX3_read 13 = .ok (.bipush 99, 2) := by decide +kernel
theorem dX3_read_15 : decode cX3_read 15 = .ok (.invokestatic 48, 3) := by decide +kernel
theorem dX3_read_18 : decode cX3_read 18 = .ok (.ifCond .ne 6, 3) := by decide +kernel
theorem dX3_read_21 : decode cX3_read 21 = .ok (.bipush (-9), 2) := by decide +kernel
theorem dX3_read_23 : decode cX3_read 23 = .ok (.ireturn, 1) := by decide +kernel
theorem dX3_read_24 : decode cX3_read 24 = .ok (.aload_n 0, 1) := by decide +kernel
theorem dX3_read_25 : decode cX3_read 25 = .ok (.getfield 36, 3) := by decide +kernel
theorem dX3_read_28 : decode cX3_read 28 = .ok (.iload_n 1, 1) := by decide +kernel
theorem dX3_read_29 : decode cX3_read 29 = .ok (.iload_n 2, 1) := by decide +kernel
theorem dX3_read_30 : decode cX3_read 30 = .ok (.invokevirtual 136, 3) := by decide +kernel
theorem dX3_read_33 : decode cX3_read 33 = .ok (.ireturn, 1) := by decide +kernel
set_option maxRecDepth 20000 in
theorem ggX3_take_X1_put : GoodIn wsX3_take wsX1_put := goodIn_r _ [9, 10, 27] (by decide +kernel) (by decide +kernel)
set_option maxRecDepth 20000 in
theorem gX3_take_X1_put : GoodIn wsX3_take (wsV RX3 136 RX1 yX1_put wsX1_put) := goodIn_app (goodIn_of _ (by decide +kernel)) ggX3_take_X1_put
theorem dX3_take_0 : decode cX3_take 0 = .ok (.iconst 0, 1) := by decide +kernel
theorem dX3_take_1 : decode cX3_take 1 = .ok (.istore_n 1, 1) := by decide +kernel
theorem dX3_take_2 : decode cX3_take 2 = .ok (.iconst 0, 1) := by decide +kernel
theorem dX3_take_3 : decode cX3_take 3 = .ok (.istore_n 2, 1) := by decide +kernel
theorem dX3_take_4 : decode cX3_take 4 = .ok (.iload_n 2, 1) := by decide +kernel
theorem dX3_take_5 : decode cX3_take 5 = .ok (.aload_n 0, 1) := by decide +kernel
theorem dX3_take_6 : decode cX3_take 6 = .ok (.getfield 10, 3) := by decide +kernel
theorem dX3_take_9 : decode cX3_take 9 = .ok (.getfield 139, 3) := by decide +kernel
theorem dX3_take_12 : decode cX3_take 12 = .ok (.if_icmp .ge 41, 3) := by decide +kernel
theorem dX3_take_15 : decode cX3_take 15 = .ok (.aload_n 0, 1) := by decide +kernel
theorem dX3_take_16 : decode cX3_take 16 = .ok (.getfield 36, 3) := by decide +kernel
theorem dX3_take_19 : decode cX3_take 19 = .ok (.iload_n 2, 1) := by decide +kernel
theorem dX3_take_20 : decode cX3_take 20 = .ok (.aload_n 0, 1) := by decide +kernel
theorem dX3_take_21 : decode cX3_take 21 = .ok (.getfield 10, 3) := by decide +kernel
theorem dX3_take_24 : decode cX3_take 24 = .ok (.getfield 142, 3) := by decide +kernel
theorem dX3_take_27 : decode cX3_take 27 = .ok (.iload_n 2, 1) := by decide +kernel
theorem dX3_take_28 : decode cX3_take 28 = .ok (.iaload, 1) := by decide +kernel
theorem dX3_take_29 : decode cX3_take 29 = .ok (.invokevirtual 136, 3) := by decide +kernel
theorem dX3_take_32 : decode cX3_take 32 = .ok (.aload_n 0, 1) := by decide +kernel
theorem dX3_take_33 : decode cX3_take 33 = .ok (.getfield 10, 3) := by decide +kernel
theorem dX3_take_36 : decode cX3_take 36 = .ok (.getfield 142, 3) := by decide +kernel
theorem dX3_take_39 : decode cX3_take 39 = .ok (.iload_n 2, 1) := by decide +kernel
theorem dX3_take_40 : decode cX3_take 40 = .ok (.iaload, 1) := by decide +kernel
theorem dX3_take_41 : decode cX3_take 41 = .ok (.if_icmp .eq 6, 3) := by decide +kernel
theorem dX3_take_44 : decode cX3_take 44 = .ok (.iinc 1 1, 3) := by decide +kernel
theorem dX3_take_47 : decode cX3_take 47 = .ok (.iinc 2 1, 3) := by decide +kernel
theorem dX3_take_50 : decode cX3_take 50 = .ok (.goto (-46), 3) := by decide +kernel
theorem dX3_take_53 : decode cX3_take 53 = .ok (.iload_n 1, 1) := by decide +kernel
theorem dX3_take_54 : decode cX3_take 54 = .ok (.ireturn, 1) := by decide +kernel
set_option maxRecDepth 20000 in
theorem ggX3_level_X0_has : GoodIn wsX3_level wsX0_has := goodIn_r _ [8, 9, 42, 43, 44, 45, 46, 47, 48, 49] (by decide +kernel) (by decide +kernel)
set_option maxRecDepth 20000 in
theorem gX3_level_X0_has : GoodIn wsX3_level (wsV RX3 59 RX0 yX0_has wsX0_has) := goodIn_app (goodIn_of _ (by decide +kernel)) ggX3_level_X0_has
set_option maxRecDepth 20000 in
theorem ggX3_level_X3_isFractionPart : GoodIn wsX3_level wsX3_isFractionPart := goodIn_r _ [13, 14, 15, 12, 16] (by decide +kernel) (by decide +kernel)
set_option maxRecDepth 20000 in
theorem gX3_level_X3_isFractionPart : GoodIn wsX3_level (va_wsS RX3 145 yX3_isFractionPart wsX3_isFractionPart) := goodIn_app (goodIn_of _ (by decide +kernel)) ggX3_level_X3_isFractionPart
set_option maxRecDepth 20000 in
theorem ggX3_level_X1_readings : GoodIn wsX3_level wsX1_readings := goodIn_r _ [21, 22, 50] (by decide +kernel) (by decide +kernel)
set_option maxRecDepth 20000 in
theorem gX3_level_X1_readings : GoodIn wsX3_level (wsV RX3 148 RX1 yX1_readings wsX1_readings) := goodIn_app (goodIn_of _ (by decide +kernel)) ggX3_level_X1_readings
set_option maxRecDepth 20000 in
theorem ggX3_level_X1_scaledLevel : GoodIn wsX3_level wsX1_scaledLevel := goodIn_r _ [26, 22, 27, 28, 29, 20, 30, 50] (by decide +kernel) (by decide +kernel)
set_option maxRecDepth 20000 in
theorem gX3_level_X1_scaledLevel : GoodIn wsX3_level (wsV RX3 151 RX1 yX1_scaledLevel wsX1_scaledLevel) := goodIn_app (goodIn_of _ (by decide +kernel)) ggX3_level_X1_scaledLevel
set_option maxRecDepth 20000 in
theorem ggX3_level_X3_cleared : GoodIn wsX3_level wsX3_cleared := goodIn_r _ [33] (by decide +kernel) (by decide +kernel)
set_option maxRecDepth 20000 in
theorem gX3_level_X3_cleared : GoodIn wsX3_level (va_wsS RX3 154 yX3_cleared wsX3_cleared) := goodIn_app (goodIn_of _ (by decide +kernel)) ggX3_level_X3_cleared
theorem dX3_level_0 : decode cX3_level 0 = .ok (.aload_n 0, 1) := by decide +kernel
theorem dX3_level_1 : decode cX3_level 1 = .ok (.getfield 10, 3) := by decide +kernel
theorem dX3_level_4 : decode cX3_level 4 = .ok (.iload_n 1, 1) := by decide +kernel
theorem dX3_level_5 : decode cX3_level 5 = .ok (.invokevirtual 59, 3) := by decide +kernel
theorem dX3_level_8 : decode cX3_level 8 = .ok (.ifCond .eq 10, 3) := by decide +kernel
theorem dX3_level_11 : decode cX3_level 11 = .ok (.iload_n 2, 1) := by decide +kernel
theorem dX3_level_12 : decode cX3_level 12 = .ok (.invokestatic 145, 3) := by decide +kernel
theorem dX3_level_15 : decode cX3_level 15 = .ok (.ifCond .ne 5, 3) := by decide +kernel
theorem dX3_level_18 : decode cX3_level 18 = .ok (.iconst (-1), 1) := by decide +kernel
theorem dX3_level_19 : decode cX3_level 19 = .ok (.ireturn, 1) := by decide +kernel
theorem dX3_level_20 : decode cX3_level 20 = .ok (.aload_n 0, 1) := by decide +kernel
theorem dX3_level_21 : decode cX3_level 21 = .ok (.getfield 36, 3) := by decide +kernel
theorem dX3_level_24 : decode cX3_level 24 = .ok (.invokevirtual 148, 3) := by decide +kernel
theorem dX3_level_27 : decode cX3_level 27 = .ok (.iconst 1, 1) := by decide +kernel
theorem dX3_level_28 : decode cX3_level 28 = .ok (.if_icmp .ge 6, 3) := by decide +kernel
theorem dX3_level_31 : decode cX3_level 31 = .ok (.bipush (-3), 2) := by decide +kernel
theorem dX3_level_33 : decode cX3_level 33 = .ok (.ireturn, 1) := by decide +kernel
theorem dX3_level_34 : decode cX3_level 34 = .ok (.aload_n 0, 1) := by decide +kernel
theorem dX3_level_35 : decode cX3_level 35 = .ok (.getfield 36, 3) := by decide +kernel
theorem dX3_level_38 : decode cX3_level 38 = .ok (.iload_n 1, 1) := by decide +kernel
theorem dX3_level_39 : decode cX3_level 39 = .ok (.aload_n 0, 1) := by decide +kernel
theorem dX3_level_40 : decode cX3_level 40 = .ok (.getfield 10, 3) := by decide +kernel
theorem dX3_level_43 : decode cX3_level 43 = .ok (.getfield 139, 3) := by decide +kernel
theorem dX3_level_46 : decode cX3_level 46 = .ok (.iconst (-1), 1) := by decide +kernel
theorem dX3_level_47 : decode cX3_level 47 = .ok (.invokevirtual 151, 3) := by decide +kernel
theorem dX3_level_50 : decode cX3_level 50 = .ok (.iload_n 2, 1) := by decide +kernel
theorem dX3_level_51 : decode cX3_level 51 = .ok (.invokestatic 154, 3) := by decide +kernel
theorem dX3_level_54 : decode cX3_level 54 = .ok (.ireturn, 1) := by decide +kernel
set_option maxRecDepth 20000 in
theorem ggX3_volume_X3_isFractionPart : GoodIn wsX3_volume wsX3_isFractionPart := goodIn_r _ [7, 8, 9, 6, 10] (by decide +kernel) (by decide +kernel)
set_option maxRecDepth 20000 in
theorem gX3_volume_X3_isFractionPart : GoodIn wsX3_volume (va_wsS RX3 145 yX3_isFractionPart wsX3_isFractionPart) := goodIn_app (goodIn_of _ (by decide +kernel)) ggX3_volume_X3_isFractionPart
set_option maxRecDepth 20000 in
theorem ggX3_volume_X1_readings : GoodIn wsX3_volume wsX1_readings := goodIn_r _ [15, 16, 48] (by decide +kernel) (by decide +kernel)
set_option maxRecDepth 20000 in
theorem gX3_volume_X1_readings : GoodIn wsX3_volume (wsV RX3 148 RX1 yX1_readings wsX1_readings) := goodIn_app (goodIn_of _ (by decide +kernel)) ggX3_volume_X1_readings
set_option maxRecDepth 20000 in
theorem ggX3_volume_X1_scaledVolume : GoodIn wsX3_volume wsX1_scaledVolume := goodIn_r _ [20, 21, 22, 23, 14, 24, 16, 25, 26, 27, 28, 48] (by decide +kernel) (by decide +kernel)
set_option maxRecDepth 20000 in
theorem gX3_volume_X1_scaledVolume : GoodIn wsX3_volume (wsV RX3 157 RX1 yX1_scaledVolume wsX1_scaledVolume) := goodIn_app (goodIn_of _ (by decide +kernel)) ggX3_volume_X1_scaledVolume
set_option maxRecDepth 20000 in
theorem ggX3_volume_X3_cleared : GoodIn wsX3_volume wsX3_cleared := goodIn_r _ [31] (by decide +kernel) (by decide +kernel)
set_option maxRecDepth 20000 in
theorem gX3_volume_X3_cleared : GoodIn wsX3_volume (va_wsS RX3 154 yX3_cleared wsX3_cleared) := goodIn_app (goodIn_of _ (by decide +kernel)) ggX3_volume_X3_cleared
theorem dX3_volume_0 : decode cX3_volume 0 = .ok (.iload_n 1, 1) := by decide +kernel
theorem dX3_volume_1 : decode cX3_volume 1 = .ok (.invokestatic 145, 3) := by decide +kernel
theorem dX3_volume_4 : decode cX3_volume 4 = .ok (.ifCond .ne 5, 3) := by decide +kernel
theorem dX3_volume_7 : decode cX3_volume 7 = .ok (.iconst (-1), 1) := by decide +kernel
theorem dX3_volume_8 : decode cX3_volume 8 = .ok (.ireturn, 1) := by decide +kernel
theorem dX3_volume_9 : decode cX3_volume 9 = .ok (.aload_n 0, 1) := by decide +kernel
theorem dX3_volume_10 : decode cX3_volume 10 = .ok (.getfield 36, 3) := by decide +kernel
theorem dX3_volume_13 : decode cX3_volume 13 = .ok (.invokevirtual 148, 3) := by decide +kernel
theorem dX3_volume_16 : decode cX3_volume 16 = .ok (.iconst 1, 1) := by decide +kernel
theorem dX3_volume_17 : decode cX3_volume 17 = .ok (.if_icmp .ge 6, 3) := by decide +kernel
theorem dX3_volume_20 : decode cX3_volume 20 = .ok (.bipush (-3), 2) := by decide +kernel
theorem dX3_volume_22 : decode cX3_volume 22 = .ok (.ireturn, 1) := by decide +kernel
theorem dX3_volume_23 : decode cX3_volume 23 = .ok (.aload_n 0, 1) := by decide +kernel
theorem dX3_volume_24 : decode cX3_volume 24 = .ok (.getfield 36, 3) := by decide +kernel
theorem dX3_volume_27 : decode cX3_volume 27 = .ok (.aload_n 0, 1) := by decide +kernel
theorem dX3_volume_28 : decode cX3_volume 28 = .ok (.getfield 10, 3) := by decide +kernel
theorem dX3_volume_31 : decode cX3_volume 31 = .ok (.getfield 139, 3) := by decide +kernel
theorem dX3_volume_34 : decode cX3_volume 34 = .ok (.iconst (-1), 1) := by decide +kernel
theorem dX3_volume_35 : decode cX3_volume 35 = .ok (.invokevirtual 157, 3) := by decide +kernel
theorem dX3_volume_38 : decode cX3_volume 38 = .ok (.iload_n 1, 1) := by decide +kernel
theorem dX3_volume_39 : decode cX3_volume 39 = .ok (.invokestatic 154, 3) := by decide +kernel
theorem dX3_volume_42 : decode cX3_volume 42 = .ok (.ireturn, 1) := by decide +kernel
set_option maxRecDepth 20000 in
theorem ggX3_doubt_X3_isFractionPart : GoodIn wsX3_doubt wsX3_isFractionPart := goodIn_r _ [7, 8, 9, 6, 10] (by decide +kernel) (by decide +kernel)
set_option maxRecDepth 20000 in
theorem gX3_doubt_X3_isFractionPart : GoodIn wsX3_doubt (va_wsS RX3 145 yX3_isFractionPart wsX3_isFractionPart) := goodIn_app (goodIn_of _ (by decide +kernel)) ggX3_doubt_X3_isFractionPart
set_option maxRecDepth 20000 in
theorem ggX3_doubt_X1_readings : GoodIn wsX3_doubt wsX1_readings := goodIn_r _ [15, 16, 59] (by decide +kernel) (by decide +kernel)
set_option maxRecDepth 20000 in
theorem gX3_doubt_X1_readings : GoodIn wsX3_doubt (wsV RX3 148 RX1 yX1_readings wsX1_readings) := goodIn_app (goodIn_of _ (by decide +kernel)) ggX3_doubt_X1_readings
set_option maxRecDepth 20000 in
theorem ggX3_doubt_X1_scaledDoubt : GoodIn wsX3_doubt wsX1_scaledDoubt := goodIn_r _ [20, 16, 21, 22, 23, 24, 25, 26, 27, 28, 29, 30, 14, 31, 32, 33, 34, 35, 36, 37, 38, 39, 59] (by decide +kernel) (by decide +kernel)
set_option maxRecDepth 20000 in
theorem gX3_doubt_X1_scaledDoubt : GoodIn wsX3_doubt (wsV RX3 160 RX1 yX1_scaledDoubt wsX1_scaledDoubt) := goodIn_app (goodIn_of _ (by decide +kernel)) ggX3_doubt_X1_scaledDoubt
set_option maxRecDepth 20000 in
theorem ggX3_doubt_X3_cleared : GoodIn wsX3_doubt wsX3_cleared := goodIn_r _ [42] (by decide +kernel) (by decide +kernel)
set_option maxRecDepth 20000 in
theorem gX3_doubt_X3_cleared : GoodIn wsX3_doubt (va_wsS RX3 154 yX3_cleared wsX3_cleared) := goodIn_app (goodIn_of _ (by decide +kernel)) ggX3_doubt_X3_cleared
theorem dX3_doubt_0 : decode cX3_doubt 0 = .ok (.iload_n 1, 1) := by decide +kernel
theorem dX3_doubt_1 : decode cX3_doubt 1 = .ok (.invokestatic 145, 3) := by decide +kernel
theorem dX3_doubt_4 : decode cX3_doubt 4 = .ok (.ifCond .ne 5, 3) := by decide +kernel
theorem dX3_doubt_7 : decode cX3_doubt 7 = .ok (.iconst (-1), 1) := by decide +kernel
theorem dX3_doubt_8 : decode cX3_doubt 8 = .ok (.ireturn, 1) := by decide +kernel
theorem dX3_doubt_9 : decode cX3_doubt 9 = .ok (.aload_n 0, 1) := by decide +kernel
theorem dX3_doubt_10 : decode cX3_doubt 10 = .ok (.getfield 36, 3) := by decide +kernel
theorem dX3_doubt_13 : decode cX3_doubt 13 = .ok (.invokevirtual 148, 3) := by decide +kernel
theorem dX3_doubt_16 : decode cX3_doubt 16 = .ok (.iconst 2, 1) := by decide +kernel
theorem dX3_doubt_17 : decode cX3_doubt 17 = .ok (.if_icmp .ge 6, 3) := by decide +kernel
theorem dX3_doubt_20 : decode cX3_doubt 20 = .ok (.bipush (-3), 2) := by decide +kernel
theorem dX3_doubt_22 : decode cX3_doubt 22 = .ok (.ireturn, 1) := by decide +kernel
theorem dX3_doubt_23 : decode cX3_doubt 23 = .ok (.aload_n 0, 1) := by decide +kernel
theorem dX3_doubt_24 : decode cX3_doubt 24 = .ok (.getfield 36, 3) := by decide +kernel
theorem dX3_doubt_27 : decode cX3_doubt 27 = .ok (.aload_n 0, 1) := by decide +kernel
theorem dX3_doubt_28 : decode cX3_doubt 28 = .ok (.getfield 10, 3) := by decide +kernel
theorem dX3_doubt_31 : decode cX3_doubt 31 = .ok (.getfield 139, 3) := by decide +kernel
theorem dX3_doubt_34 : decode cX3_doubt 34 = .ok (.invokevirtual 160, 3) := by decide +kernel
theorem dX3_doubt_37 : decode cX3_doubt 37 = .ok (.iload_n 1, 1) := by decide +kernel
theorem dX3_doubt_38 : decode cX3_doubt 38 = .ok (.invokestatic 154, 3) := by decide +kernel
theorem dX3_doubt_41 : decode cX3_doubt 41 = .ok (.ireturn, 1) := by decide +kernel
set_option maxRecDepth 20000 in
theorem ggX3_many_X0_heightsTogether : GoodIn wsX3_many wsX0_heightsTogether := goodIn_r _ [13, 14, 15, 42, 43, 44, 45, 46, 47, 48, 49] (by decide +kernel) (by decide +kernel)
set_option maxRecDepth 20000 in
theorem gX3_many_X0_heightsTogether : GoodIn wsX3_many (wsV RX3 169 RX0 yX0_heightsTogether wsX0_heightsTogether) := goodIn_app (goodIn_of _ (by decide +kernel)) ggX3_many_X0_heightsTogether
set_option maxRecDepth 20000 in
theorem ggX3_many_X0_greatestHeight : GoodIn wsX3_many wsX0_greatestHeight := goodIn_r _ [19, 14, 15, 20, 21, 22, 23, 42, 43, 44, 45, 46, 47, 48, 49] (by decide +kernel) (by decide +kernel)
set_option maxRecDepth 20000 in
theorem gX3_many_X0_greatestHeight : GoodIn wsX3_many (wsV RX3 102 RX0 yX0_greatestHeight wsX0_greatestHeight) := goodIn_app (goodIn_of _ (by decide +kernel)) ggX3_many_X0_greatestHeight
set_option maxRecDepth 20000 in
theorem ggX3_many_X1_readings : GoodIn wsX3_many wsX1_readings := goodIn_r _ [28, 29, 53] (by decide +kernel) (by decide +kernel)
set_option maxRecDepth 20000 in
theorem gX3_many_X1_readings : GoodIn wsX3_many (wsV RX3 148 RX1 yX1_readings wsX1_readings) := goodIn_app (goodIn_of _ (by decide +kernel)) ggX3_many_X1_readings
set_option maxRecDepth 20000 in
theorem ggX3_many_X3_isWithin : GoodIn wsX3_many wsX3_isWithin := goodIn_r _ [33] (by decide +kernel) (by decide +kernel)
set_option maxRecDepth 20000 in
theorem gX3_many_X3_isWithin : GoodIn wsX3_many (va_wsS RX3 48 yX3_isWithin wsX3_isWithin) := goodIn_app (goodIn_of _ (by decide +kernel)) ggX3_many_X3_isWithin
theorem dX3_many_0 : decode cX3_many 0 = .ok (.iload_n 1, 1) := by decide +kernel
theorem dX3_many_1 : decode cX3_many 1 = .ok (.tableswitch 99 0 6 #[43, 51, 59, 67, 75, 83, 91], 43) := by decide +kernel
theorem dX3_many_44 : decode cX3_many 44 = .ok (.aload_n 0, 1) := by decide +kernel
theorem dX3_many_45 : decode cX3_many 45 = .ok (.getfield 10, 3) := by decide +kernel
theorem dX3_many_48 : decode cX3_many 48 = .ok (.getfield 139, 3) := by decide +kernel
theorem dX3_many_51 : decode cX3_many 51 = .ok (.ireturn, 1) := by decide +kernel
theorem dX3_many_52 : decode cX3_many 52 = .ok (.aload_n 0, 1) := by decide +kernel
theorem dX3_many_53 : decode cX3_many 53 = .ok (.getfield 10, 3) := by decide +kernel
theorem dX3_many_56 : decode cX3_many 56 = .ok (.getfield 163, 3) := by decide +kernel
theorem dX3_many_59 : decode cX3_many 59 = .ok (.ireturn, 1) := by decide +kernel
theorem dX3_many_60 : decode cX3_many 60 = .ok (.aload_n 0, 1) := by decide +kernel
theorem dX3_many_61 : decode cX3_many 61 = .ok (.getfield 10, 3) := by decide +kernel
theorem dX3_many_64 : decode cX3_many 64 = .ok (.getfield 166, 3) := by decide +kernel
theorem dX3_many_67 : decode cX3_many 67 = .ok (.ireturn, 1) := by decide +kernel
theorem dX3_many_68 : decode cX3_many 68 = .ok (.aload_n 0, 1) := by decide +kernel
theorem dX3_many_69 : decode cX3_many 69 = .ok (.getfield 10, 3) := by decide +kernel
theorem dX3_many_72 : decode cX3_many 72 = .ok (.getfield 105, 3) := by decide +kernel
theorem dX3_many_75 : decode cX3_many 75 = .ok (.ireturn, 1) := by decide +kernel
theorem dX3_many_76 : decode cX3_many 76 = .ok (.aload_n 0, 1) := by decide +kernel
theorem dX3_many_77 : decode cX3_many 77 = .ok (.getfield 10, 3) := by decide +kernel
theorem dX3_many_80 : decode cX3_many 80 = .ok (.invokevirtual 169, 3) := by decide +kernel
theorem dX3_many_83 : decode cX3_many 83 = .ok (.ireturn, 1) := by decide +kernel
theorem dX3_many_84 : decode cX3_many 84 = .ok (.aload_n 0, 1) := by decide +kernel
theorem dX3_many_85 : decode cX3_many 85 = .ok (.getfield 10, 3) := by decide +kernel
theorem dX3_many_88 : decode cX3_many 88 = .ok (.invokevirtual 102, 3) := by decide +kernel
theorem dX3_many_91 : decode cX3_many 91 = .ok (.ireturn, 1) := by decide +kernel
theorem dX3_many_92 : decode cX3_many 92 = .ok (.aload_n 0, 1) := by decide +kernel
theorem dX3_many_93 : decode cX3_many 93 = .ok (.getfield 36, 3) := by decide +kernel
theorem dX3_many_96 : decode cX3_many 96 = .ok (.invokevirtual 148, 3) := by decide +kernel
theorem dX3_many_99 : decode cX3_many 99 = .ok (.ireturn, 1) := by decide +kernel
theorem dX3_many_100 : decode cX3_many 100 = .ok (.iload_n 1, 1) := by decide +kernel
theorem dX3_many_101 : decode cX3_many 101 = .ok (.bipush 7, 2) := by decide +kernel
theorem dX3_many_103 : decode cX3_many 103 = .ok (.bipush 9, 2) := by decide +kernel
theorem dX3_many_105 : decode cX3_many 105 = .ok (.invokestatic 48, 3) := by decide +kernel
theorem dX3_many_108 : decode cX3_many 108 = .ok (.ifCond .eq 18, 3) := by decide +kernel
theorem dX3_many_111 : decode cX3_many 111 = .ok (.aload_n 0, 1) := by decide +kernel
theorem dX3_many_112 : decode cX3_many 112 = .ok (.getfield 29, 3) := by decide +kernel
theorem dX3_many_115 : decode cX3_many 115 = .ok (.getfield 91, 3) := by decide +kernel
theorem dX3_many_118 : decode cX3_many 118 = .ok (.iload_n 1, 1) := by decide +kernel
theorem dX3_many_119 : decode cX3_many 119 = .ok (.bipush 7, 2) := by decide +kernel
theorem dX3_many_121 : decode cX3_many 121 = .ok (.isub, 1) := by decide +kernel
theorem dX3_many_122 : decode cX3_many 122 = .ok (.iaload, 1) := by decide +kernel
theorem dX3_many_123 : decode cX3_many 123 = .ok (.goto 4, 3) := by decide +kernel
theorem dX3_many_126 : decode cX3_many 126 = .ok (.iconst (-1), 1) := by decide +kernel
theorem dX3_many_127 : decode cX3_many 127 = .ok (.ireturn, 1) := by decide +kernel
set_option maxRecDepth 20000 in
theorem ggX3_keep_X0_copyFrom : GoodIn wsX3_keep wsX0_copyFrom := goodIn_r _ [8, 9, 10, 11, 12, 13, 14, 15, 16, 25, 26, 27, 28, 29, 30, 31, 32] (by decide +kernel) (by decide +kernel)
set_option maxRecDepth 20000 in
theorem gX3_keep_X0_copyFrom : GoodIn wsX3_keep (wsV RX3 172 RX0 yX0_copyFrom wsX0_copyFrom) := goodIn_app (goodIn_of _ (by decide +kernel)) ggX3_keep_X0_copyFrom
theorem dX3_keep_0 : decode cX3_keep 0 = .ok (.aload_n 0, 1) := by decide +kernel
theorem dX3_keep_1 : decode cX3_keep 1 = .ok (.getfield 19, 3) := by decide +kernel
theorem dX3_keep_4 : decode cX3_keep 4 = .ok (.aload_n 0, 1) := by decide +kernel
theorem dX3_keep_5 : decode cX3_keep 5 = .ok (.getfield 10, 3) := by decide +kernel
theorem dX3_keep_8 : decode cX3_keep 8 = .ok (.invokevirtual 172, 3) := by decide +kernel
theorem dX3_keep_11 : decode cX3_keep 11 = .ok (.aload_n 0, 1) := by decide +kernel
theorem dX3_keep_12 : decode cX3_keep 12 = .ok (.iconst 1, 1) := by decide +kernel
theorem dX3_keep_13 : decode cX3_keep 13 = .ok (.putfield 22, 3) := by decide +kernel
theorem dX3_keep_16 : decode cX3_keep 16 = .ok (.iconst 1, 1) := by decide +kernel
theorem dX3_keep_17 : decode cX3_keep 17 = .ok (.ireturn, 1) := by decide +kernel
set_option maxRecDepth 20000 in
theorem ggX3_back_X0_copyFrom : GoodIn wsX3_back wsX0_copyFrom := goodIn_r _ [9, 10, 11, 12, 13, 14, 15, 16, 17, 26, 27, 28, 29, 30, 31, 32, 33] (by decide +kernel) (by decide +kernel)
set_option maxRecDepth 20000 in
theorem gX3_back_X0_copyFrom : GoodIn wsX3_back (wsV RX3 172 RX0 yX0_copyFrom wsX0_copyFrom) := goodIn_app (goodIn_of _ (by decide +kernel)) ggX3_back_X0_copyFrom
theorem dX3_back_0 : decode cX3_back 0 = .ok (.aload_n 0, 1) := by decide +kernel
theorem dX3_back_1 : decode cX3_back 1 = .ok (.getfield 22, 3) := by decide +kernel
theorem dX3_back_4 : decode cX3_back 4 = .ok (.ifCond .eq 20, 3) := by decide +kernel
theorem dX3_back_7 : decode cX3_back 7 = .ok (.aload_n 0, 1) := by decide +kernel
theorem dX3_back_8 : decode cX3_back 8 = .ok (.getfield 19, 3) := by decide +kernel
theorem dX3_back_11 : decode cX3_back 11 = .ok (.getfield 139, 3) := by decide +kernel
theorem dX3_back_14 : decode cX3_back 14 = .ok (.aload_n 0, 1) := by decide +kernel
theorem dX3_back_15 : decode cX3_back 15 = .ok (.getfield 10, 3) := by decide +kernel
theorem dX3_back_18 : decode cX3_back 18 = .ok (.getfield 139, 3) := by decide +kernel
theorem dX3_back_21 : decode cX3_back 21 = .ok (.if_icmp .eq 6, 3) := by decide +kernel
theorem dX3_back_24 : decode cX3_back 24 = .ok (.bipush (-3), 2) := by decide +kernel
theorem dX3_back_26 : decode cX3_back 26 = .ok (.ireturn, 1) := by decide +kernel
theorem dX3_back_27 : decode cX3_back 27 = .ok (.aload_n 0, 1) := by decide +kernel
theorem dX3_back_28 : decode cX3_back 28 = .ok (.getfield 10, 3) := by decide +kernel
theorem dX3_back_31 : decode cX3_back 31 = .ok (.aload_n 0, 1) := by decide +kernel
theorem dX3_back_32 : decode cX3_back 32 = .ok (.getfield 19, 3) := by decide +kernel
theorem dX3_back_35 : decode cX3_back 35 = .ok (.invokevirtual 172, 3) := by decide +kernel
theorem dX3_back_38 : decode cX3_back 38 = .ok (.iconst 1, 1) := by decide +kernel
theorem dX3_back_39 : decode cX3_back 39 = .ok (.ireturn, 1) := by decide +kernel
theorem dX3_isWithin_0 : decode cX3_isWithin 0 = .ok (.iload_n 0, 1) := by decide +kernel
theorem dX3_isWithin_1 : decode cX3_isWithin 1 = .ok (.iload_n 1, 1) := by decide +kernel
theorem dX3_isWithin_2 : decode cX3_isWithin 2 = .ok (.if_icmp .lt 12, 3) := by decide +kernel
theorem dX3_isWithin_5 : decode cX3_isWithin 5 = .ok (.iload_n 0, 1) := by decide +kernel
theorem dX3_isWithin_6 : decode cX3_isWithin 6 = .ok (.iload_n 2, 1) := by decide +kernel
theorem dX3_isWithin_7 : decode cX3_isWithin 7 = .ok (.if_icmp .gt 7, 3) := by decide +kernel
theorem dX3_isWithin_10 : decode cX3_isWithin 10 = .ok (.iconst 1, 1) := by decide +kernel
theorem dX3_isWithin_11 : decode cX3_isWithin 11 = .ok (.goto 4, 3) := by decide +kernel
theorem dX3_isWithin_14 : decode cX3_isWithin 14 = .ok (.iconst 0, 1) := by decide +kernel
theorem dX3_isWithin_15 : decode cX3_isWithin 15 = .ok (.ireturn, 1) := by decide +kernel
theorem dX3_mostOf_0 : decode cX3_mostOf 0 = .ok (.iload_n 0, 1) := by decide +kernel
theorem dX3_mostOf_1 : decode cX3_mostOf 1 = .ok (.ifCond .ne 6, 3) := by decide +kernel
theorem dX3_mostOf_4 : decode cX3_mostOf 4 = .ok (.bipush 99, 2) := by decide +kernel
theorem dX3_mostOf_6 : decode cX3_mostOf 6 = .ok (.ireturn, 1) := by decide +kernel
theorem dX3_mostOf_7 : decode cX3_mostOf 7 = .ok (.iload_n 0, 1) := by decide +kernel
theorem dX3_mostOf_8 : decode cX3_mostOf 8 = .ok (.iconst 1, 1) := by decide +kernel
theorem dX3_mostOf_9 : decode cX3_mostOf 9 = .ok (.if_icmp .ne 8, 3) := by decide +kernel
theorem dX3_mostOf_12 : decode cX3_mostOf 12 = .ok (.bipush 9, 2) := by decide +kernel
theorem dX3_mostOf_14 : decode cX3_mostOf 14 = .ok (.goto 5, 3) := by decide +kernel
theorem dX3_mostOf_17 : decode cX3_mostOf 17 = .ok (.bipush 20, 2) := by decide +kernel
theorem dX3_mostOf_19 : decode cX3_mostOf 19 = .ok (.ireturn, 1) := by decide +kernel
set_option maxRecDepth 20000 in
theorem ggX3_isWeather_X3_isWithin : GoodIn wsX3_isWeather wsX3_isWithin := goodIn_r _ [4] (by decide +kernel) (by decide +kernel)
set_option maxRecDepth 20000 in
theorem gX3_isWeather_X3_isWithin : GoodIn wsX3_isWeather (va_wsS RX3 48 yX3_isWithin wsX3_isWithin) := goodIn_app (goodIn_of _ (by decide +kernel)) ggX3_isWeather_X3_isWithin
theorem dX3_isWeather_0 : decode cX3_isWeather 0 = .ok (.iload_n 0, 1) := by decide +kernel
theorem dX3_isWeather_1 : decode cX3_isWeather 1 = .ok (.iconst 0, 1) := by decide +kernel
theorem dX3_isWeather_2 : decode cX3_isWeather 2 = .ok (.iconst 2, 1) := by decide +kernel
theorem dX3_isWeather_3 : decode cX3_isWeather 3 = .ok (.invokestatic 48, 3) := by decide +kernel
theorem dX3_isWeather_6 : decode cX3_isWeather 6 = .ok (.ireturn, 1) := by decide +kernel
set_option maxRecDepth 20000 in
theorem ggX3_isEvent_X3_isWithin : GoodIn wsX3_isEvent wsX3_isWithin := goodIn_r _ [4] (by decide +kernel) (by decide +kernel)
set_option maxRecDepth 20000 in
theorem gX3_isEvent_X3_isWithin : GoodIn wsX3_isEvent (va_wsS RX3 48 yX3_isWithin wsX3_isWithin) := goodIn_app (goodIn_of _ (by decide +kernel)) ggX3_isEvent_X3_isWithin
theorem dX3_isEvent_0 : decode cX3_isEvent 0 = .ok (.iload_n 0, 1) := by decide +kernel
theorem dX3_isEvent_1 : decode cX3_isEvent 1 = .ok (.lookupswitch 43 #[(0, 27), (1, 35)], 27) := by decide +kernel
theorem dX3_isEvent_28 : decode cX3_isEvent 28 = .ok (.iload_n 1, 1) := by decide +kernel
theorem dX3_isEvent_29 : decode cX3_isEvent 29 = .ok (.iconst 1, 1) := by decide +kernel
theorem dX3_isEvent_30 : decode cX3_isEvent 30 = .ok (.bipush 9, 2) := by decide +kernel
theorem dX3_isEvent_32 : decode cX3_isEvent 32 = .ok (.invokestatic 48, 3) := by decide +kernel
theorem dX3_isEvent_35 : decode cX3_isEvent 35 = .ok (.ireturn, 1) := by decide +kernel
theorem dX3_isEvent_36 : decode cX3_isEvent 36 = .ok (.iload_n 1, 1) := by decide +kernel
theorem dX3_isEvent_37 : decode cX3_isEvent 37 = .ok (.iconst 1, 1) := by decide +kernel
theorem dX3_isEvent_38 : decode cX3_isEvent 38 = .ok (.bipush 99, 2) := by decide +kernel
theorem dX3_isEvent_40 : decode cX3_isEvent 40 = .ok (.invokestatic 48, 3) := by decide +kernel
theorem dX3_isEvent_43 : decode cX3_isEvent 43 = .ok (.ireturn, 1) := by decide +kernel
theorem dX3_isEvent_44 : decode cX3_isEvent 44 = .ok (.iload_n 0, 1) := by decide +kernel
theorem dX3_isEvent_45 : decode cX3_isEvent 45 = .ok (.iconst 2, 1) := by decide +kernel
theorem dX3_isEvent_46 : decode cX3_isEvent 46 = .ok (.if_icmp .ne 7, 3) := by decide +kernel
theorem dX3_isEvent_49 : decode cX3_isEvent 49 = .ok (.iconst 1, 1) := by decide +kernel
theorem dX3_isEvent_50 : decode cX3_isEvent 50 = .ok (.goto 4, 3) := by decide +kernel
theorem dX3_isEvent_53 : decode cX3_isEvent 53 = .ok (.iconst 0, 1) := by decide +kernel
theorem dX3_isEvent_54 : decode cX3_isEvent 54 = .ok (.ireturn, 1) := by decide +kernel
set_option maxRecDepth 20000 in
theorem ggX3_isAim_X3_isWithin : GoodIn wsX3_isAim wsX3_isWithin := goodIn_r _ [4] (by decide +kernel) (by decide +kernel)
set_option maxRecDepth 20000 in
theorem gX3_isAim_X3_isWithin : GoodIn wsX3_isAim (va_wsS RX3 48 yX3_isWithin wsX3_isWithin) := goodIn_app (goodIn_of _ (by decide +kernel)) ggX3_isAim_X3_isWithin
theorem dX3_isAim_0 : decode cX3_isAim 0 = .ok (.iload_n 0, 1) := by decide +kernel
theorem dX3_isAim_1 : decode cX3_isAim 1 = .ok (.iconst 0, 1) := by decide +kernel
theorem dX3_isAim_2 : decode cX3_isAim 2 = .ok (.bipush 99, 2) := by decide +kernel
theorem dX3_isAim_4 : decode cX3_isAim 4 = .ok (.invokestatic 48, 3) := by decide +kernel
theorem dX3_isAim_7 : decode cX3_isAim 7 = .ok (.ireturn, 1) := by decide +kernel
set_option maxRecDepth 20000 in
theorem ggX3_isFractionPart_X3_isWithin : GoodIn wsX3_isFractionPart wsX3_isWithin := goodIn_r _ [4] (by decide +kernel) (by decide +kernel)
set_option maxRecDepth 20000 in
theorem gX3_isFractionPart_X3_isWithin : GoodIn wsX3_isFractionPart (va_wsS RX3 48 yX3_isWithin wsX3_isWithin) := goodIn_app (goodIn_of _ (by decide +kernel)) ggX3_isFractionPart_X3_isWithin
theorem dX3_isFractionPart_0 : decode cX3_isFractionPart 0 = .ok (.iload_n 0, 1) := by decide +kernel
theorem dX3_isFractionPart_1 : decode cX3_isFractionPart 1 = .ok (.iconst 0, 1) := by decide +kernel
theorem dX3_isFractionPart_2 : decode cX3_isFractionPart 2 = .ok (.iconst 1, 1) := by decide +kernel
theorem dX3_isFractionPart_3 : decode cX3_isFractionPart 3 = .ok (.invokestatic 48, 3) := by decide +kernel
theorem dX3_isFractionPart_6 : decode cX3_isFractionPart 6 = .ok (.ireturn, 1) := by decide +kernel
set_option maxRecDepth 20000 in
theorem ggX3_isCellOrNone_X0_has : GoodIn wsX3_isCellOrNone wsX0_has := goodIn_r _ [6, 7, 16, 17, 18, 19, 20, 21, 22, 23] (by decide +kernel) (by decide +kernel)
set_option maxRecDepth 20000 in
theorem gX3_isCellOrNone_X0_has : GoodIn wsX3_isCellOrNone (wsV RX3 59 RX0 yX0_has wsX0_has) := goodIn_app (goodIn_of _ (by decide +kernel)) ggX3_isCellOrNone_X0_has
theorem dX3_isCellOrNone_0 : decode cX3_isCellOrNone 0 = .ok (.iload_n 1, 1) := by decide +kernel
theorem dX3_isCellOrNone_1 : decode cX3_isCellOrNone 1 = .ok (.iconst (-1), 1) := by decide +kernel
theorem dX3_isCellOrNone_2 : decode cX3_isCellOrNone 2 = .ok (.if_icmp .eq 14, 3) := by decide +kernel
theorem dX3_isCellOrNone_5 : decode cX3_isCellOrNone 5 = .ok (.aload_n 0, 1) := by decide +kernel
theorem dX3_isCellOrNone_6 : decode cX3_isCellOrNone 6 = .ok (.getfield 10, 3) := by decide +kernel
theorem dX3_isCellOrNone_9 : decode cX3_isCellOrNone 9 = .ok (.iload_n 1, 1) := by decide +kernel
theorem dX3_isCellOrNone_10 : decode cX3_isCellOrNone 10 = .ok (.invokevirtual 59, 3) := by decide +kernel
theorem dX3_isCellOrNone_13 : decode cX3_isCellOrNone 13 = .ok (.ifCond .eq 7, 3) := by decide +kernel
theorem dX3_isCellOrNone_16 : decode cX3_isCellOrNone 16 = .ok (.iconst 1, 1) := by decide +kernel
theorem dX3_isCellOrNone_17 : decode cX3_isCellOrNone 17 = .ok (.goto 4, 3) := by decide +kernel
theorem dX3_isCellOrNone_20 : decode cX3_isCellOrNone 20 = .ok (.iconst 0, 1) := by decide +kernel
theorem dX3_isCellOrNone_21 : decode cX3_isCellOrNone 21 = .ok (.ireturn, 1) := by decide +kernel
set_option maxRecDepth 20000 in
theorem ggX3_tryOut_X3_isWeather : GoodIn wsX3_tryOut wsX3_isWeather := goodIn_r _ [5, 6, 7, 4, 8] (by decide +kernel) (by decide +kernel)
set_option maxRecDepth 20000 in
theorem gX3_tryOut_X3_isWeather : GoodIn wsX3_tryOut (va_wsS RX3 84 yX3_isWeather wsX3_isWeather) := goodIn_app (goodIn_of _ (by decide +kernel)) ggX3_tryOut_X3_isWeather
set_option maxRecDepth 20000 in
theorem ggX3_tryOut_X3_isCellOrNone : GoodIn wsX3_tryOut wsX3_isCellOrNone := goodIn_r _ [12, 13, 14, 15, 16, 17, 18, 19, 77, 78, 79, 80, 81, 82, 83, 84, 85, 86, 87, 88, 89, 90, 91, 92] (by decide +kernel) (by decide +kernel)
set_option maxRecDepth 20000 in
theorem gX3_tryOut_X3_isCellOrNone : GoodIn wsX3_tryOut (wsV RX3 176 RX3 yX3_isCellOrNone wsX3_isCellOrNone) := goodIn_app (goodIn_of _ (by decide +kernel)) ggX3_tryOut_X3_isCellOrNone
set_option maxRecDepth 20000 in
theorem ggX3_tryOut_X3_play : GoodIn wsX3_tryOut wsX3_play := goodIn_r _ [23, 24, 13, 25, 26, 27, 28, 29, 30, 31, 32, 17, 33, 19, 34, 35, 36, 37, 38, 39, 40, 41, 42, 43, 4, 44, 1, 45, 46, 14, 15, 16, 18, 47, 48, 49, 50, 51, 52, 53, 54, 55, 56, 57, 58, 59, 60, 61, 62, 63, 64, 65, 66, 67, 68, 69, 70, 71, 72, 73, 74, 75, 76, 7, 8, 77, 78, 79, 80, 81, 82, 83, 84, 85, 86, 87, 88, 89, 90, 91, 92, 93, 94, 95] (by decide +kernel) (by decide +kernel)
set_option maxRecDepth 20000 in
theorem gX3_tryOut_X3_play : GoodIn wsX3_tryOut (wsV RX3 179 RX3 yX3_play wsX3_play) := goodIn_app (goodIn_of _ (by decide +kernel)) ggX3_tryOut_X3_play
theorem dX3_tryOut_0 : decode cX3_tryOut 0 = .ok (.iload_n 1, 1) := by decide +kernel
theorem dX3_tryOut_1 : decode cX3_tryOut 1 = .ok (.invokestatic 84, 3) := by decide +kernel
theorem dX3_tryOut_4 : decode cX3_tryOut 4 = .ok (.ifCond .eq 28, 3) := by decide +kernel
theorem dX3_tryOut_7 : decode cX3_tryOut 7 = .ok (.aload_n 0, 1) := by decide +kernel
theorem dX3_tryOut_8 : decode cX3_tryOut 8 = .ok (.iload_n 2, 1) := by decide +kernel
theorem dX3_tryOut_9 : decode cX3_tryOut 9 = .ok (.invokevirtual 176, 3) := by decide +kernel
theorem dX3_tryOut_12 : decode cX3_tryOut 12 = .ok (.ifCond .eq 20, 3) := by decide +kernel
theorem dX3_tryOut_15 : decode cX3_tryOut 15 = .ok (.aload_n 0, 1) := by decide +kernel
theorem dX3_tryOut_16 : decode cX3_tryOut 16 = .ok (.iload_n 3, 1) := by decide +kernel
theorem dX3_tryOut_17 : decode cX3_tryOut 17 = .ok (.invokevirtual 176, 3) := by decide +kernel
theorem dX3_tryOut_20 : decode cX3_tryOut 20 = .ok (.ifCond .eq 12, 3) := by decide +kernel
theorem dX3_tryOut_23 : decode cX3_tryOut 23 = .ok (.aload_n 0, 1) := by decide +kernel
theorem dX3_tryOut_24 : decode cX3_tryOut 24 = .ok (.iload 4, 2) := by decide +kernel
theorem dX3_tryOut_26 : decode cX3_tryOut 26 = .ok (.invokevirtual 176, 3) := by decide +kernel
theorem dX3_tryOut_29 : decode cX3_tryOut 29 = .ok (.ifCond .ne 5, 3) := by decide +kernel
theorem dX3_tryOut_32 : decode cX3_tryOut 32 = .ok (.iconst 0, 1) := by decide +kernel
theorem dX3_tryOut_33 : decode cX3_tryOut 33 = .ok (.ireturn, 1) := by decide +kernel
theorem dX3_tryOut_34 : decode cX3_tryOut 34 = .ok (.aload_n 0, 1) := by decide +kernel
theorem dX3_tryOut_35 : decode cX3_tryOut 35 = .ok (.getfield 44, 3) := by decide +kernel
theorem dX3_tryOut_38 : decode cX3_tryOut 38 = .ok (.iconst 0, 1) := by decide +kernel
theorem dX3_tryOut_39 : decode cX3_tryOut 39 = .ok (.iload_n 2, 1) := by decide +kernel
theorem dX3_tryOut_40 : decode cX3_tryOut 40 = .ok (.iastore, 1) := by decide +kernel
theorem dX3_tryOut_41 : decode cX3_tryOut 41 = .ok (.aload_n 0, 1) := by decide +kernel
theorem dX3_tryOut_42 : decode cX3_tryOut 42 = .ok (.getfield 44, 3) := by decide +kernel
theorem dX3_tryOut_45 : decode cX3_tryOut 45 = .ok (.iconst 1, 1) := by decide +kernel
theorem dX3_tryOut_46 : decode cX3_tryOut 46 = .ok (.iload_n 3, 1) := by decide +kernel
theorem dX3_tryOut_47 : decode cX3_tryOut 47 = .ok (.iastore, 1) := by decide +kernel
theorem dX3_tryOut_48 : decode cX3_tryOut 48 = .ok (.aload_n 0, 1) := by decide +kernel
theorem dX3_tryOut_49 : decode cX3_tryOut 49 = .ok (.getfield 44, 3) := by decide +kernel
theorem dX3_tryOut_52 : decode cX3_tryOut 52 = .ok (.iconst 2, 1) := by decide +kernel
theorem dX3_tryOut_53 : decode cX3_tryOut 53 = .ok (.iload 4, 2) := by decide +kernel
theorem dX3_tryOut_55 : decode cX3_tryOut 55 = .ok (.iastore, 1) := by decide +kernel
theorem dX3_tryOut_56 : decode cX3_tryOut 56 = .ok (.aload_n 0, 1) := by decide +kernel
theorem dX3_tryOut_57 : decode cX3_tryOut 57 = .ok (.iload_n 1, 1) := by decide +kernel
theorem dX3_tryOut_58 : decode cX3_tryOut 58 = .ok (.invokevirtual 179, 3) := by decide +kernel
theorem dX3_tryOut_61 : decode cX3_tryOut 61 = .ok (.iconst 1, 1) := by decide +kernel
theorem dX3_tryOut_62 : decode cX3_tryOut 62 = .ok (.ireturn, 1) := by decide +kernel
set_option maxRecDepth 20000 in
theorem ggX3_play_X0_copyFrom : GoodIn wsX3_play wsX0_copyFrom := goodIn_r _ [12, 13, 14, 15, 16, 17, 18, 19, 20, 73, 74, 75, 76, 77, 78, 79, 80] (by decide +kernel) (by decide +kernel)
set_option maxRecDepth 20000 in
theorem gX3_play_X0_copyFrom : GoodIn wsX3_play (wsV RX3 172 RX0 yX0_copyFrom wsX0_copyFrom) := goodIn_app (goodIn_of _ (by decide +kernel)) ggX3_play_X0_copyFrom
set_option maxRecDepth 20000 in
theorem ggX3_play_X3_beginYear : GoodIn wsX3_play wsX3_beginYear := goodIn_r _ [25, 1, 26, 27, 28, 29, 30, 31, 11, 32, 13, 65, 66, 67, 68, 69, 70, 71, 72, 73, 74, 75, 76, 77, 78, 79, 80] (by decide +kernel) (by decide +kernel)
set_option maxRecDepth 20000 in
theorem gX3_play_X3_beginYear : GoodIn wsX3_play (wsV RX3 182 RX3 yX3_beginYear wsX3_beginYear) := goodIn_app (goodIn_of _ (by decide +kernel)) ggX3_play_X3_beginYear
set_option maxRecDepth 20000 in
theorem ggX3_play_X0_blow : GoodIn wsX3_play wsX0_blow := goodIn_r _ [36, 13, 14, 15, 37, 38, 39, 40, 41, 42, 43, 19, 44, 45, 46, 11, 47, 16, 17, 73, 74, 75, 76, 77, 78, 79, 80] (by decide +kernel) (by decide +kernel)
set_option maxRecDepth 20000 in
theorem gX3_play_X0_blow : GoodIn wsX3_play (wsV RX3 71 RX0 yX0_blow wsX0_blow) := goodIn_app (goodIn_of _ (by decide +kernel)) ggX3_play_X0_blow
set_option maxRecDepth 20000 in
theorem ggX3_play_X0_surge : GoodIn wsX3_play wsX0_surge := goodIn_r _ [51, 13, 14, 15, 16, 20, 52, 53, 54, 11, 55, 18, 73, 74, 75, 76, 77, 78, 79, 80] (by decide +kernel) (by decide +kernel)
set_option maxRecDepth 20000 in
theorem gX3_play_X0_surge : GoodIn wsX3_play (wsV RX3 74 RX0 yX0_surge wsX0_surge) := goodIn_app (goodIn_of _ (by decide +kernel)) ggX3_play_X0_surge
set_option maxRecDepth 20000 in
theorem ggX3_play_X0_endYear : GoodIn wsX3_play wsX0_endYear := goodIn_r _ [59, 13, 15, 17, 60, 61, 11, 62, 41, 42, 39, 43, 63, 24, 64, 73, 74, 75, 76, 77, 78, 79, 80] (by decide +kernel) (by decide +kernel)
set_option maxRecDepth 20000 in
theorem gX3_play_X0_endYear : GoodIn wsX3_play (wsV RX3 77 RX0 yX0_endYear wsX0_endYear) := goodIn_app (goodIn_of _ (by decide +kernel)) ggX3_play_X0_endYear
theorem dX3_play_0 : decode cX3_play 0 = .ok (.aload_n 0, 1) := by decide +kernel
theorem dX3_play_1 : decode cX3_play 1 = .ok (.getfield 16, 3) := by decide +kernel
theorem dX3_play_4 : decode cX3_play 4 = .ok (.aload_n 0, 1) := by decide +kernel
theorem dX3_play_5 : decode cX3_play 5 = .ok (.getfield 10, 3) := by decide +kernel
theorem dX3_play_8 : decode cX3_play 8 = .ok (.invokevirtual 172, 3) := by decide +kernel
theorem dX3_play_11 : decode cX3_play 11 = .ok (.aload_n 0, 1) := by decide +kernel
theorem dX3_play_12 : decode cX3_play 12 = .ok (.getfield 16, 3) := by decide +kernel
theorem dX3_play_15 : decode cX3_play 15 = .ok (.iconst 0, 1) := by decide +kernel
theorem dX3_play_16 : decode cX3_play 16 = .ok (.putfield 105, 3) := by decide +kernel
theorem dX3_play_19 : decode cX3_play 19 = .ok (.iconst 0, 1) := by decide +kernel
theorem dX3_play_20 : decode cX3_play 20 = .ok (.istore_n 2, 1) := by decide +kernel
theorem dX3_play_21 : decode cX3_play 21 = .ok (.aload_n 0, 1) := by decide +kernel
theorem dX3_play_22 : decode cX3_play 22 = .ok (.iload_n 2, 1) := by decide +kernel
theorem dX3_play_23 : decode cX3_play 23 = .ok (.invokevirtual 182, 3) := by decide +kernel
theorem dX3_play_26 : decode cX3_play 26 = .ok (.iconst 0, 1) := by decide +kernel
theorem dX3_play_27 : decode cX3_play 27 = .ok (.istore_n 3, 1) := by decide +kernel
theorem dX3_play_28 : decode cX3_play 28 = .ok (.iload_n 3, 1) := by decide +kernel
theorem dX3_play_29 : decode cX3_play 29 = .ok (.aload_n 0, 1) := by decide +kernel
theorem dX3_play_30 : decode cX3_play 30 = .ok (.getfield 29, 3) := by decide +kernel
theorem dX3_play_33 : decode cX3_play 33 = .ok (.getfield 91, 3) := by decide +kernel
theorem dX3_play_36 : decode cX3_play 36 = .ok (.iload_n 1, 1) := by decide +kernel
theorem dX3_play_37 : decode cX3_play 37 = .ok (.iaload, 1) := by decide +kernel
theorem dX3_play_38 : decode cX3_play 38 = .ok (.if_icmp .ge 102, 3) := by decide +kernel
theorem dX3_play_41 : decode cX3_play 41 = .ok (.aload_n 0, 1) := by decide +kernel
theorem dX3_play_42 : decode cX3_play 42 = .ok (.getfield 29, 3) := by decide +kernel
theorem dX3_play_45 : decode cX3_play 45 = .ok (.getfield 185, 3) := by decide +kernel
theorem dX3_play_48 : decode cX3_play 48 = .ok (.iload_n 1, 1) := by decide +kernel
theorem dX3_play_49 : decode cX3_play 49 = .ok (.aaload, 1) := by decide +kernel
theorem dX3_play_50 : decode cX3_play 50 = .ok (.iload_n 3, 1) := by decide +kernel
theorem dX3_play_51 : decode cX3_play 51 = .ok (.iaload, 1) := by decide +kernel
theorem dX3_play_52 : decode cX3_play 52 = .ok (.istore 4, 2) := by decide +kernel
theorem dX3_play_54 : decode cX3_play 54 = .ok (.aload_n 0, 1) := by decide +kernel
theorem dX3_play_55 : decode cX3_play 55 = .ok (.getfield 29, 3) := by decide +kernel
theorem dX3_play_58 : decode cX3_play 58 = .ok (.getfield 189, 3) := by decide +kernel
theorem dX3_play_61 : decode cX3_play 61 = .ok (.iload_n 1, 1) := by decide +kernel
theorem dX3_play_62 : decode cX3_play 62 = .ok (.aaload, 1) := by decide +kernel
theorem dX3_play_63 : decode cX3_play 63 = .ok (.iload_n 3, 1) := by decide +kernel
theorem dX3_play_64 : decode cX3_play 64 = .ok (.iaload, 1) := by decide +kernel
theorem dX3_play_65 : decode cX3_play 65 = .ok (.lookupswitch 53 #[(0, 27), (1, 40)], 27) := by decide +kernel
theorem dX3_play_92 : decode cX3_play 92 = .ok (.aload_n 0, 1) := by decide +kernel
theorem dX3_play_93 : decode cX3_play 93 = .ok (.getfield 16, 3) := by decide +kernel
theorem dX3_play_96 : decode cX3_play 96 = .ok (.iload 4, 2) := by decide +kernel
theorem dX3_play_98 : decode cX3_play 98 = .ok (.invokevirtual 71, 3) := by decide +kernel
theorem dX3_play_101 : decode cX3_play 101 = .ok (.pop, 1) := by decide +kernel
theorem dX3_play_102 : decode cX3_play 102 = .ok (.goto 32, 3) := by decide +kernel
theorem dX3_play_105 : decode cX3_play 105 = .ok (.aload_n 0, 1) := by decide +kernel
theorem dX3_play_106 : decode cX3_play 106 = .ok (.getfield 16, 3) := by decide +kernel
theorem dX3_play_109 : decode cX3_play 109 = .ok (.iload 4, 2) := by decide +kernel
theorem dX3_play_111 : decode cX3_play 111 = .ok (.invokevirtual 74, 3) := by decide +kernel
theorem dX3_play_114 : decode cX3_play 114 = .ok (.pop, 1) := by decide +kernel
theorem dX3_play_115 : decode cX3_play 115 = .ok (.goto 19, 3) := by decide +kernel
theorem dX3_play_118 : decode cX3_play 118 = .ok (.aload_n 0, 1) := by decide +kernel
theorem dX3_play_119 : decode cX3_play 119 = .ok (.getfield 16, 3) := by decide +kernel
theorem dX3_play_122 : decode cX3_play 122 = .ok (.invokevirtual 77, 3) := by decide +kernel
theorem dX3_play_125 : decode cX3_play 125 = .ok (.pop, 1) := by decide +kernel
theorem dX3_play_126 : decode cX3_play 126 = .ok (.iinc 2 1, 3) := by decide +kernel
theorem dX3_play_129 : decode cX3_play 129 = .ok (.aload_n 0, 1) := by decide +kernel
theorem dX3_play_130 : decode cX3_play 130 = .ok (.iload_n 2, 1) := by decide +kernel
theorem dX3_play_131 : decode cX3_play 131 = .ok (.invokevirtual 182, 3) := by decide +kernel
theorem dX3_play_134 : decode cX3_play 134 = .ok (.iinc 3 1, 3) := by decide +kernel
theorem dX3_play_137 : decode cX3_play 137 = .ok (.goto (-109), 3) := by decide +kernel
theorem dX3_play_140 : decode cX3_play 140 = .ok (.return_, 1) := by decide +kernel
set_option maxRecDepth 20000 in
theorem ggX3_beginYear_X0_has : GoodIn wsX3_beginYear wsX0_has := goodIn_r _ [9, 10, 19, 20, 21, 22, 23, 24, 25, 26] (by decide +kernel) (by decide +kernel)
set_option maxRecDepth 20000 in
theorem gX3_beginYear_X0_has : GoodIn wsX3_beginYear (wsV RX3 59 RX0 yX0_has wsX0_has) := goodIn_app (goodIn_of _ (by decide +kernel)) ggX3_beginYear_X0_has
theorem dX3_beginYear_0 : decode cX3_beginYear 0 = .ok (.iload_n 1, 1) := by decide +kernel
theorem dX3_beginYear_1 : decode cX3_beginYear 1 = .ok (.iconst 3, 1) := by decide +kernel
theorem dX3_beginYear_2 : decode cX3_beginYear 2 = .ok (.if_icmp .ge 37, 3) := by decide +kernel
theorem dX3_beginYear_5 : decode cX3_beginYear 5 = .ok (.aload_n 0, 1) := by decide +kernel
theorem dX3_beginYear_6 : decode cX3_beginYear 6 = .ok (.getfield 16, 3) := by decide +kernel
theorem dX3_beginYear_9 : decode cX3_beginYear 9 = .ok (.aload_n 0, 1) := by decide +kernel
theorem dX3_beginYear_10 : decode cX3_beginYear 10 = .ok (.getfield 44, 3) := by decide +kernel
theorem dX3_beginYear_13 : decode cX3_beginYear 13 = .ok (.iload_n 1, 1) := by decide +kernel
theorem dX3_beginYear_14 : decode cX3_beginYear 14 = .ok (.iaload, 1) := by decide +kernel
theorem dX3_beginYear_15 : decode cX3_beginYear 15 = .ok (.invokevirtual 59, 3) := by decide +kernel
theorem dX3_beginYear_18 : decode cX3_beginYear 18 = .ok (.ifCond .eq 21, 3) := by decide +kernel
theorem dX3_beginYear_21 : decode cX3_beginYear 21 = .ok (.aload_n 0, 1) := by decide +kernel
theorem dX3_beginYear_22 : decode cX3_beginYear 22 = .ok (.getfield 16, 3) := by decide +kernel
theorem dX3_beginYear_25 : decode cX3_beginYear 25 = .ok (.getfield 192, 3) := by decide +kernel
theorem dX3_beginYear_28 : decode cX3_beginYear 28 = .ok (.aload_n 0, 1) := by decide +kernel
theorem dX3_beginYear_29 : decode cX3_beginYear 29 = .ok (.getfield 44, 3) := by decide +kernel
theorem dX3_beginYear_32 : decode cX3_beginYear 32 = .ok (.iload_n 1, 1) := by decide +kernel
theorem dX3_beginYear_33 : decode cX3_beginYear 33 = .ok (.iaload, 1) := by decide +kernel
theorem dX3_beginYear_34 : decode cX3_beginYear 34 = .ok (.aload_n 0, 1) := by decide +kernel
theorem dX3_beginYear_35 : decode cX3_beginYear 35 = .ok (.getfield 40, 3) := by decide +kernel
theorem dX3_beginYear_38 : decode cX3_beginYear 38 = .ok (.iastore, 1) := by decide +kernel
theorem dX3_beginYear_39 : decode cX3_beginYear 39 = .ok (.return_, 1) := by decide +kernel
set_option maxRecDepth 20000 in
theorem ggX3_findPlan_X2_lastYear : GoodIn wsX3_findPlan wsX2_lastYear := goodIn_r _ [6, 7, 8, 9, 10, 11, 12, 13, 5, 14, 15, 16, 106, 107, 108] (by decide +kernel) (by decide +kernel)
set_option maxRecDepth 20000 in
theorem gX3_findPlan_X2_lastYear : GoodIn wsX3_findPlan (wsV RX3 121 RX2 yX2_lastYear wsX2_lastYear) := goodIn_app (goodIn_of _ (by decide +kernel)) ggX3_findPlan_X2_lastYear
set_option maxRecDepth 20000 in
theorem ggX3_findPlan_X3_choosePlan : GoodIn wsX3_findPlan wsX3_choosePlan := goodIn_r _ [21, 22, 23, 24, 25, 26, 27, 28, 29, 98, 99, 100, 101, 102, 103, 104, 105, 109, 110, 111, 112, 113, 114, 115, 116] (by decide +kernel) (by decide +kernel)
set_option maxRecDepth 20000 in
theorem gX3_findPlan_X3_choosePlan : GoodIn wsX3_findPlan (wsV RX3 124 RX3 yX3_choosePlan wsX3_choosePlan) := goodIn_app (goodIn_of _ (by decide +kernel)) ggX3_findPlan_X3_choosePlan
set_option maxRecDepth 20000 in
theorem ggX3_findPlan_X3_plannedFences : GoodIn wsX3_findPlan wsX3_plannedFences := goodIn_r _ [33, 22, 98, 99, 100, 101, 102, 103, 104, 105] (by decide +kernel) (by decide +kernel)
set_option maxRecDepth 20000 in
theorem gX3_findPlan_X3_plannedFences : GoodIn wsX3_findPlan (wsV RX3 114 RX3 yX3_plannedFences wsX3_plannedFences) := goodIn_app (goodIn_of _ (by decide +kernel)) ggX3_findPlan_X3_plannedFences
set_option maxRecDepth 20000 in
theorem ggX3_findPlan_X3_worstCrest : GoodIn wsX3_findPlan wsX3_worstCrest := goodIn_r _ [37, 1, 38, 39, 40, 41, 9, 42, 43, 44, 45, 46, 20, 47, 23, 48, 49, 50, 51, 52, 27, 53, 29, 54, 55, 56, 57, 58, 59, 60, 61, 62, 63, 64, 22, 65, 66, 24, 25, 26, 28, 67, 68, 69, 70, 71, 8, 10, 72, 73, 74, 75, 76, 77, 78, 79, 80, 81, 82, 83, 84, 85, 86, 87, 88, 89, 90, 91, 92, 93, 94, 95, 96, 97, 98, 99, 100, 101, 102, 103, 104, 105, 106, 107, 108, 109, 110, 111, 112, 113, 114, 115, 116] (by decide +kernel) (by decide +kernel)
set_option maxRecDepth 20000 in
theorem gX3_findPlan_X3_worstCrest : GoodIn wsX3_findPlan (wsV RX3 127 RX3 yX3_worstCrest wsX3_worstCrest) := goodIn_app (goodIn_of _ (by decide +kernel)) ggX3_findPlan_X3_worstCrest
theorem dX3_findPlan_0 : decode cX3_findPlan 0 = .ok (.aload_n 0, 1) := by decide +kernel
theorem dX3_findPlan_1 : decode cX3_findPlan 1 = .ok (.getfield 29, 3) := by decide +kernel
theorem dX3_findPlan_4 : decode cX3_findPlan 4 = .ok (.invokevirtual 121, 3) := by decide +kernel
theorem dX3_findPlan_7 : decode cX3_findPlan 7 = .ok (.istore_n 2, 1) := by decide +kernel
theorem dX3_findPlan_8 : decode cX3_findPlan 8 = .ok (.iconst 0, 1) := by decide +kernel
theorem dX3_findPlan_9 : decode cX3_findPlan 9 = .ok (.istore_n 3, 1) := by decide +kernel
theorem dX3_findPlan_10 : decode cX3_findPlan 10 = .ok (.iload_n 3, 1) := by decide +kernel
theorem dX3_findPlan_11 : decode cX3_findPlan 11 = .ok (.iconst 3, 1) := by decide +kernel
theorem dX3_findPlan_12 : decode cX3_findPlan 12 = .ok (.if_icmp .gt 55, 3) := by decide +kernel
theorem dX3_findPlan_15 : decode cX3_findPlan 15 = .ok (.iconst 0, 1) := by decide +kernel
theorem dX3_findPlan_16 : decode cX3_findPlan 16 = .ok (.istore 4, 2) := by decide +kernel
theorem dX3_findPlan_18 : decode cX3_findPlan 18 = .ok (.iload 4, 2) := by decide +kernel
theorem dX3_findPlan_20 : decode cX3_findPlan 20 = .ok (.sipush 512, 3) := by decide +kernel
theorem dX3_findPlan_23 : decode cX3_findPlan 23 = .ok (.if_icmp .ge 38, 3) := by decide +kernel
theorem dX3_findPlan_26 : decode cX3_findPlan 26 = .ok (.aload_n 0, 1) := by decide +kernel
theorem dX3_findPlan_27 : decode cX3_findPlan 27 = .ok (.iload 4, 2) := by decide +kernel
theorem dX3_findPlan_29 : decode cX3_findPlan 29 = .ok (.iload_n 2, 1) := by decide +kernel
theorem dX3_findPlan_30 : decode cX3_findPlan 30 = .ok (.invokevirtual 124, 3) := by decide +kernel
theorem dX3_findPlan_33 : decode cX3_findPlan 33 = .ok (.ifCond .eq 22, 3) := by decide +kernel
theorem dX3_findPlan_36 : decode cX3_findPlan 36 = .ok (.aload_n 0, 1) := by decide +kernel
theorem dX3_findPlan_37 : decode cX3_findPlan 37 = .ok (.invokevirtual 114, 3) := by decide +kernel
theorem dX3_findPlan_40 : decode cX3_findPlan 40 = .ok (.iload_n 3, 1) := by decide +kernel
theorem dX3_findPlan_41 : decode cX3_findPlan 41 = .ok (.if_icmp .ne 14, 3) := by decide +kernel
theorem dX3_findPlan_44 : decode cX3_findPlan 44 = .ok (.aload_n 0, 1) := by decide +kernel
theorem dX3_findPlan_45 : decode cX3_findPlan 45 = .ok (.iload_n 1, 1) := by decide +kernel
theorem dX3_findPlan_46 : decode cX3_findPlan 46 = .ok (.invokevirtual 127, 3) := by decide +kernel
theorem dX3_findPlan_49 : decode cX3_findPlan 49 = .ok (.iload_n 1, 1) := by decide +kernel
theorem dX3_findPlan_50 : decode cX3_findPlan 50 = .ok (.if_icmp .lt 5, 3) := by decide +kernel
theorem dX3_findPlan_53 : decode cX3_findPlan 53 = .ok (.iconst 1, 1) := by decide +kernel
theorem dX3_findPlan_54 : decode cX3_findPlan 54 = .ok (.ireturn, 1) := by decide +kernel
theorem dX3_findPlan_55 : decode cX3_findPlan 55 = .ok (.iinc 4 1, 3) := by decide +kernel
theorem dX3_findPlan_58 : decode cX3_findPlan 58 = .ok (.goto (-40), 3) := by decide +kernel
theorem dX3_findPlan_61 : decode cX3_findPlan 61 = .ok (.iinc 3 1, 3) := by decide +kernel
theorem dX3_findPlan_64 : decode cX3_findPlan 64 = .ok (.goto (-54), 3) := by decide +kernel
theorem dX3_findPlan_67 : decode cX3_findPlan 67 = .ok (.iconst 0, 1) := by decide +kernel
theorem dX3_findPlan_68 : decode cX3_findPlan 68 = .ok (.ireturn, 1) := by decide +kernel
set_option maxRecDepth 20000 in
theorem ggX3_choosePlan_X0_has : GoodIn wsX3_choosePlan wsX0_has := goodIn_r _ [7, 8, 17, 18, 19, 20, 21, 22, 23, 24] (by decide +kernel) (by decide +kernel)
set_option maxRecDepth 20000 in
theorem gX3_choosePlan_X0_has : GoodIn wsX3_choosePlan (wsV RX3 59 RX0 yX0_has wsX0_has) := goodIn_app (goodIn_of _ (by decide +kernel)) ggX3_choosePlan_X0_has
theorem dX3_choosePlan_0 : decode cX3_choosePlan 0 = .ok (.iconst 0, 1) := by decide +kernel
theorem dX3_choosePlan_1 : decode cX3_choosePlan 1 = .ok (.istore_n 3, 1) := by decide +kernel
theorem dX3_choosePlan_2 : decode cX3_choosePlan 2 = .ok (.iload_n 3, 1) := by decide +kernel
theorem dX3_choosePlan_3 : decode cX3_choosePlan 3 = .ok (.iconst 3, 1) := by decide +kernel
theorem dX3_choosePlan_4 : decode cX3_choosePlan 4 = .ok (.if_icmp .ge 68, 3) := by decide +kernel
theorem dX3_choosePlan_7 : decode cX3_choosePlan 7 = .ok (.iload_n 1, 1) := by decide +kernel
theorem dX3_choosePlan_8 : decode cX3_choosePlan 8 = .ok (.iconst 3, 1) := by decide +kernel
theorem dX3_choosePlan_9 : decode cX3_choosePlan 9 = .ok (.iconst 2, 1) := by decide +kernel
theorem dX3_choosePlan_10 : decode cX3_choosePlan 10 = .ok (.iload_n 3, 1) := by decide +kernel
theorem dX3_choosePlan_11 : decode cX3_choosePlan 11 = .ok (.isub, 1) := by decide +kernel
theorem dX3_choosePlan_12 : decode cX3_choosePlan 12 = .ok (.imul, 1) := by decide +kernel
theorem dX3_choosePlan_13 : decode cX3_choosePlan 13 = .ok (.ishr, 1) := by decide +kernel
theorem dX3_choosePlan_14 : decode cX3_choosePlan 14 = .ok (.bipush 7, 2) := by decide +kernel
theorem dX3_choosePlan_16 : decode cX3_choosePlan 16 = .ok (.iand, 1) := by decide +kernel
theorem dX3_choosePlan_17 : decode cX3_choosePlan 17 = .ok (.istore 4, 2) := by decide +kernel
theorem dX3_choosePlan_19 : decode cX3_choosePlan 19 = .ok (.iload 4, 2) := by decide +kernel
theorem dX3_choosePlan_21 : decode cX3_choosePlan 21 = .ok (.bipush 7, 2) := by decide +kernel
theorem dX3_choosePlan_23 : decode cX3_choosePlan 23 = .ok (.if_icmp .ne 13, 3) := by decide +kernel
theorem dX3_choosePlan_26 : decode cX3_choosePlan 26 = .ok (.aload_n 0, 1) := by decide +kernel
theorem dX3_choosePlan_27 : decode cX3_choosePlan 27 = .ok (.getfield 44, 3) := by decide +kernel
theorem dX3_choosePlan_30 : decode cX3_choosePlan 30 = .ok (.iload_n 3, 1) := by decide +kernel
theorem dX3_choosePlan_31 : decode cX3_choosePlan 31 = .ok (.iconst (-1), 1) := by decide +kernel
theorem dX3_choosePlan_32 : decode cX3_choosePlan 32 = .ok (.iastore, 1) := by decide +kernel
theorem dX3_choosePlan_33 : decode cX3_choosePlan 33 = .ok (.goto 33, 3) := by decide +kernel
theorem dX3_choosePlan_36 : decode cX3_choosePlan 36 = .ok (.aload_n 0, 1) := by decide +kernel
theorem dX3_choosePlan_37 : decode cX3_choosePlan 37 = .ok (.getfield 10, 3) := by decide +kernel
theorem dX3_choosePlan_40 : decode cX3_choosePlan 40 = .ok (.iload 4, 2) := by decide +kernel
theorem dX3_choosePlan_42 : decode cX3_choosePlan 42 = .ok (.invokevirtual 59, 3) := by decide +kernel
theorem dX3_choosePlan_45 : decode cX3_choosePlan 45 = .ok (.ifCond .eq 19, 3) := by decide +kernel
theorem dX3_choosePlan_48 : decode cX3_choosePlan 48 = .ok (.iload_n 3, 1) := by decide +kernel
theorem dX3_choosePlan_49 : decode cX3_choosePlan 49 = .ok (.iload_n 2, 1) := by decide +kernel
theorem dX3_choosePlan_50 : decode cX3_choosePlan 50 = .ok (.if_icmp .gt 14, 3) := by decide +kernel
theorem dX3_choosePlan_53 : decode cX3_choosePlan 53 = .ok (.aload_n 0, 1) := by decide +kernel
theorem dX3_choosePlan_54 : decode cX3_choosePlan 54 = .ok (.getfield 44, 3) := by decide +kernel
theorem dX3_choosePlan_57 : decode cX3_choosePlan 57 = .ok (.iload_n 3, 1) := by decide +kernel
theorem dX3_choosePlan_58 : decode cX3_choosePlan 58 = .ok (.iload 4, 2) := by decide +kernel
theorem dX3_choosePlan_60 : decode cX3_choosePlan 60 = .ok (.iastore, 1) := by decide +kernel
theorem dX3_choosePlan_61 : decode cX3_choosePlan 61 = .ok (.goto 5, 3) := by decide +kernel
theorem dX3_choosePlan_64 : decode cX3_choosePlan 64 = .ok (.iconst 0, 1) := by decide +kernel
theorem dX3_choosePlan_65 : decode cX3_choosePlan 65 = .ok (.ireturn, 1) := by decide +kernel
theorem dX3_choosePlan_66 : decode cX3_choosePlan 66 = .ok (.iinc 3 1, 3) := by decide +kernel
theorem dX3_choosePlan_69 : decode cX3_choosePlan 69 = .ok (.goto (-67), 3) := by decide +kernel
theorem dX3_choosePlan_72 : decode cX3_choosePlan 72 = .ok (.iconst 1, 1) := by decide +kernel
theorem dX3_choosePlan_73 : decode cX3_choosePlan 73 = .ok (.ireturn, 1) := by decide +kernel
theorem dX3_plannedFences_0 : decode cX3_plannedFences 0 = .ok (.iconst 0, 1) := by decide +kernel
theorem dX3_plannedFences_1 : decode cX3_plannedFences 1 = .ok (.istore_n 1, 1) := by decide +kernel
theorem dX3_plannedFences_2 : decode cX3_plannedFences 2 = .ok (.iconst 0, 1) := by decide +kernel
theorem dX3_plannedFences_3 : decode cX3_plannedFences 3 = .ok (.istore_n 2, 1) := by decide +kernel
theorem dX3_plannedFences_4 : decode cX3_plannedFences 4 = .ok (.iload_n 2, 1) := by decide +kernel
theorem dX3_plannedFences_5 : decode cX3_plannedFences 5 = .ok (.iconst 3, 1) := by decide +kernel
theorem dX3_plannedFences_6 : decode cX3_plannedFences 6 = .ok (.if_icmp .ge 22, 3) := by decide +kernel
theorem dX3_plannedFences_9 : decode cX3_plannedFences 9 = .ok (.aload_n 0, 1) := by decide +kernel
theorem dX3_plannedFences_10 : decode cX3_plannedFences 10 = .ok (.getfield 44, 3) := by decide +kernel
theorem dX3_plannedFences_13 : decode cX3_plannedFences 13 = .ok (.iload_n 2, 1) := by decide +kernel
theorem dX3_plannedFences_14 : decode cX3_plannedFences 14 = .ok (.iaload, 1) := by decide +kernel
theorem dX3_plannedFences_15 : decode cX3_plannedFences 15 = .ok (.iconst (-1), 1) := by decide +kernel
theorem dX3_plannedFences_16 : decode cX3_plannedFences 16 = .ok (.if_icmp .eq 6, 3) := by decide +kernel
theorem dX3_plannedFences_19 : decode cX3_plannedFences 19 = .ok (.iinc 1 1, 3) := by decide +kernel
theorem dX3_plannedFences_22 : decode cX3_plannedFences 22 = .ok (.iinc 2 1, 3) := by decide +kernel
theorem dX3_plannedFences_25 : decode cX3_plannedFences 25 = .ok (.goto (-21), 3) := by decide +kernel
theorem dX3_plannedFences_28 : decode cX3_plannedFences 28 = .ok (.iload_n 1, 1) := by decide +kernel
theorem dX3_plannedFences_29 : decode cX3_plannedFences 29 = .ok (.ireturn, 1) := by decide +kernel
set_option maxRecDepth 20000 in
theorem ggX3_worstCrest_X3_play : GoodIn wsX3_worstCrest wsX3_play := goodIn_r _ [13, 3, 14, 8, 1, 2, 15, 16, 17, 18, 19, 20, 21, 22, 23, 24, 25, 26, 27, 28, 29, 30, 31, 32, 12, 33, 34, 35, 36, 37, 38, 39, 40, 41, 42, 43, 44, 45, 46, 6, 47, 48, 5, 7, 49, 50, 51, 52, 53, 54, 55, 56, 57, 58, 59, 60, 61, 62, 63, 64, 65, 66, 67, 68, 69, 74, 75, 76, 77, 78, 79, 80, 81, 85, 86, 87, 88, 89, 90, 91, 92, 82, 83, 84] (by decide +kernel) (by decide +kernel)
set_option maxRecDepth 20000 in
theorem gX3_worstCrest_X3_play : GoodIn wsX3_worstCrest (wsV RX3 179 RX3 yX3_play wsX3_play) := goodIn_app (goodIn_of _ (by decide +kernel)) ggX3_worstCrest_X3_play
set_option maxRecDepth 20000 in
theorem ggX3_worstCrest_X0_greatestHeight : GoodIn wsX3_worstCrest wsX0_greatestHeight := goodIn_r _ [73, 22, 23, 45, 46, 6, 47, 85, 86, 87, 88, 89, 90, 91, 92] (by decide +kernel) (by decide +kernel)
set_option maxRecDepth 20000 in
theorem gX3_worstCrest_X0_greatestHeight : GoodIn wsX3_worstCrest (wsV RX3 102 RX0 yX0_greatestHeight wsX0_greatestHeight) := goodIn_app (goodIn_of _ (by decide +kernel)) ggX3_worstCrest_X0_greatestHeight
theorem dX3_worstCrest_0 : decode cX3_worstCrest 0 = .ok (.bipush 99, 2) := by decide +kernel
theorem dX3_worstCrest_2 : decode cX3_worstCrest 2 = .ok (.istore_n 2, 1) := by decide +kernel
theorem dX3_worstCrest_3 : decode cX3_worstCrest 3 = .ok (.iconst 0, 1) := by decide +kernel
theorem dX3_worstCrest_4 : decode cX3_worstCrest 4 = .ok (.istore_n 3, 1) := by decide +kernel
theorem dX3_worstCrest_5 : decode cX3_worstCrest 5 = .ok (.iload_n 3, 1) := by decide +kernel
theorem dX3_worstCrest_6 : decode cX3_worstCrest 6 = .ok (.iconst 3, 1) := by decide +kernel
theorem dX3_worstCrest_7 : decode cX3_worstCrest 7 = .ok (.if_icmp .ge 55, 3) := by decide +kernel
theorem dX3_worstCrest_10 : decode cX3_worstCrest 10 = .ok (.aload_n 0, 1) := by decide +kernel
theorem dX3_worstCrest_11 : decode cX3_worstCrest 11 = .ok (.getfield 29, 3) := by decide +kernel
theorem dX3_worstCrest_14 : decode cX3_worstCrest 14 = .ok (.getfield 91, 3) := by decide +kernel
theorem dX3_worstCrest_17 : decode cX3_worstCrest 17 = .ok (.iload_n 3, 1) := by decide +kernel
theorem dX3_worstCrest_18 : decode cX3_worstCrest 18 = .ok (.iaload, 1) := by decide +kernel
theorem dX3_worstCrest_19 : decode cX3_worstCrest 19 = .ok (.ifCond .le 37, 3) := by decide +kernel
theorem dX3_worstCrest_22 : decode cX3_worstCrest 22 = .ok (.aload_n 0, 1) := by decide +kernel
theorem dX3_worstCrest_23 : decode cX3_worstCrest 23 = .ok (.iload_n 3, 1) := by decide +kernel
theorem dX3_worstCrest_24 : decode cX3_worstCrest 24 = .ok (.invokevirtual 179, 3) := by decide +kernel
theorem dX3_worstCrest_27 : decode cX3_worstCrest 27 = .ok (.iload_n 2, 1) := by decide +kernel
theorem dX3_worstCrest_28 : decode cX3_worstCrest 28 = .ok (.aload_n 0, 1) := by decide +kernel
theorem dX3_worstCrest_29 : decode cX3_worstCrest 29 = .ok (.getfield 16, 3) := by decide +kernel
theorem dX3_worstCrest_32 : decode cX3_worstCrest 32 = .ok (.invokevirtual 102, 3) := by decide +kernel
theorem dX3_worstCrest_35 : decode cX3_worstCrest 35 = .ok (.invokestatic 195, 3) := by decide +kernel
theorem dX3_worstCrest_38 : decode cX3_worstCrest 38 = .ok (.istore_n 2, 1) := by decide +kernel
theorem dX3_worstCrest_39 : decode cX3_worstCrest 39 = .ok (.aload_n 0, 1) := by decide +kernel
theorem dX3_worstCrest_40 : decode cX3_worstCrest 40 = .ok (.getfield 16, 3) := by decide +kernel
theorem dX3_worstCrest_43 : decode cX3_worstCrest 43 = .ok (.getfield 105, 3) := by decide +kernel
theorem dX3_worstCrest_46 : decode cX3_worstCrest 46 = .ok (.ifCond .gt 8, 3) := by decide +kernel
theorem dX3_worstCrest_49 : decode cX3_worstCrest 49 = .ok (.iload_n 2, 1) := by decide +kernel
theorem dX3_worstCrest_50 : decode cX3_worstCrest 50 = .ok (.iload_n 1, 1) := by decide +kernel
theorem dX3_worstCrest_51 : decode cX3_worstCrest 51 = .ok (.if_icmp .ge 5, 3) := by decide +kernel
theorem dX3_worstCrest_54 : decode cX3_worstCrest 54 = .ok (.iconst (-1), 1) := by decide +kernel
theorem dX3_worstCrest_55 : decode cX3_worstCrest 55 = .ok (.ireturn, 1) := by decide +kernel
theorem dX3_worstCrest_56 : decode cX3_worstCrest 56 = .ok (.iinc 3 1, 3) := by decide +kernel
theorem dX3_worstCrest_59 : decode cX3_worstCrest 59 = .ok (.goto (-54), 3) := by decide +kernel
theorem dX3_worstCrest_62 : decode cX3_worstCrest 62 = .ok (.iload_n 2, 1) := by decide +kernel
theorem dX3_worstCrest_63 : decode cX3_worstCrest 63 = .ok (.ireturn, 1) := by decide +kernel
theorem dX3_cleared_0 : decode cX3_cleared 0 = .ok (.bipush 60, 2) := by decide +kernel
theorem dX3_cleared_2 : decode cX3_cleared 2 = .ok (.istore_n 2, 1) := by decide +kernel
theorem dX3_cleared_3 : decode cX3_cleared 3 = .ok (.iload_n 2, 1) := by decide +kernel
theorem dX3_cleared_4 : decode cX3_cleared 4 = .ok (.iconst 1, 1) := by decide +kernel
theorem dX3_cleared_5 : decode cX3_cleared 5 = .ok (.if_icmp .le 37, 3) := by decide +kernel
theorem dX3_cleared_8 : decode cX3_cleared 8 = .ok (.bipush 60, 2) := by decide +kernel
theorem dX3_cleared_10 : decode cX3_cleared 10 = .ok (.iload_n 2, 1) := by decide +kernel
theorem dX3_cleared_11 : decode cX3_cleared 11 = .ok (.irem, 1) := by decide +kernel
theorem dX3_cleared_12 : decode cX3_cleared 12 = .ok (.ifCond .ne 24, 3) := by decide +kernel
theorem dX3_cleared_15 : decode cX3_cleared 15 = .ok (.iload_n 0, 1) := by decide +kernel
theorem dX3_cleared_16 : decode cX3_cleared 16 = .ok (.iload_n 2, 1) := by decide +kernel
theorem dX3_cleared_17 : decode cX3_cleared 17 = .ok (.irem, 1) := by decide +kernel
theorem dX3_cleared_18 : decode cX3_cleared 18 = .ok (.ifCond .ne 18, 3) := by decide +kernel
theorem dX3_cleared_21 : decode cX3_cleared 21 = .ok (.iload_n 1, 1) := by decide +kernel
theorem dX3_cleared_22 : decode cX3_cleared 22 = .ok (.ifCond .ne 9, 3) := by decide +kernel
theorem dX3_cleared_25 : decode cX3_cleared 25 = .ok (.iload_n 0, 1) := by decide +kernel
theorem dX3_cleared_26 : decode cX3_cleared 26 = .ok (.iload_n 2, 1) := by decide +kernel
theorem dX3_cleared_27 : decode cX3_cleared 27 = .ok (.idiv, 1) := by decide +kernel
theorem dX3_cleared_28 : decode cX3_cleared 28 = .ok (.goto 7, 3) := by decide +kernel
theorem dX3_cleared_31 : decode cX3_cleared 31 = .ok (.bipush 60, 2) := by decide +kernel
theorem dX3_cleared_33 : decode cX3_cleared 33 = .ok (.iload_n 2, 1) := by decide +kernel
theorem dX3_cleared_34 : decode cX3_cleared 34 = .ok (.idiv, 1) := by decide +kernel
theorem dX3_cleared_35 : decode cX3_cleared 35 = .ok (.ireturn, 1) := by decide +kernel
theorem dX3_cleared_36 : decode cX3_cleared 36 = .ok (.iinc 2 (-1), 3) := by decide +kernel
theorem dX3_cleared_39 : decode cX3_cleared 39 = .ok (.goto (-36), 3) := by decide +kernel
theorem dX3_cleared_42 : decode cX3_cleared 42 = .ok (.iload_n 1, 1) := by decide +kernel
theorem dX3_cleared_43 : decode cX3_cleared 43 = .ok (.ifCond .ne 7, 3) := by decide +kernel
theorem dX3_cleared_46 : decode cX3_cleared 46 = .ok (.iload_n 0, 1) := by decide +kernel
theorem dX3_cleared_47 : decode cX3_cleared 47 = .ok (.goto 5, 3) := by decide +kernel
theorem dX3_cleared_50 : decode cX3_cleared 50 = .ok (.bipush 60, 2) := by decide +kernel
theorem dX3_cleared_52 : decode cX3_cleared 52 = .ok (.ireturn, 1) := by decide +kernel
end
section
set_option maxRecDepth 20000 in
theorem ggX4_init_X4_begin : GoodIn wsX4_init wsX4_begin := goodIn_r _ [24, 4, 7, 8, 9, 10, 17, 11, 12, 13, 25, 26, 27, 28, 29, 30, 31, 32, 33, 34, 35, 36, 37, 38, 39, 40] (by decide +kernel) (by decide +kernel)
set_option maxRecDepth 20000 in
theorem gX4_init_X4_begin : GoodIn wsX4_init (wsV RX4 56 RX4 yX4_begin wsX4_begin) := goodIn_app (goodIn_of _ (by decide +kernel)) ggX4_init_X4_begin
theorem dX4_init_0 : decode cX4_init 0 = .ok (.aload_n 0, 1) := by decide +kernel
theorem dX4_init_1 : decode cX4_init 1 = .ok (.invokespecial 1, 3) := by decide +kernel
theorem dX4_init_4 : decode cX4_init 4 = .ok (.aload_n 0, 1) := by decide +kernel
theorem dX4_init_5 : decode cX4_init 5 = .ok (.iconst 5, 1) := by decide +kernel
theorem dX4_init_6 : decode cX4_init 6 = .ok (.putfield 7, 3) := by decide +kernel
theorem dX4_init_9 : decode cX4_init 9 = .ok (.aload_n 0, 1) := by decide +kernel
theorem dX4_init_10 : decode cX4_init 10 = .ok (.bipush 10, 2) := by decide +kernel
theorem dX4_init_12 : decode cX4_init 12 = .ok (.putfield 13, 3) := by decide +kernel
theorem dX4_init_15 : decode cX4_init 15 = .ok (.aload_n 0, 1) := by decide +kernel
theorem dX4_init_16 : decode cX4_init 16 = .ok (.bipush 21, 2) := by decide +kernel
theorem dX4_init_18 : decode cX4_init 18 = .ok (.newarray .int, 2) := by decide +kernel
theorem dX4_init_20 : decode cX4_init 20 = .ok (.putfield 16, 3) := by decide +kernel
theorem dX4_init_23 : decode cX4_init 23 = .ok (.aload_n 0, 1) := by decide +kernel
theorem dX4_init_24 : decode cX4_init 24 = .ok (.bipush 21, 2) := by decide +kernel
theorem dX4_init_26 : decode cX4_init 26 = .ok (.newarray .int, 2) := by decide +kernel
theorem dX4_init_28 : decode cX4_init 28 = .ok (.putfield 20, 3) := by decide +kernel
theorem dX4_init_31 : decode cX4_init 31 = .ok (.aload_n 0, 1) := by decide +kernel
theorem dX4_init_32 : decode cX4_init 32 = .ok (.bipush 21, 2) := by decide +kernel
theorem dX4_init_34 : decode cX4_init 34 = .ok (.newarray .int, 2) := by decide +kernel
theorem dX4_init_36 : decode cX4_init 36 = .ok (.putfield 23, 3) := by decide +kernel
theorem dX4_init_39 : decode cX4_init 39 = .ok (.aload_n 0, 1) := by decide +kernel
theorem dX4_init_40 : decode cX4_init 40 = .ok (.bipush 21, 2) := by decide +kernel
theorem dX4_init_42 : decode cX4_init 42 = .ok (.newarray .int, 2) := by decide +kernel
theorem dX4_init_44 : decode cX4_init 44 = .ok (.putfield 26, 3) := by decide +kernel
theorem dX4_init_47 : decode cX4_init 47 = .ok (.aload_n 0, 1) := by decide +kernel
theorem dX4_init_48 : decode cX4_init 48 = .ok (.iconst 3, 1) := by decide +kernel
theorem dX4_init_49 : decode cX4_init 49 = .ok (.newarray .int, 2) := by decide +kernel
theorem dX4_init_51 : decode cX4_init 51 = .ok (.putfield 29, 3) := by decide +kernel
theorem dX4_init_54 : decode cX4_init 54 = .ok (.aload_n 0, 1) := by decide +kernel
theorem dX4_init_55 : decode cX4_init 55 = .ok (.iconst 3, 1) := by decide +kernel
theorem dX4_init_56 : decode cX4_init 56 = .ok (.newarray .int, 2) := by decide +kernel
theorem dX4_init_58 : decode cX4_init 58 = .ok (.putfield 32, 3) := by decide +kernel
theorem dX4_init_61 : decode cX4_init 61 = .ok (.aload_n 0, 1) := by decide +kernel
theorem dX4_init_62 : decode cX4_init 62 = .ok (.iconst 3, 1) := by decide +kernel
theorem dX4_init_63 : decode cX4_init 63 = .ok (.newarray .int, 2) := by decide +kernel
theorem dX4_init_65 : decode cX4_init 65 = .ok (.putfield 35, 3) := by decide +kernel
theorem dX4_init_68 : decode cX4_init 68 = .ok (.aload_n 0, 1) := by decide +kernel
theorem dX4_init_69 : decode cX4_init 69 = .ok (.iconst 3, 1) := by decide +kernel
theorem dX4_init_70 : decode cX4_init 70 = .ok (.newarray .int, 2) := by decide +kernel
theorem dX4_init_72 : decode cX4_init 72 = .ok (.putfield 38, 3) := by decide +kernel
theorem dX4_init_75 : decode cX4_init 75 = .ok (.aload_n 0, 1) := by decide +kernel
theorem dX4_init_76 : decode cX4_init 76 = .ok (.bipush 36, 2) := by decide +kernel
theorem dX4_init_78 : decode cX4_init 78 = .ok (.newarray .int, 2) := by decide +kernel
theorem dX4_init_80 : decode cX4_init 80 = .ok (.putfield 41, 3) := by decide +kernel
theorem dX4_init_83 : decode cX4_init 83 = .ok (.aload_n 0, 1) := by decide +kernel
theorem dX4_init_84 : decode cX4_init 84 = .ok (.bipush 36, 2) := by decide +kernel
theorem dX4_init_86 : decode cX4_init 86 = .ok (.newarray .int, 2) := by decide +kernel
theorem dX4_init_88 : decode cX4_init 88 = .ok (.putfield 44, 3) := by decide +kernel
theorem dX4_init_91 : decode cX4_init 91 = .ok (.aload_n 0, 1) := by decide +kernel
theorem dX4_init_92 : decode cX4_init 92 = .ok (.bipush 7, 2) := by decide +kernel
theorem dX4_init_94 : decode cX4_init 94 = .ok (.newarray .int, 2) := by decide +kernel
theorem dX4_init_96 : decode cX4_init 96 = .ok (.putfield 47, 3) := by decide +kernel
theorem dX4_init_99 : decode cX4_init 99 = .ok (.aload_n 0, 1) := by decide +kernel
theorem dX4_init_100 : decode cX4_init 100 = .ok (.iconst 3, 1) := by decide +kernel
theorem dX4_init_101 : decode cX4_init 101 = .ok (.newarray .int, 2) := by decide +kernel
theorem dX4_init_103 : decode cX4_init 103 = .ok (.putfield 50, 3) := by decide +kernel
theorem dX4_init_106 : decode cX4_init 106 = .ok (.aload_n 0, 1) := by decide +kernel
theorem dX4_init_107 : decode cX4_init 107 = .ok (.iconst 3, 1) := by decide +kernel
theorem dX4_init_108 : decode cX4_init 108 = .ok (.newarray .int, 2) := by decide +kernel
theorem dX4_init_110 : decode cX4_init 110 = .ok (.putfield 53, 3) := by decide +kernel
theorem dX4_init_113 : decode cX4_init 113 = .ok (.aload_n 0, 1) := by decide +kernel
theorem dX4_init_114 : decode cX4_init 114 = .ok (.iconst 5, 1) := by decide +kernel
theorem dX4_init_115 : decode cX4_init 115 = .ok (.invokevirtual 56, 3) := by decide +kernel
theorem dX4_init_118 : decode cX4_init 118 = .ok (.return_, 1) := by decide +kernel
theorem dX4_in_0 : decode cX4_in 0 = .ok (.iload_n 0, 1) := by decide +kernel
theorem dX4_in_1 : decode cX4_in 1 = .ok (.iload_n 1, 1) := by decide +kernel
theorem dX4_in_2 : decode cX4_in 2 = .ok (.if_icmp .lt 12, 3) := by decide +kernel
theorem dX4_in_5 : decode cX4_in 5 = .ok (.iload_n 0, 1) := by decide +kernel
theorem dX4_in_6 : decode cX4_in 6 = .ok (.iload_n 2, 1) := by decide +kernel
theorem dX4_in_7 : decode cX4_in 7 = .ok (.if_icmp .gt 7, 3) := by decide +kernel
theorem dX4_in_10 : decode cX4_in 10 = .ok (.iconst 1, 1) := by decide +kernel
theorem dX4_in_11 : decode cX4_in 11 = .ok (.goto 4, 3) := by decide +kernel
theorem dX4_in_14 : decode cX4_in 14 = .ok (.iconst 0, 1) := by decide +kernel
theorem dX4_in_15 : decode cX4_in 15 = .ok (.ireturn, 1) := by decide +kernel
set_option maxRecDepth 20000 in
theorem ggX4_isCell_X4_in : GoodIn wsX4_isCell wsX4_in := goodIn_r _ [5] (by decide +kernel) (by decide +kernel)
set_option maxRecDepth 20000 in
theorem gX4_isCell_X4_in : GoodIn wsX4_isCell (va_wsS RX4 60 yX4_in wsX4_in) := goodIn_app (goodIn_of _ (by decide +kernel)) ggX4_isCell_X4_in
theorem dX4_isCell_0 : decode cX4_isCell 0 = .ok (.iload_n 1, 1) := by decide +kernel
theorem dX4_isCell_1 : decode cX4_isCell 1 = .ok (.iconst 0, 1) := by decide +kernel
theorem dX4_isCell_2 : decode cX4_isCell 2 = .ok (.aload_n 0, 1) := by decide +kernel
theorem dX4_isCell_3 : decode cX4_isCell 3 = .ok (.getfield 7, 3) := by decide +kernel
theorem dX4_isCell_6 : decode cX4_isCell 6 = .ok (.iconst 1, 1) := by decide +kernel
theorem dX4_isCell_7 : decode cX4_isCell 7 = .ok (.isub, 1) := by decide +kernel
theorem dX4_isCell_8 : decode cX4_isCell 8 = .ok (.invokestatic 60, 3) := by decide +kernel
theorem dX4_isCell_11 : decode cX4_isCell 11 = .ok (.ireturn, 1) := by decide +kernel
set_option maxRecDepth 20000 in
theorem ggX4_isWeather_X4_in : GoodIn wsX4_isWeather wsX4_in := goodIn_r _ [4] (by decide +kernel) (by decide +kernel)
set_option maxRecDepth 20000 in
theorem gX4_isWeather_X4_in : GoodIn wsX4_isWeather (va_wsS RX4 60 yX4_in wsX4_in) := goodIn_app (goodIn_of _ (by decide +kernel)) ggX4_isWeather_X4_in
theorem dX4_isWeather_0 : decode cX4_isWeather 0 = .ok (.iload_n 0, 1) := by decide +kernel
theorem dX4_isWeather_1 : decode cX4_isWeather 1 = .ok (.iconst 0, 1) := by decide +kernel
theorem dX4_isWeather_2 : decode cX4_isWeather 2 = .ok (.iconst 2, 1) := by decide +kernel
theorem dX4_isWeather_3 : decode cX4_isWeather 3 = .ok (.invokestatic 60, 3) := by decide +kernel
theorem dX4_isWeather_6 : decode cX4_isWeather 6 = .ok (.ireturn, 1) := by decide +kernel
theorem dX4_begin_0 : decode cX4_begin 0 = .ok (.aload_n 0, 1) := by decide +kernel
theorem dX4_begin_1 : decode cX4_begin 1 = .ok (.iload_n 1, 1) := by decide +kernel
theorem dX4_begin_2 : decode cX4_begin 2 = .ok (.putfield 7, 3) := by decide +kernel
theorem dX4_begin_5 : decode cX4_begin 5 = .ok (.iconst 0, 1) := by decide +kernel
theorem dX4_begin_6 : decode cX4_begin 6 = .ok (.istore_n 2, 1) := by decide +kernel
theorem dX4_begin_7 : decode cX4_begin 7 = .ok (.iload_n 2, 1) := by decide +kernel
theorem dX4_begin_8 : decode cX4_begin 8 = .ok (.bipush 7, 2) := by decide +kernel
theorem dX4_begin_10 : decode cX4_begin 10 = .ok (.if_icmp .ge 44, 3) := by decide +kernel
theorem dX4_begin_13 : decode cX4_begin 13 = .ok (.aload_n 0, 1) := by decide +kernel
theorem dX4_begin_14 : decode cX4_begin 14 = .ok (.getfield 16, 3) := by decide +kernel
theorem dX4_begin_17 : decode cX4_begin 17 = .ok (.iload_n 2, 1) := by decide +kernel
theorem dX4_begin_18 : decode cX4_begin 18 = .ok (.iconst 0, 1) := by decide +kernel
theorem dX4_begin_19 : decode cX4_begin 19 = .ok (.iastore, 1) := by decide +kernel
theorem dX4_begin_20 : decode cX4_begin 20 = .ok (.aload_n 0, 1) := by decide +kernel
theorem dX4_begin_21 : decode cX4_begin 21 = .ok (.getfield 20, 3) := by decide +kernel
theorem dX4_begin_24 : decode cX4_begin 24 = .ok (.iload_n 2, 1) := by decide +kernel
theorem dX4_begin_25 : decode cX4_begin 25 = .ok (.iconst 0, 1) := by decide +kernel
theorem dX4_begin_26 : decode cX4_begin 26 = .ok (.iastore, 1) := by decide +kernel
theorem dX4_begin_27 : decode cX4_begin 27 = .ok (.aload_n 0, 1) := by decide +kernel
theorem dX4_begin_28 : decode cX4_begin 28 = .ok (.getfield 23, 3) := by decide +kernel
theorem dX4_begin_31 : decode cX4_begin 31 = .ok (.iload_n 2, 1) := by decide +kernel
theorem dX4_begin_32 : decode cX4_begin 32 = .ok (.iconst 0, 1) := by decide +kernel
theorem dX4_begin_33 : decode cX4_begin 33 = .ok (.iastore, 1) := by decide +kernel
theorem dX4_begin_34 : decode cX4_begin 34 = .ok (.aload_n 0, 1) := by decide +kernel
theorem dX4_begin_35 : decode cX4_begin 35 = .ok (.getfield 26, 3) := by decide +kernel
theorem dX4_begin_38 : decode cX4_begin 38 = .ok (.iload_n 2, 1) := by decide +kernel
theorem dX4_begin_39 : decode cX4_begin 39 = .ok (.iconst 0, 1) := by decide +kernel
theorem dX4_begin_40 : decode cX4_begin 40 = .ok (.iastore, 1) := by decide +kernel
theorem dX4_begin_41 : decode cX4_begin 41 = .ok (.aload_n 0, 1) := by decide +kernel
theorem dX4_begin_42 : decode cX4_begin 42 = .ok (.getfield 47, 3) := by decide +kernel
theorem dX4_begin_45 : decode cX4_begin 45 = .ok (.iload_n 2, 1) := by decide +kernel
theorem dX4_begin_46 : decode cX4_begin 46 = .ok (.iconst (-1), 1) := by decide +kernel
theorem dX4_begin_47 : decode cX4_begin 47 = .ok (.iastore, 1) := by decide +kernel
theorem dX4_begin_48 : decode cX4_begin 48 = .ok (.iinc 2 1, 3) := by decide +kernel
theorem dX4_begin_51 : decode cX4_begin 51 = .ok (.goto (-44), 3) := by decide +kernel
theorem dX4_begin_54 : decode cX4_begin 54 = .ok (.aload_n 0, 1) := by decide +kernel
theorem dX4_begin_55 : decode cX4_begin 55 = .ok (.getfield 29, 3) := by decide +kernel
theorem dX4_begin_58 : decode cX4_begin 58 = .ok (.iconst 0, 1) := by decide +kernel
theorem dX4_begin_59 : decode cX4_begin 59 = .ok (.iconst 0, 1) := by decide +kernel
theorem dX4_begin_60 : decode cX4_begin 60 = .ok (.iastore, 1) := by decide +kernel
theorem dX4_begin_61 : decode cX4_begin 61 = .ok (.aload_n 0, 1) := by decide +kernel
theorem dX4_begin_62 : decode cX4_begin 62 = .ok (.getfield 32, 3) := by decide +kernel
theorem dX4_begin_65 : decode cX4_begin 65 = .ok (.iconst 0, 1) := by decide +kernel
theorem dX4_begin_66 : decode cX4_begin 66 = .ok (.iconst 0, 1) := by decide +kernel
theorem dX4_begin_67 : decode cX4_begin 67 = .ok (.iastore, 1) := by decide +kernel
theorem dX4_begin_68 : decode cX4_begin 68 = .ok (.aload_n 0, 1) := by decide +kernel
theorem dX4_begin_69 : decode cX4_begin 69 = .ok (.getfield 35, 3) := by decide +kernel
theorem dX4_begin_72 : decode cX4_begin 72 = .ok (.iconst 0, 1) := by decide +kernel
theorem dX4_begin_73 : decode cX4_begin 73 = .ok (.iconst 0, 1) := by decide +kernel
theorem dX4_begin_74 : decode cX4_begin 74 = .ok (.iastore, 1) := by decide +kernel
theorem dX4_begin_75 : decode cX4_begin 75 = .ok (.return_, 1) := by decide +kernel
theorem dX4_copy_0 : decode cX4_copy 0 = .ok (.iconst 0, 1) := by decide +kernel
theorem dX4_copy_1 : decode cX4_copy 1 = .ok (.istore_n 3, 1) := by decide +kernel
theorem dX4_copy_2 : decode cX4_copy 2 = .ok (.iload_n 3, 1) := by decide +kernel
theorem dX4_copy_3 : decode cX4_copy 3 = .ok (.bipush 7, 2) := by decide +kernel
theorem dX4_copy_5 : decode cX4_copy 5 = .ok (.if_icmp .ge 97, 3) := by decide +kernel
theorem dX4_copy_8 : decode cX4_copy 8 = .ok (.aload_n 0, 1) := by decide +kernel
theorem dX4_copy_9 : decode cX4_copy 9 = .ok (.getfield 16, 3) := by decide +kernel
theorem dX4_copy_12 : decode cX4_copy 12 = .ok (.bipush 7, 2) := by decide +kernel
theorem dX4_copy_14 : decode cX4_copy 14 = .ok (.iload_n 2, 1) := by decide +kernel
theorem dX4_copy_15 : decode cX4_copy 15 = .ok (.imul, 1) := by decide +kernel
theorem dX4_copy_16 : decode cX4_copy 16 = .ok (.iload_n 3, 1) := by decide +kernel
theorem dX4_copy_17 : decode cX4_copy 17 = .ok (.iadd, 1) := by decide +kernel
theorem dX4_copy_18 : decode cX4_copy 18 = .ok (.aload_n 0, 1) := by decide +kernel
theorem dX4_copy_19 : decode cX4_copy 19 = .ok (.getfield 16, 3) := by decide +kernel
theorem dX4_copy_22 : decode cX4_copy 22 = .ok (.bipush 7, 2) := by decide +kernel
theorem dX4_copy_24 : decode cX4_copy 24 = .ok (.iload_n 1, 1) := by decide +kernel
theorem dX4_copy_25 : decode cX4_copy 25 = .ok (.imul, 1) := by decide +kernel
theorem dX4_copy_26 : decode cX4_copy 26 = .ok (.iload_n 3, 1) := by decide +kernel
theorem dX4_copy_27 : decode cX4_copy 27 = .ok (.iadd, 1) := by decide +kernel
theorem dX4_copy_28 : decode cX4_copy 28 = .ok (.iaload, 1) := by decide +kernel
theorem dX4_copy_29 : decode cX4_copy 29 = .ok (.iastore, 1) := by decide +kernel
theorem dX4_copy_30 : decode cX4_copy 30 = .ok (.aload_n 0, 1) := by decide +kernel
theorem dX4_copy_31 : decode cX4_copy 31 = .ok (.getfield 20, 3) := by decide +kernel
theorem dX4_copy_34 : decode cX4_copy 34 = .ok (.bipush 7, 2) := by decide +kernel
theorem dX4_copy_36 : decode cX4_copy 36 = .ok (.iload_n 2, 1) := by decide +kernel
theorem dX4_copy_37 : decode cX4_copy 37 = .ok (.imul, 1) := by decide +kernel
theorem dX4_copy_38 : decode cX4_copy 38 = .ok (.iload_n 3, 1) := by decide +kernel
theorem dX4_copy_39 : decode cX4_copy 39 = .ok (.iadd, 1) := by decide +kernel
theorem dX4_copy_40 : decode cX4_copy 40 = .ok (.aload_n 0, 1) := by decide +kernel
theorem dX4_copy_41 : decode cX4_copy 41 = .ok (.getfield 20, 3) := by decide +kernel
theorem dX4_copy_44 : decode cX4_copy 44 = .ok (.bipush 7, 2) := by decide +kernel
theorem dX4_copy_46 : decode cX4_copy 46 = .ok (.iload_n 1, 1) := by decide +kernel
theorem dX4_copy_47 : decode cX4_copy 47 = .ok (.imul, 1) := by decide +kernel
theorem dX4_copy_48 : decode cX4_copy 48 = .ok (.iload_n 3, 1) := by decide +kernel
theorem dX4_copy_49 : decode cX4_copy 49 = .ok (.iadd, 1) := by decide +kernel
theorem dX4_copy_50 : decode cX4_copy 50 = .ok (.iaload, 1) := by decide +kernel
theorem dX4_copy_51 : decode cX4_copy 51 = .ok (.iastore, 1) := by decide +kernel
theorem dX4_copy_52 : decode cX4_copy 52 = .ok (.aload_n 0, 1) := by decide +kernel
theorem dX4_copy_53 : decode cX4_copy 53 = .ok (.getfield 23, 3) := by decide +kernel
theorem dX4_copy_56 : decode cX4_copy 56 = .ok (.bipush 7, 2) := by decide +kernel
theorem dX4_copy_58 : decode cX4_copy 58 = .ok (.iload_n 2, 1) := by decide +kernel
theorem dX4_copy_59 : decode cX4_copy 59 = .ok (.imul, 1) := by decide +kernel
theorem dX4_copy_60 : decode cX4_copy 60 = .ok (.iload_n 3, 1) := by decide +kernel
theorem dX4_copy_61 : decode cX4_copy 61 = .ok (.iadd, 1) := by decide +kernel
theorem dX4_copy_62 : decode cX4_copy 62 = .ok (.aload_n 0, 1) := by decide +kernel
theorem dX4_copy_63 : decode cX4_copy 63 = .ok (.getfield 23, 3) := by decide +kernel
theorem dX4_copy_66 : decode cX4_copy 66 = .ok (.bipush 7, 2) := by decide +kernel
theorem dX4_copy_68 : decode cX4_copy 68 = .ok (.iload_n 1, 1) := by decide +kernel
theorem dX4_copy_69 : decode cX4_copy 69 = .ok (.imul, 1) := by decide +kernel
theorem dX4_copy_70 : decode cX4_copy 70 = .ok (.iload_n 3, 1) := by decide +kernel
theorem dX4_copy_71 : decode cX4_copy 71 = .ok (.iadd, 1) := by decide +kernel
theorem dX4_copy_72 : decode cX4_copy 72 = .ok (.iaload, 1) := by decide +kernel
theorem dX4_copy_73 : decode cX4_copy 73 = .ok (.iastore, 1) := by decide +kernel
theorem dX4_copy_74 : decode cX4_copy 74 = .ok (.aload_n 0, 1) := by decide +kernel
theorem dX4_copy_75 : decode cX4_copy 75 = .ok (.getfield 26, 3) := by decide +kernel
theorem dX4_copy_78 : decode cX4_copy 78 = .ok (.bipush 7, 2) := by decide +kernel
theorem dX4_copy_80 : decode cX4_copy 80 = .ok (.iload_n 2, 1) := by decide +kernel
theorem dX4_copy_81 : decode cX4_copy 81 = .ok (.imul, 1) := by decide +kernel
theorem dX4_copy_82 : decode cX4_copy 82 = .ok (.iload_n 3, 1) := by decide +kernel
theorem dX4_copy_83 : decode cX4_copy 83 = .ok (.iadd, 1) := by decide +kernel
theorem dX4_copy_84 : decode cX4_copy 84 = .ok (.aload_n 0, 1) := by decide +kernel
theorem dX4_copy_85 : decode cX4_copy 85 = .ok (.getfield 26, 3) := by decide +kernel
theorem dX4_copy_88 : decode cX4_copy 88 = .ok (.bipush 7, 2) := by decide +kernel
theorem dX4_copy_90 : decode cX4_copy 90 = .ok (.iload_n 1, 1) := by decide +kernel
theorem dX4_copy_91 : decode cX4_copy 91 = .ok (.imul, 1) := by decide +kernel
theorem dX4_copy_92 : decode cX4_copy 92 = .ok (.iload_n 3, 1) := by decide +kernel
theorem dX4_copy_93 : decode cX4_copy 93 = .ok (.iadd, 1) := by decide +kernel
theorem dX4_copy_94 : decode cX4_copy 94 = .ok (.iaload, 1) := by decide +kernel
theorem dX4_copy_95 : decode cX4_copy 95 = .ok (.iastore, 1) := by decide +kernel
theorem dX4_copy_96 : decode cX4_copy 96 = .ok (.iinc 3 1, 3) := by decide +kernel
theorem dX4_copy_99 : decode cX4_copy 99 = .ok (.goto (-97), 3) := by decide +kernel
theorem dX4_copy_102 : decode cX4_copy 102 = .ok (.aload_n 0, 1) := by decide +kernel
theorem dX4_copy_103 : decode cX4_copy 103 = .ok (.getfield 29, 3) := by decide +kernel
theorem dX4_copy_106 : decode cX4_copy 106 = .ok (.iload_n 2, 1) := by decide +kernel
theorem dX4_copy_107 : decode cX4_copy 107 = .ok (.aload_n 0, 1) := by decide +kernel
theorem dX4_copy_108 : decode cX4_copy 108 = .ok (.getfield 29, 3) := by decide +kernel
theorem dX4_copy_111 : decode cX4_copy 111 = .ok (.iload_n 1, 1) := by decide +kernel
theorem dX4_copy_112 : decode cX4_copy 112 = .ok (.iaload, 1) := by decide +kernel
theorem dX4_copy_113 : decode cX4_copy 113 = .ok (.iastore, 1) := by decide +kernel
theorem dX4_copy_114 : decode cX4_copy 114 = .ok (.aload_n 0, 1) := by decide +kernel
theorem dX4_copy_115 : decode cX4_copy 115 = .ok (.getfield 32, 3) := by decide +kernel
theorem dX4_copy_118 : decode cX4_copy 118 = .ok (.iload_n 2, 1) := by decide +kernel
theorem dX4_copy_119 : decode cX4_copy 119 = .ok (.aload_n 0, 1) := by decide +kernel
theorem dX4_copy_120 : decode cX4_copy 120 = .ok (.getfield 32, 3) := by decide +kernel
theorem dX4_copy_123 : decode cX4_copy 123 = .ok (.iload_n 1, 1) := by decide +kernel
theorem dX4_copy_124 : decode cX4_copy 124 = .ok (.iaload, 1) := by decide +kernel
theorem dX4_copy_125 : decode cX4_copy 125 = .ok (.iastore, 1) := by decide +kernel
theorem dX4_copy_126 : decode cX4_copy 126 = .ok (.aload_n 0, 1) := by decide +kernel
theorem dX4_copy_127 : decode cX4_copy 127 = .ok (.getfield 35, 3) := by decide +kernel
theorem dX4_copy_130 : decode cX4_copy 130 = .ok (.iload_n 2, 1) := by decide +kernel
theorem dX4_copy_131 : decode cX4_copy 131 = .ok (.aload_n 0, 1) := by decide +kernel
theorem dX4_copy_132 : decode cX4_copy 132 = .ok (.getfield 35, 3) := by decide +kernel
theorem dX4_copy_135 : decode cX4_copy 135 = .ok (.iload_n 1, 1) := by decide +kernel
theorem dX4_copy_136 : decode cX4_copy 136 = .ok (.iaload, 1) := by decide +kernel
theorem dX4_copy_137 : decode cX4_copy 137 = .ok (.iastore, 1) := by decide +kernel
theorem dX4_copy_138 : decode cX4_copy 138 = .ok (.return_, 1) := by decide +kernel
set_option maxRecDepth 20000 in
theorem ggX4_coast_X4_in : GoodIn wsX4_coast wsX4_in := goodIn_r _ [4] (by decide +kernel) (by decide +kernel)
set_option maxRecDepth 20000 in
theorem gX4_coast_X4_in : GoodIn wsX4_coast (va_wsS RX4 60 yX4_in wsX4_in) := goodIn_app (goodIn_of _ (by decide +kernel)) ggX4_coast_X4_in
set_option maxRecDepth 20000 in
theorem ggX4_coast_X4_begin : GoodIn wsX4_coast wsX4_begin := goodIn_r _ [8, 9, 10, 11, 12, 13, 14, 15, 16, 17, 18, 19, 20, 21, 22, 23, 24, 25, 26, 27, 28, 29, 30, 31, 32, 33] (by decide +kernel) (by decide +kernel)
set_option maxRecDepth 20000 in
theorem gX4_coast_X4_begin : GoodIn wsX4_coast (wsV RX4 56 RX4 yX4_begin wsX4_begin) := goodIn_app (goodIn_of _ (by decide +kernel)) ggX4_coast_X4_begin
theorem dX4_coast_0 : decode cX4_coast 0 = .ok (.iload_n 1, 1) := by decide +kernel
theorem dX4_coast_1 : decode cX4_coast 1 = .ok (.iconst 3, 1) := by decide +kernel
theorem dX4_coast_2 : decode cX4_coast 2 = .ok (.bipush 7, 2) := by decide +kernel
theorem dX4_coast_4 : decode cX4_coast 4 = .ok (.invokestatic 60, 3) := by decide +kernel
theorem dX4_coast_7 : decode cX4_coast 7 = .ok (.ifCond .ne 5, 3) := by decide +kernel
theorem dX4_coast_10 : decode cX4_coast 10 = .ok (.iconst (-1), 1) := by decide +kernel
theorem dX4_coast_11 : decode cX4_coast 11 = .ok (.ireturn, 1) := by decide +kernel
theorem dX4_coast_12 : decode cX4_coast 12 = .ok (.aload_n 0, 1) := by decide +kernel
theorem dX4_coast_13 : decode cX4_coast 13 = .ok (.iload_n 1, 1) := by decide +kernel
theorem dX4_coast_14 : decode cX4_coast 14 = .ok (.invokevirtual 56, 3) := by decide +kernel
theorem dX4_coast_17 : decode cX4_coast 17 = .ok (.iload_n 1, 1) := by decide +kernel
theorem dX4_coast_18 : decode cX4_coast 18 = .ok (.ireturn, 1) := by decide +kernel
set_option maxRecDepth 20000 in
theorem ggX4_set_X4_isCell : GoodIn wsX4_set wsX4_isCell := goodIn_r _ [8, 9, 10, 11, 7, 12, 13, 14, 15, 16, 17, 18, 19, 20, 21, 22, 23, 24, 25, 26, 27, 28] (by decide +kernel) (by decide +kernel)
set_option maxRecDepth 20000 in
theorem gX4_set_X4_isCell : GoodIn wsX4_set (wsV RX4 64 RX4 yX4_isCell wsX4_isCell) := goodIn_app (goodIn_of _ (by decide +kernel)) ggX4_set_X4_isCell
set_option maxRecDepth 20000 in
theorem ggX4_set_X4_in : GoodIn wsX4_set wsX4_in := goodIn_r _ [12] (by decide +kernel) (by decide +kernel)
set_option maxRecDepth 20000 in
theorem gX4_set_X4_in : GoodIn wsX4_set (va_wsS RX4 60 yX4_in wsX4_in) := goodIn_app (goodIn_of _ (by decide +kernel)) ggX4_set_X4_in
theorem dX4_set_0 : decode cX4_set 0 = .ok (.aload_n 0, 1) := by decide +kernel
theorem dX4_set_1 : decode cX4_set 1 = .ok (.iload_n 1, 1) := by decide +kernel
theorem dX4_set_2 : decode cX4_set 2 = .ok (.invokevirtual 64, 3) := by decide +kernel
theorem dX4_set_5 : decode cX4_set 5 = .ok (.ifCond .eq 41, 3) := by decide +kernel
theorem dX4_set_8 : decode cX4_set 8 = .ok (.iload_n 2, 1) := by decide +kernel
theorem dX4_set_9 : decode cX4_set 9 = .ok (.iconst 0, 1) := by decide +kernel
theorem dX4_set_10 : decode cX4_set 10 = .ok (.iconst 2, 1) := by decide +kernel
theorem dX4_set_11 : decode cX4_set 11 = .ok (.invokestatic 60, 3) := by decide +kernel
theorem dX4_set_14 : decode cX4_set 14 = .ok (.ifCond .eq 32, 3) := by decide +kernel
theorem dX4_set_17 : decode cX4_set 17 = .ok (.iload_n 3, 1) := by decide +kernel
theorem dX4_set_18 : decode cX4_set 18 = .ok (.iconst 0, 1) := by decide +kernel
theorem dX4_set_19 : decode cX4_set 19 = .ok (.iload_n 2, 1) := by decide +kernel
theorem dX4_set_20 : decode cX4_set 20 = .ok (.ifCond .ne 8, 3) := by decide +kernel
theorem dX4_set_23 : decode cX4_set 23 = .ok (.bipush 99, 2) := by decide +kernel
theorem dX4_set_25 : decode cX4_set 25 = .ok (.goto 15, 3) := by decide +kernel
theorem dX4_set_28 : decode cX4_set 28 = .ok (.iload_n 2, 1) := by decide +kernel
theorem dX4_set_29 : decode cX4_set 29 = .ok (.iconst 1, 1) := by decide +kernel
theorem dX4_set_30 : decode cX4_set 30 = .ok (.if_icmp .ne 8, 3) := by decide +kernel
theorem dX4_set_33 : decode cX4_set 33 = .ok (.bipush 9, 2) := by decide +kernel
theorem dX4_set_35 : decode cX4_set 35 = .ok (.goto 5, 3) := by decide +kernel
theorem dX4_set_38 : decode cX4_set 38 = .ok (.bipush 20, 2) := by decide +kernel
theorem dX4_set_40 : decode cX4_set 40 = .ok (.invokestatic 60, 3) := by decide +kernel
theorem dX4_set_43 : decode cX4_set 43 = .ok (.ifCond .ne 5, 3) := by decide +kernel
theorem dX4_set_46 : decode cX4_set 46 = .ok (.iconst (-1), 1) := by decide +kernel
theorem dX4_set_47 : decode cX4_set 47 = .ok (.ireturn, 1) := by decide +kernel
theorem dX4_set_48 : decode cX4_set 48 = .ok (.iload_n 2, 1) := by decide +kernel
theorem dX4_set_49 : decode cX4_set 49 = .ok (.ifCond .ne 12, 3) := by decide +kernel
theorem dX4_set_52 : decode cX4_set 52 = .ok (.aload_n 0, 1) := by decide +kernel
theorem dX4_set_53 : decode cX4_set 53 = .ok (.getfield 16, 3) := by decide +kernel
theorem dX4_set_56 : decode cX4_set 56 = .ok (.iload_n 1, 1) := by decide +kernel
theorem dX4_set_57 : decode cX4_set 57 = .ok (.iaload, 1) := by decide +kernel
theorem dX4_set_58 : decode cX4_set 58 = .ok (.goto 23, 3) := by decide +kernel
theorem dX4_set_61 : decode cX4_set 61 = .ok (.iload_n 2, 1) := by decide +kernel
theorem dX4_set_62 : decode cX4_set 62 = .ok (.iconst 1, 1) := by decide +kernel
theorem dX4_set_63 : decode cX4_set 63 = .ok (.if_icmp .ne 12, 3) := by decide +kernel
theorem dX4_set_66 : decode cX4_set 66 = .ok (.aload_n 0, 1) := by decide +kernel
theorem dX4_set_67 : decode cX4_set 67 = .ok (.getfield 20, 3) := by decide +kernel
theorem dX4_set_70 : decode cX4_set 70 = .ok (.iload_n 1, 1) := by decide +kernel
theorem dX4_set_71 : decode cX4_set 71 = .ok (.iaload, 1) := by decide +kernel
theorem dX4_set_72 : decode cX4_set 72 = .ok (.goto 9, 3) := by decide +kernel
theorem dX4_set_75 : decode cX4_set 75 = .ok (.aload_n 0, 1) := by decide +kernel
theorem dX4_set_76 : decode cX4_set 76 = .ok (.getfield 23, 3) := by decide +kernel
theorem dX4_set_79 : decode cX4_set 79 = .ok (.iload_n 1, 1) := by decide +kernel
theorem dX4_set_80 : decode cX4_set 80 = .ok (.iaload, 1) := by decide +kernel
theorem dX4_set_81 : decode cX4_set 81 = .ok (.istore 4, 2) := by decide +kernel
theorem dX4_set_83 : decode cX4_set 83 = .ok (.aload_n 0, 1) := by decide +kernel
theorem dX4_set_84 : decode cX4_set 84 = .ok (.getfield 16, 3) := by decide +kernel
theorem dX4_set_87 : decode cX4_set 87 = .ok (.iload_n 1, 1) := by decide +kernel
theorem dX4_set_88 : decode cX4_set 88 = .ok (.iload_n 2, 1) := by decide +kernel
theorem dX4_set_89 : decode cX4_set 89 = .ok (.ifCond .ne 7, 3) := by decide +kernel
theorem dX4_set_92 : decode cX4_set 92 = .ok (.iload_n 3, 1) := by decide +kernel
theorem dX4_set_93 : decode cX4_set 93 = .ok (.goto 9, 3) := by decide +kernel
theorem dX4_set_96 : decode cX4_set 96 = .ok (.aload_n 0, 1) := by decide +kernel
theorem dX4_set_97 : decode cX4_set 97 = .ok (.getfield 16, 3) := by decide +kernel
theorem dX4_set_100 : decode cX4_set 100 = .ok (.iload_n 1, 1) := by decide +kernel
theorem dX4_set_101 : decode cX4_set 101 = .ok (.iaload, 1) := by decide +kernel
theorem dX4_set_102 : decode cX4_set 102 = .ok (.iastore, 1) := by decide +kernel
theorem dX4_set_103 : decode cX4_set 103 = .ok (.aload_n 0, 1) := by decide +kernel
theorem dX4_set_104 : decode cX4_set 104 = .ok (.getfield 20, 3) := by decide +kernel
theorem dX4_set_107 : decode cX4_set 107 = .ok (.iload_n 1, 1) := by decide +kernel
theorem dX4_set_108 : decode cX4_set 108 = .ok (.iload_n 2, 1) := by decide +kernel
theorem dX4_set_109 : decode cX4_set 109 = .ok (.iconst 1, 1) := by decide +kernel
theorem dX4_set_110 : decode cX4_set 110 = .ok (.if_icmp .ne 7, 3) := by decide +kernel
theorem dX4_set_113 : decode cX4_set 113 = .ok (.iload_n 3, 1) := by decide +kernel
theorem dX4_set_114 : decode cX4_set 114 = .ok (.goto 9, 3) := by decide +kernel
theorem dX4_set_117 : decode cX4_set 117 = .ok (.aload_n 0, 1) := by decide +kernel
theorem dX4_set_118 : decode cX4_set 118 = .ok (.getfield 20, 3) := by decide +kernel
theorem dX4_set_121 : decode cX4_set 121 = .ok (.iload_n 1, 1) := by decide +kernel
theorem dX4_set_122 : decode cX4_set 122 = .ok (.iaload, 1) := by decide +kernel
theorem dX4_set_123 : decode cX4_set 123 = .ok (.iastore, 1) := by decide +kernel
theorem dX4_set_124 : decode cX4_set 124 = .ok (.aload_n 0, 1) := by decide +kernel
theorem dX4_set_125 : decode cX4_set 125 = .ok (.getfield 23, 3) := by decide +kernel
theorem dX4_set_128 : decode cX4_set 128 = .ok (.iload_n 1, 1) := by decide +kernel
theorem dX4_set_129 : decode cX4_set 129 = .ok (.iload_n 2, 1) := by decide +kernel
theorem dX4_set_130 : decode cX4_set 130 = .ok (.iconst 2, 1) := by decide +kernel
theorem dX4_set_131 : decode cX4_set 131 = .ok (.if_icmp .ne 7, 3) := by decide +kernel
theorem dX4_set_134 : decode cX4_set 134 = .ok (.iload_n 3, 1) := by decide +kernel
theorem dX4_set_135 : decode cX4_set 135 = .ok (.goto 9, 3) := by decide +kernel
theorem dX4_set_138 : decode cX4_set 138 = .ok (.aload_n 0, 1) := by decide +kernel
theorem dX4_set_139 : decode cX4_set 139 = .ok (.getfield 23, 3) := by decide +kernel
theorem dX4_set_142 : decode cX4_set 142 = .ok (.iload_n 1, 1) := by decide +kernel
theorem dX4_set_143 : decode cX4_set 143 = .ok (.iaload, 1) := by decide +kernel
theorem dX4_set_144 : decode cX4_set 144 = .ok (.iastore, 1) := by decide +kernel
theorem dX4_set_145 : decode cX4_set 145 = .ok (.iload 4, 2) := by decide +kernel
theorem dX4_set_147 : decode cX4_set 147 = .ok (.ireturn, 1) := by decide +kernel
set_option maxRecDepth 20000 in
theorem ggX4_of_X4_isCell : GoodIn wsX4_of wsX4_isCell := goodIn_r _ [9, 10, 11, 12, 8, 13, 14, 15, 16, 17, 18, 19, 20, 21, 22, 23, 24, 25, 26, 27, 28, 29] (by decide +kernel) (by decide +kernel)
set_option maxRecDepth 20000 in
theorem gX4_of_X4_isCell : GoodIn wsX4_of (wsV RX4 64 RX4 yX4_isCell wsX4_isCell) := goodIn_app (goodIn_of _ (by decide +kernel)) ggX4_of_X4_isCell
set_option maxRecDepth 20000 in
theorem ggX4_of_X4_in : GoodIn wsX4_of wsX4_in := goodIn_r _ [13] (by decide +kernel) (by decide +kernel)
set_option maxRecDepth 20000 in
theorem gX4_of_X4_in : GoodIn wsX4_of (va_wsS RX4 60 yX4_in wsX4_in) := goodIn_app (goodIn_of _ (by decide +kernel)) ggX4_of_X4_in
theorem dX4_of_0 : decode cX4_of 0 = .ok (.aload_n 0, 1) := by decide +kernel
theorem dX4_of_1 : decode cX4_of 1 = .ok (.iload_n 1, 1) := by decide +kernel
theorem dX4_of_2 : decode cX4_of 2 = .ok (.invokevirtual 64, 3) := by decide +kernel
theorem dX4_of_5 : decode cX4_of 5 = .ok (.ifCond .eq 12, 3) := by decide +kernel
theorem dX4_of_8 : decode cX4_of 8 = .ok (.iload_n 2, 1) := by decide +kernel
theorem dX4_of_9 : decode cX4_of 9 = .ok (.iconst 0, 1) := by decide +kernel
theorem dX4_of_10 : decode cX4_of 10 = .ok (.iconst 3, 1) := by decide +kernel
theorem dX4_of_11 : decode cX4_of 11 = .ok (.invokestatic 60, 3) := by decide +kernel
theorem dX4_of_14 : decode cX4_of 14 = .ok (.ifCond .ne 5, 3) := by decide +kernel
theorem dX4_of_17 : decode cX4_of 17 = .ok (.iconst (-1), 1) := by decide +kernel
theorem dX4_of_18 : decode cX4_of 18 = .ok (.ireturn, 1) := by decide +kernel
theorem dX4_of_19 : decode cX4_of 19 = .ok (.iload_n 2, 1) := by decide +kernel
theorem dX4_of_20 : decode cX4_of 20 = .ok (.ifCond .ne 12, 3) := by decide +kernel
theorem dX4_of_23 : decode cX4_of 23 = .ok (.aload_n 0, 1) := by decide +kernel
theorem dX4_of_24 : decode cX4_of 24 = .ok (.getfield 16, 3) := by decide +kernel
theorem dX4_of_27 : decode cX4_of 27 = .ok (.iload_n 1, 1) := by decide +kernel
theorem dX4_of_28 : decode cX4_of 28 = .ok (.iaload, 1) := by decide +kernel
theorem dX4_of_29 : decode cX4_of 29 = .ok (.goto 37, 3) := by decide +kernel
theorem dX4_of_32 : decode cX4_of 32 = .ok (.iload_n 2, 1) := by decide +kernel
theorem dX4_of_33 : decode cX4_of 33 = .ok (.iconst 1, 1) := by decide +kernel
theorem dX4_of_34 : decode cX4_of 34 = .ok (.if_icmp .ne 12, 3) := by decide +kernel
theorem dX4_of_37 : decode cX4_of 37 = .ok (.aload_n 0, 1) := by decide +kernel
theorem dX4_of_38 : decode cX4_of 38 = .ok (.getfield 20, 3) := by decide +kernel
theorem dX4_of_41 : decode cX4_of 41 = .ok (.iload_n 1, 1) := by decide +kernel
theorem dX4_of_42 : decode cX4_of 42 = .ok (.iaload, 1) := by decide +kernel
theorem dX4_of_43 : decode cX4_of 43 = .ok (.goto 23, 3) := by decide +kernel
theorem dX4_of_46 : decode cX4_of 46 = .ok (.iload_n 2, 1) := by decide +kernel
theorem dX4_of_47 : decode cX4_of 47 = .ok (.iconst 2, 1) := by decide +kernel
theorem dX4_of_48 : decode cX4_of 48 = .ok (.if_icmp .ne 12, 3) := by decide +kernel
theorem dX4_of_51 : decode cX4_of 51 = .ok (.aload_n 0, 1) := by decide +kernel
theorem dX4_of_52 : decode cX4_of 52 = .ok (.getfield 23, 3) := by decide +kernel
theorem dX4_of_55 : decode cX4_of 55 = .ok (.iload_n 1, 1) := by decide +kernel
theorem dX4_of_56 : decode cX4_of 56 = .ok (.iaload, 1) := by decide +kernel
theorem dX4_of_57 : decode cX4_of 57 = .ok (.goto 9, 3) := by decide +kernel
theorem dX4_of_60 : decode cX4_of 60 = .ok (.aload_n 0, 1) := by decide +kernel
theorem dX4_of_61 : decode cX4_of 61 = .ok (.getfield 26, 3) := by decide +kernel
theorem dX4_of_64 : decode cX4_of 64 = .ok (.iload_n 1, 1) := by decide +kernel
theorem dX4_of_65 : decode cX4_of 65 = .ok (.iaload, 1) := by decide +kernel
theorem dX4_of_66 : decode cX4_of 66 = .ok (.ireturn, 1) := by decide +kernel
theorem dX4_keeps_0 : decode cX4_keeps 0 = .ok (.iconst 1, 1) := by decide +kernel
theorem dX4_keeps_1 : decode cX4_keeps 1 = .ok (.iconst 2, 1) := by decide +kernel
theorem dX4_keeps_2 : decode cX4_keeps 2 = .ok (.aload_n 0, 1) := by decide +kernel
theorem dX4_keeps_3 : decode cX4_keeps 3 = .ok (.getfield 20, 3) := by decide +kernel
theorem dX4_keeps_6 : decode cX4_keeps 6 = .ok (.iload_n 1, 1) := by decide +kernel
theorem dX4_keeps_7 : decode cX4_keeps 7 = .ok (.iaload, 1) := by decide +kernel
theorem dX4_keeps_8 : decode cX4_keeps 8 = .ok (.imul, 1) := by decide +kernel
theorem dX4_keeps_9 : decode cX4_keeps 9 = .ok (.iadd, 1) := by decide +kernel
theorem dX4_keeps_10 : decode cX4_keeps 10 = .ok (.istore_n 3, 1) := by decide +kernel
theorem dX4_keeps_11 : decode cX4_keeps 11 = .ok (.iload_n 3, 1) := by decide +kernel
theorem dX4_keeps_12 : decode cX4_keeps 12 = .ok (.aload_n 0, 1) := by decide +kernel
theorem dX4_keeps_13 : decode cX4_keeps 13 = .ok (.getfield 23, 3) := by decide +kernel
theorem dX4_keeps_16 : decode cX4_keeps 16 = .ok (.iload_n 1, 1) := by decide +kernel
theorem dX4_keeps_17 : decode cX4_keeps 17 = .ok (.iaload, 1) := by decide +kernel
theorem dX4_keeps_18 : decode cX4_keeps 18 = .ok (.iadd, 1) := by decide +kernel
theorem dX4_keeps_19 : decode cX4_keeps 19 = .ok (.istore 4, 2) := by decide +kernel
theorem dX4_keeps_21 : decode cX4_keeps 21 = .ok (.iload 4, 2) := by decide +kernel
theorem dX4_keeps_23 : decode cX4_keeps 23 = .ok (.bipush 99, 2) := by decide +kernel
theorem dX4_keeps_25 : decode cX4_keeps 25 = .ok (.aload_n 0, 1) := by decide +kernel
theorem dX4_keeps_26 : decode cX4_keeps 26 = .ok (.getfield 16, 3) := by decide +kernel
theorem dX4_keeps_29 : decode cX4_keeps 29 = .ok (.iload_n 1, 1) := by decide +kernel
theorem dX4_keeps_30 : decode cX4_keeps 30 = .ok (.iaload, 1) := by decide +kernel
theorem dX4_keeps_31 : decode cX4_keeps 31 = .ok (.isub, 1) := by decide +kernel
theorem dX4_keeps_32 : decode cX4_keeps 32 = .ok (.if_icmp .ge 8, 3) := by decide +kernel
theorem dX4_keeps_35 : decode cX4_keeps 35 = .ok (.iload 4, 2) := by decide +kernel
theorem dX4_keeps_37 : decode cX4_keeps 37 = .ok (.goto 12, 3) := by decide +kernel
theorem dX4_keeps_40 : decode cX4_keeps 40 = .ok (.bipush 99, 2) := by decide +kernel
theorem dX4_keeps_42 : decode cX4_keeps 42 = .ok (.aload_n 0, 1) := by decide +kernel
theorem dX4_keeps_43 : decode cX4_keeps 43 = .ok (.getfield 16, 3) := by decide +kernel
theorem dX4_keeps_46 : decode cX4_keeps 46 = .ok (.iload_n 1, 1) := by decide +kernel
theorem dX4_keeps_47 : decode cX4_keeps 47 = .ok (.iaload, 1) := by decide +kernel
theorem dX4_keeps_48 : decode cX4_keeps 48 = .ok (.isub, 1) := by decide +kernel
theorem dX4_keeps_49 : decode cX4_keeps 49 = .ok (.istore 4, 2) := by decide +kernel
theorem dX4_keeps_51 : decode cX4_keeps 51 = .ok (.iload_n 2, 1) := by decide +kernel
theorem dX4_keeps_52 : decode cX4_keeps 52 = .ok (.iload 4, 2) := by decide +kernel
theorem dX4_keeps_54 : decode cX4_keeps 54 = .ok (.if_icmp .ge 7, 3) := by decide +kernel
theorem dX4_keeps_57 : decode cX4_keeps 57 = .ok (.iload_n 2, 1) := by decide +kernel
theorem dX4_keeps_58 : decode cX4_keeps 58 = .ok (.goto 5, 3) := by decide +kernel
theorem dX4_keeps_61 : decode cX4_keeps 61 = .ok (.iload 4, 2) := by decide +kernel
theorem dX4_keeps_63 : decode cX4_keeps 63 = .ok (.istore 5, 2) := by decide +kernel
theorem dX4_keeps_65 : decode cX4_keeps 65 = .ok (.aload_n 0, 1) := by decide +kernel
theorem dX4_keeps_66 : decode cX4_keeps 66 = .ok (.getfield 16, 3) := by decide +kernel
theorem dX4_keeps_69 : decode cX4_keeps 69 = .ok (.iload_n 1, 1) := by decide +kernel
theorem dX4_keeps_70 : decode cX4_keeps 70 = .ok (.dup2, 1) := by decide +kernel
theorem dX4_keeps_71 : decode cX4_keeps 71 = .ok (.iaload, 1) := by decide +kernel
theorem dX4_keeps_72 : decode cX4_keeps 72 = .ok (.iload 5, 2) := by decide +kernel
theorem dX4_keeps_74 : decode cX4_keeps 74 = .ok (.iadd, 1) := by decide +kernel
theorem dX4_keeps_75 : decode cX4_keeps 75 = .ok (.iastore, 1) := by decide +kernel
theorem dX4_keeps_76 : decode cX4_keeps 76 = .ok (.aload_n 0, 1) := by decide +kernel
theorem dX4_keeps_77 : decode cX4_keeps 77 = .ok (.getfield 26, 3) := by decide +kernel
theorem dX4_keeps_80 : decode cX4_keeps 80 = .ok (.iload_n 1, 1) := by decide +kernel
theorem dX4_keeps_81 : decode cX4_keeps 81 = .ok (.dup2, 1) := by decide +kernel
theorem dX4_keeps_82 : decode cX4_keeps 82 = .ok (.iaload, 1) := by decide +kernel
theorem dX4_keeps_83 : decode cX4_keeps 83 = .ok (.iload 5, 2) := by decide +kernel
theorem dX4_keeps_85 : decode cX4_keeps 85 = .ok (.iadd, 1) := by decide +kernel
theorem dX4_keeps_86 : decode cX4_keeps 86 = .ok (.iastore, 1) := by decide +kernel
theorem dX4_keeps_87 : decode cX4_keeps 87 = .ok (.aload_n 0, 1) := by decide +kernel
theorem dX4_keeps_88 : decode cX4_keeps 88 = .ok (.getfield 23, 3) := by decide +kernel
theorem dX4_keeps_91 : decode cX4_keeps 91 = .ok (.iload_n 1, 1) := by decide +kernel
theorem dX4_keeps_92 : decode cX4_keeps 92 = .ok (.dup2, 1) := by decide +kernel
theorem dX4_keeps_93 : decode cX4_keeps 93 = .ok (.iaload, 1) := by decide +kernel
theorem dX4_keeps_94 : decode cX4_keeps 94 = .ok (.iload 5, 2) := by decide +kernel
theorem dX4_keeps_96 : decode cX4_keeps 96 = .ok (.iload_n 3, 1) := by decide +kernel
theorem dX4_keeps_97 : decode cX4_keeps 97 = .ok (.if_icmp .le 10, 3) := by decide +kernel
theorem dX4_keeps_100 : decode cX4_keeps 100 = .ok (.iload 5, 2) := by decide +kernel
theorem dX4_keeps_102 : decode cX4_keeps 102 = .ok (.iload_n 3, 1) := by decide +kernel
theorem dX4_keeps_103 : decode cX4_keeps 103 = .ok (.isub, 1) := by decide +kernel
theorem dX4_keeps_104 : decode cX4_keeps 104 = .ok (.goto 4, 3) := by decide +kernel
theorem dX4_keeps_107 : decode cX4_keeps 107 = .ok (.iconst 0, 1) := by decide +kernel
theorem dX4_keeps_108 : decode cX4_keeps 108 = .ok (.isub, 1) := by decide +kernel
theorem dX4_keeps_109 : decode cX4_keeps 109 = .ok (.iastore, 1) := by decide +kernel
theorem dX4_keeps_110 : decode cX4_keeps 110 = .ok (.iload 5, 2) := by decide +kernel
theorem dX4_keeps_112 : decode cX4_keeps 112 = .ok (.ireturn, 1) := by decide +kernel
set_option maxRecDepth 20000 in
theorem ggX4_blow_X4_keeps : GoodIn wsX4_blow wsX4_keeps := goodIn_r _ [9, 2, 10, 3, 11, 12, 13, 14, 15, 16, 17, 18, 19, 20, 21, 22, 23, 24, 25, 26, 27] (by decide +kernel) (by decide +kernel)
set_option maxRecDepth 20000 in
theorem gX4_blow_X4_keeps : GoodIn wsX4_blow (wsV RX4 68 RX4 yX4_keeps wsX4_keeps) := goodIn_app (goodIn_of _ (by decide +kernel)) ggX4_blow_X4_keeps
theorem dX4_blow_0 : decode cX4_blow 0 = .ok (.iconst 0, 1) := by decide +kernel
theorem dX4_blow_1 : decode cX4_blow 1 = .ok (.istore_n 3, 1) := by decide +kernel
theorem dX4_blow_2 : decode cX4_blow 2 = .ok (.aload_n 0, 1) := by decide +kernel
theorem dX4_blow_3 : decode cX4_blow 3 = .ok (.getfield 7, 3) := by decide +kernel
theorem dX4_blow_6 : decode cX4_blow 6 = .ok (.iconst 1, 1) := by decide +kernel
theorem dX4_blow_7 : decode cX4_blow 7 = .ok (.isub, 1) := by decide +kernel
theorem dX4_blow_8 : decode cX4_blow 8 = .ok (.istore 4, 2) := by decide +kernel
theorem dX4_blow_10 : decode cX4_blow 10 = .ok (.iload 4, 2) := by decide +kernel
theorem dX4_blow_12 : decode cX4_blow 12 = .ok (.ifCond .lt 126, 3) := by decide +kernel
theorem dX4_blow_15 : decode cX4_blow 15 = .ok (.bipush 7, 2) := by decide +kernel
theorem dX4_blow_17 : decode cX4_blow 17 = .ok (.iload_n 1, 1) := by decide +kernel
theorem dX4_blow_18 : decode cX4_blow 18 = .ok (.imul, 1) := by decide +kernel
theorem dX4_blow_19 : decode cX4_blow 19 = .ok (.iload 4, 2) := by decide +kernel
theorem dX4_blow_21 : decode cX4_blow 21 = .ok (.iadd, 1) := by decide +kernel
theorem dX4_blow_22 : decode cX4_blow 22 = .ok (.istore 5, 2) := by decide +kernel
theorem dX4_blow_24 : decode cX4_blow 24 = .ok (.iload_n 2, 1) := by decide +kernel
theorem dX4_blow_25 : decode cX4_blow 25 = .ok (.aload_n 0, 1) := by decide +kernel
theorem dX4_blow_26 : decode cX4_blow 26 = .ok (.getfield 20, 3) := by decide +kernel
theorem dX4_blow_29 : decode cX4_blow 29 = .ok (.iload 5, 2) := by decide +kernel
theorem dX4_blow_31 : decode cX4_blow 31 = .ok (.iaload, 1) := by decide +kernel
theorem dX4_blow_32 : decode cX4_blow 32 = .ok (.if_icmp .le 15, 3) := by decide +kernel
theorem dX4_blow_35 : decode cX4_blow 35 = .ok (.iload_n 2, 1) := by decide +kernel
theorem dX4_blow_36 : decode cX4_blow 36 = .ok (.aload_n 0, 1) := by decide +kernel
theorem dX4_blow_37 : decode cX4_blow 37 = .ok (.getfield 20, 3) := by decide +kernel
theorem dX4_blow_40 : decode cX4_blow 40 = .ok (.iload 5, 2) := by decide +kernel
theorem dX4_blow_42 : decode cX4_blow 42 = .ok (.iaload, 1) := by decide +kernel
theorem dX4_blow_43 : decode cX4_blow 43 = .ok (.isub, 1) := by decide +kernel
theorem dX4_blow_44 : decode cX4_blow 44 = .ok (.goto 4, 3) := by decide +kernel
theorem dX4_blow_47 : decode cX4_blow 47 = .ok (.iconst 0, 1) := by decide +kernel
theorem dX4_blow_48 : decode cX4_blow 48 = .ok (.istore 6, 2) := by decide +kernel
theorem dX4_blow_50 : decode cX4_blow 50 = .ok (.iload 6, 2) := by decide +kernel
theorem dX4_blow_52 : decode cX4_blow 52 = .ok (.aload_n 0, 1) := by decide +kernel
theorem dX4_blow_53 : decode cX4_blow 53 = .ok (.getfield 16, 3) := by decide +kernel
theorem dX4_blow_56 : decode cX4_blow 56 = .ok (.iload 5, 2) := by decide +kernel
theorem dX4_blow_58 : decode cX4_blow 58 = .ok (.iaload, 1) := by decide +kernel
theorem dX4_blow_59 : decode cX4_blow 59 = .ok (.if_icmp .ge 8, 3) := by decide +kernel
theorem dX4_blow_62 : decode cX4_blow 62 = .ok (.iload 6, 2) := by decide +kernel
theorem dX4_blow_64 : decode cX4_blow 64 = .ok (.goto 10, 3) := by decide +kernel
theorem dX4_blow_67 : decode cX4_blow 67 = .ok (.aload_n 0, 1) := by decide +kernel
theorem dX4_blow_68 : decode cX4_blow 68 = .ok (.getfield 16, 3) := by decide +kernel
theorem dX4_blow_71 : decode cX4_blow 71 = .ok (.iload 5, 2) := by decide +kernel
theorem dX4_blow_73 : decode cX4_blow 73 = .ok (.iaload, 1) := by decide +kernel
theorem dX4_blow_74 : decode cX4_blow 74 = .ok (.istore 6, 2) := by decide +kernel
theorem dX4_blow_76 : decode cX4_blow 76 = .ok (.aload_n 0, 1) := by decide +kernel
theorem dX4_blow_77 : decode cX4_blow 77 = .ok (.getfield 16, 3) := by decide +kernel
theorem dX4_blow_80 : decode cX4_blow 80 = .ok (.iload 5, 2) := by decide +kernel
theorem dX4_blow_82 : decode cX4_blow 82 = .ok (.dup2, 1) := by decide +kernel
theorem dX4_blow_83 : decode cX4_blow 83 = .ok (.iaload, 1) := by decide +kernel
theorem dX4_blow_84 : decode cX4_blow 84 = .ok (.iload 6, 2) := by decide +kernel
theorem dX4_blow_86 : decode cX4_blow 86 = .ok (.isub, 1) := by decide +kernel
theorem dX4_blow_87 : decode cX4_blow 87 = .ok (.iastore, 1) := by decide +kernel
theorem dX4_blow_88 : decode cX4_blow 88 = .ok (.iload 4, 2) := by decide +kernel
theorem dX4_blow_90 : decode cX4_blow 90 = .ok (.iconst 1, 1) := by decide +kernel
theorem dX4_blow_91 : decode cX4_blow 91 = .ok (.iadd, 1) := by decide +kernel
theorem dX4_blow_92 : decode cX4_blow 92 = .ok (.istore 7, 2) := by decide +kernel
theorem dX4_blow_94 : decode cX4_blow 94 = .ok (.iload 7, 2) := by decide +kernel
theorem dX4_blow_96 : decode cX4_blow 96 = .ok (.aload_n 0, 1) := by decide +kernel
theorem dX4_blow_97 : decode cX4_blow 97 = .ok (.getfield 7, 3) := by decide +kernel
theorem dX4_blow_100 : decode cX4_blow 100 = .ok (.if_icmp .ge 27, 3) := by decide +kernel
theorem dX4_blow_103 : decode cX4_blow 103 = .ok (.iload 6, 2) := by decide +kernel
theorem dX4_blow_105 : decode cX4_blow 105 = .ok (.aload_n 0, 1) := by decide +kernel
theorem dX4_blow_106 : decode cX4_blow 106 = .ok (.bipush 7, 2) := by decide +kernel
theorem dX4_blow_108 : decode cX4_blow 108 = .ok (.iload_n 1, 1) := by decide +kernel
theorem dX4_blow_109 : decode cX4_blow 109 = .ok (.imul, 1) := by decide +kernel
theorem dX4_blow_110 : decode cX4_blow 110 = .ok (.iload 7, 2) := by decide +kernel
theorem dX4_blow_112 : decode cX4_blow 112 = .ok (.iadd, 1) := by decide +kernel
theorem dX4_blow_113 : decode cX4_blow 113 = .ok (.iload 6, 2) := by decide +kernel
theorem dX4_blow_115 : decode cX4_blow 115 = .ok (.invokevirtual 68, 3) := by decide +kernel
theorem dX4_blow_118 : decode cX4_blow 118 = .ok (.isub, 1) := by decide +kernel
theorem dX4_blow_119 : decode cX4_blow 119 = .ok (.istore 6, 2) := by decide +kernel
theorem dX4_blow_121 : decode cX4_blow 121 = .ok (.iinc 7 1, 3) := by decide +kernel
theorem dX4_blow_124 : decode cX4_blow 124 = .ok (.goto (-30), 3) := by decide +kernel
theorem dX4_blow_127 : decode cX4_blow 127 = .ok (.iload_n 3, 1) := by decide +kernel
theorem dX4_blow_128 : decode cX4_blow 128 = .ok (.iload 6, 2) := by decide +kernel
theorem dX4_blow_130 : decode cX4_blow 130 = .ok (.iadd, 1) := by decide +kernel
theorem dX4_blow_131 : decode cX4_blow 131 = .ok (.istore_n 3, 1) := by decide +kernel
theorem dX4_blow_132 : decode cX4_blow 132 = .ok (.iinc 4 (-1), 3) := by decide +kernel
theorem dX4_blow_135 : decode cX4_blow 135 = .ok (.goto (-125), 3) := by decide +kernel
theorem dX4_blow_138 : decode cX4_blow 138 = .ok (.aload_n 0, 1) := by decide +kernel
theorem dX4_blow_139 : decode cX4_blow 139 = .ok (.getfield 32, 3) := by decide +kernel
theorem dX4_blow_142 : decode cX4_blow 142 = .ok (.iload_n 1, 1) := by decide +kernel
theorem dX4_blow_143 : decode cX4_blow 143 = .ok (.dup2, 1) := by decide +kernel
theorem dX4_blow_144 : decode cX4_blow 144 = .ok (.iaload, 1) := by decide +kernel
theorem dX4_blow_145 : decode cX4_blow 145 = .ok (.iload_n 3, 1) := by decide +kernel
theorem dX4_blow_146 : decode cX4_blow 146 = .ok (.iadd, 1) := by decide +kernel
theorem dX4_blow_147 : decode cX4_blow 147 = .ok (.iastore, 1) := by decide +kernel
theorem dX4_blow_148 : decode cX4_blow 148 = .ok (.iload_n 3, 1) := by decide +kernel
theorem dX4_blow_149 : decode cX4_blow 149 = .ok (.ireturn, 1) := by decide +kernel
theorem dX4_flood_0 : decode cX4_flood 0 = .ok (.iconst 0, 1) := by decide +kernel
theorem dX4_flood_1 : decode cX4_flood 1 = .ok (.istore_n 3, 1) := by decide +kernel
theorem dX4_flood_2 : decode cX4_flood 2 = .ok (.iload_n 3, 1) := by decide +kernel
theorem dX4_flood_3 : decode cX4_flood 3 = .ok (.aload_n 0, 1) := by decide +kernel
theorem dX4_flood_4 : decode cX4_flood 4 = .ok (.getfield 7, 3) := by decide +kernel
theorem dX4_flood_7 : decode cX4_flood 7 = .ok (.if_icmp .ge 82, 3) := by decide +kernel
theorem dX4_flood_10 : decode cX4_flood 10 = .ok (.aload_n 0, 1) := by decide +kernel
theorem dX4_flood_11 : decode cX4_flood 11 = .ok (.getfield 16, 3) := by decide +kernel
theorem dX4_flood_14 : decode cX4_flood 14 = .ok (.bipush 7, 2) := by decide +kernel
theorem dX4_flood_16 : decode cX4_flood 16 = .ok (.iload_n 1, 1) := by decide +kernel
theorem dX4_flood_17 : decode cX4_flood 17 = .ok (.imul, 1) := by decide +kernel
theorem dX4_flood_18 : decode cX4_flood 18 = .ok (.iload_n 3, 1) := by decide +kernel
theorem dX4_flood_19 : decode cX4_flood 19 = .ok (.iadd, 1) := by decide +kernel
theorem dX4_flood_20 : decode cX4_flood 20 = .ok (.iaload, 1) := by decide +kernel
theorem dX4_flood_21 : decode cX4_flood 21 = .ok (.iload_n 2, 1) := by decide +kernel
theorem dX4_flood_22 : decode cX4_flood 22 = .ok (.if_icmp .ge 67, 3) := by decide +kernel
theorem dX4_flood_25 : decode cX4_flood 25 = .ok (.bipush 7, 2) := by decide +kernel
theorem dX4_flood_27 : decode cX4_flood 27 = .ok (.iload_n 1, 1) := by decide +kernel
theorem dX4_flood_28 : decode cX4_flood 28 = .ok (.imul, 1) := by decide +kernel
theorem dX4_flood_29 : decode cX4_flood 29 = .ok (.iload_n 3, 1) := by decide +kernel
theorem dX4_flood_30 : decode cX4_flood 30 = .ok (.iadd, 1) := by decide +kernel
theorem dX4_flood_31 : decode cX4_flood 31 = .ok (.istore 4, 2) := by decide +kernel
theorem dX4_flood_33 : decode cX4_flood 33 = .ok (.aload_n 0, 1) := by decide +kernel
theorem dX4_flood_34 : decode cX4_flood 34 = .ok (.getfield 16, 3) := by decide +kernel
theorem dX4_flood_37 : decode cX4_flood 37 = .ok (.iload 4, 2) := by decide +kernel
theorem dX4_flood_39 : decode cX4_flood 39 = .ok (.iaload, 1) := by decide +kernel
theorem dX4_flood_40 : decode cX4_flood 40 = .ok (.iconst 2, 1) := by decide +kernel
theorem dX4_flood_41 : decode cX4_flood 41 = .ok (.idiv, 1) := by decide +kernel
theorem dX4_flood_42 : decode cX4_flood 42 = .ok (.istore 5, 2) := by decide +kernel
theorem dX4_flood_44 : decode cX4_flood 44 = .ok (.aload_n 0, 1) := by decide +kernel
theorem dX4_flood_45 : decode cX4_flood 45 = .ok (.getfield 16, 3) := by decide +kernel
theorem dX4_flood_48 : decode cX4_flood 48 = .ok (.iload 4, 2) := by decide +kernel
theorem dX4_flood_50 : decode cX4_flood 50 = .ok (.dup2, 1) := by decide +kernel
theorem dX4_flood_51 : decode cX4_flood 51 = .ok (.iaload, 1) := by decide +kernel
theorem dX4_flood_52 : decode cX4_flood 52 = .ok (.iload 5, 2) := by decide +kernel
theorem dX4_flood_54 : decode cX4_flood 54 = .ok (.isub, 1) := by decide +kernel
theorem dX4_flood_55 : decode cX4_flood 55 = .ok (.iastore, 1) := by decide +kernel
theorem dX4_flood_56 : decode cX4_flood 56 = .ok (.aload_n 0, 1) := by decide +kernel
theorem dX4_flood_57 : decode cX4_flood 57 = .ok (.getfield 29, 3) := by decide +kernel
theorem dX4_flood_60 : decode cX4_flood 60 = .ok (.iload_n 1, 1) := by decide +kernel
theorem dX4_flood_61 : decode cX4_flood 61 = .ok (.dup2, 1) := by decide +kernel
theorem dX4_flood_62 : decode cX4_flood 62 = .ok (.iaload, 1) := by decide +kernel
theorem dX4_flood_63 : decode cX4_flood 63 = .ok (.iload 5, 2) := by decide +kernel
theorem dX4_flood_65 : decode cX4_flood 65 = .ok (.iadd, 1) := by decide +kernel
theorem dX4_flood_66 : decode cX4_flood 66 = .ok (.iastore, 1) := by decide +kernel
theorem dX4_flood_67 : decode cX4_flood 67 = .ok (.aload_n 0, 1) := by decide +kernel
theorem dX4_flood_68 : decode cX4_flood 68 = .ok (.getfield 20, 3) := by decide +kernel
theorem dX4_flood_71 : decode cX4_flood 71 = .ok (.iload 4, 2) := by decide +kernel
theorem dX4_flood_73 : decode cX4_flood 73 = .ok (.iconst 0, 1) := by decide +kernel
theorem dX4_flood_74 : decode cX4_flood 74 = .ok (.iastore, 1) := by decide +kernel
theorem dX4_flood_75 : decode cX4_flood 75 = .ok (.aload_n 0, 1) := by decide +kernel
theorem dX4_flood_76 : decode cX4_flood 76 = .ok (.getfield 23, 3) := by decide +kernel
theorem dX4_flood_79 : decode cX4_flood 79 = .ok (.iload 4, 2) := by decide +kernel
theorem dX4_flood_81 : decode cX4_flood 81 = .ok (.iconst 0, 1) := by decide +kernel
theorem dX4_flood_82 : decode cX4_flood 82 = .ok (.iastore, 1) := by decide +kernel
theorem dX4_flood_83 : decode cX4_flood 83 = .ok (.iinc 3 1, 3) := by decide +kernel
theorem dX4_flood_86 : decode cX4_flood 86 = .ok (.goto (-84), 3) := by decide +kernel
theorem dX4_flood_89 : decode cX4_flood 89 = .ok (.iload_n 3, 1) := by decide +kernel
theorem dX4_flood_90 : decode cX4_flood 90 = .ok (.aload_n 0, 1) := by decide +kernel
theorem dX4_flood_91 : decode cX4_flood 91 = .ok (.getfield 7, 3) := by decide +kernel
theorem dX4_flood_94 : decode cX4_flood 94 = .ok (.if_icmp .ne 16, 3) := by decide +kernel
theorem dX4_flood_97 : decode cX4_flood 97 = .ok (.aload_n 0, 1) := by decide +kernel
theorem dX4_flood_98 : decode cX4_flood 98 = .ok (.getfield 35, 3) := by decide +kernel
theorem dX4_flood_101 : decode cX4_flood 101 = .ok (.iload_n 1, 1) := by decide +kernel
theorem dX4_flood_102 : decode cX4_flood 102 = .ok (.dup2, 1) := by decide +kernel
theorem dX4_flood_103 : decode cX4_flood 103 = .ok (.iaload, 1) := by decide +kernel
theorem dX4_flood_104 : decode cX4_flood 104 = .ok (.iconst 1, 1) := by decide +kernel
theorem dX4_flood_105 : decode cX4_flood 105 = .ok (.iadd, 1) := by decide +kernel
theorem dX4_flood_106 : decode cX4_flood 106 = .ok (.iastore, 1) := by decide +kernel
theorem dX4_flood_107 : decode cX4_flood 107 = .ok (.goto 32, 3) := by decide +kernel
theorem dX4_flood_110 : decode cX4_flood 110 = .ok (.aload_n 0, 1) := by decide +kernel
theorem dX4_flood_111 : decode cX4_flood 111 = .ok (.getfield 16, 3) := by decide +kernel
theorem dX4_flood_114 : decode cX4_flood 114 = .ok (.bipush 7, 2) := by decide +kernel
theorem dX4_flood_116 : decode cX4_flood 116 = .ok (.iload_n 1, 1) := by decide +kernel
theorem dX4_flood_117 : decode cX4_flood 117 = .ok (.imul, 1) := by decide +kernel
theorem dX4_flood_118 : decode cX4_flood 118 = .ok (.iload_n 3, 1) := by decide +kernel
theorem dX4_flood_119 : decode cX4_flood 119 = .ok (.iadd, 1) := by decide +kernel
theorem dX4_flood_120 : decode cX4_flood 120 = .ok (.dup2, 1) := by decide +kernel
theorem dX4_flood_121 : decode cX4_flood 121 = .ok (.iaload, 1) := by decide +kernel
theorem dX4_flood_122 : decode cX4_flood 122 = .ok (.iload_n 2, 1) := by decide +kernel
theorem dX4_flood_123 : decode cX4_flood 123 = .ok (.iconst 4, 1) := by decide +kernel
theorem dX4_flood_124 : decode cX4_flood 124 = .ok (.idiv, 1) := by decide +kernel
theorem dX4_flood_125 : decode cX4_flood 125 = .ok (.isub, 1) := by decide +kernel
theorem dX4_flood_126 : decode cX4_flood 126 = .ok (.iastore, 1) := by decide +kernel
theorem dX4_flood_127 : decode cX4_flood 127 = .ok (.aload_n 0, 1) := by decide +kernel
theorem dX4_flood_128 : decode cX4_flood 128 = .ok (.getfield 29, 3) := by decide +kernel
theorem dX4_flood_131 : decode cX4_flood 131 = .ok (.iload_n 1, 1) := by decide +kernel
theorem dX4_flood_132 : decode cX4_flood 132 = .ok (.dup2, 1) := by decide +kernel
theorem dX4_flood_133 : decode cX4_flood 133 = .ok (.iaload, 1) := by decide +kernel
theorem dX4_flood_134 : decode cX4_flood 134 = .ok (.iload_n 2, 1) := by decide +kernel
theorem dX4_flood_135 : decode cX4_flood 135 = .ok (.iconst 4, 1) := by decide +kernel
theorem dX4_flood_136 : decode cX4_flood 136 = .ok (.idiv, 1) := by decide +kernel
theorem dX4_flood_137 : decode cX4_flood 137 = .ok (.iadd, 1) := by decide +kernel
theorem dX4_flood_138 : decode cX4_flood 138 = .ok (.iastore, 1) := by decide +kernel
theorem dX4_flood_139 : decode cX4_flood 139 = .ok (.iload_n 3, 1) := by decide +kernel
theorem dX4_flood_140 : decode cX4_flood 140 = .ok (.ireturn, 1) := by decide +kernel
set_option maxRecDepth 20000 in
theorem ggX4_endYear_X4_in : GoodIn wsX4_endYear wsX4_in := goodIn_r _ [7] (by decide +kernel) (by decide +kernel)
set_option maxRecDepth 20000 in
theorem gX4_endYear_X4_in : GoodIn wsX4_endYear (va_wsS RX4 60 yX4_in wsX4_in) := goodIn_app (goodIn_of _ (by decide +kernel)) ggX4_endYear_X4_in
theorem dX4_endYear_0 : decode cX4_endYear 0 = .ok (.iconst 0, 1) := by decide +kernel
theorem dX4_endYear_1 : decode cX4_endYear 1 = .ok (.istore_n 2, 1) := by decide +kernel
theorem dX4_endYear_2 : decode cX4_endYear 2 = .ok (.bipush 7, 2) := by decide +kernel
theorem dX4_endYear_4 : decode cX4_endYear 4 = .ok (.iload_n 1, 1) := by decide +kernel
theorem dX4_endYear_5 : decode cX4_endYear 5 = .ok (.imul, 1) := by decide +kernel
theorem dX4_endYear_6 : decode cX4_endYear 6 = .ok (.istore_n 3, 1) := by decide +kernel
theorem dX4_endYear_7 : decode cX4_endYear 7 = .ok (.iload_n 3, 1) := by decide +kernel
theorem dX4_endYear_8 : decode cX4_endYear 8 = .ok (.bipush 7, 2) := by decide +kernel
theorem dX4_endYear_10 : decode cX4_endYear 10 = .ok (.iload_n 1, 1) := by decide +kernel
theorem dX4_endYear_11 : decode cX4_endYear 11 = .ok (.imul, 1) := by decide +kernel
theorem dX4_endYear_12 : decode cX4_endYear 12 = .ok (.aload_n 0, 1) := by decide +kernel
theorem dX4_endYear_13 : decode cX4_endYear 13 = .ok (.getfield 7, 3) := by decide +kernel
theorem dX4_endYear_16 : decode cX4_endYear 16 = .ok (.iadd, 1) := by decide +kernel
theorem dX4_endYear_17 : decode cX4_endYear 17 = .ok (.if_icmp .ge 98, 3) := by decide +kernel
theorem dX4_endYear_20 : decode cX4_endYear 20 = .ok (.aload_n 0, 1) := by decide +kernel
theorem dX4_endYear_21 : decode cX4_endYear 21 = .ok (.getfield 20, 3) := by decide +kernel
theorem dX4_endYear_24 : decode cX4_endYear 24 = .ok (.iload_n 3, 1) := by decide +kernel
theorem dX4_endYear_25 : decode cX4_endYear 25 = .ok (.iaload, 1) := by decide +kernel
theorem dX4_endYear_26 : decode cX4_endYear 26 = .ok (.istore 4, 2) := by decide +kernel
theorem dX4_endYear_28 : decode cX4_endYear 28 = .ok (.iload 4, 2) := by decide +kernel
theorem dX4_endYear_30 : decode cX4_endYear 30 = .ok (.ifCond .le 35, 3) := by decide +kernel
theorem dX4_endYear_33 : decode cX4_endYear 33 = .ok (.aload_n 0, 1) := by decide +kernel
theorem dX4_endYear_34 : decode cX4_endYear 34 = .ok (.getfield 26, 3) := by decide +kernel
theorem dX4_endYear_37 : decode cX4_endYear 37 = .ok (.iload_n 3, 1) := by decide +kernel
theorem dX4_endYear_38 : decode cX4_endYear 38 = .ok (.iaload, 1) := by decide +kernel
theorem dX4_endYear_39 : decode cX4_endYear 39 = .ok (.iconst 1, 1) := by decide +kernel
theorem dX4_endYear_40 : decode cX4_endYear 40 = .ok (.bipush 9, 2) := by decide +kernel
theorem dX4_endYear_42 : decode cX4_endYear 42 = .ok (.invokestatic 60, 3) := by decide +kernel
theorem dX4_endYear_45 : decode cX4_endYear 45 = .ok (.ifCond .eq 20, 3) := by decide +kernel
theorem dX4_endYear_48 : decode cX4_endYear 48 = .ok (.iload 4, 2) := by decide +kernel
theorem dX4_endYear_50 : decode cX4_endYear 50 = .ok (.bipush 9, 2) := by decide +kernel
theorem dX4_endYear_52 : decode cX4_endYear 52 = .ok (.if_icmp .ge 13, 3) := by decide +kernel
theorem dX4_endYear_55 : decode cX4_endYear 55 = .ok (.aload_n 0, 1) := by decide +kernel
theorem dX4_endYear_56 : decode cX4_endYear 56 = .ok (.getfield 20, 3) := by decide +kernel
theorem dX4_endYear_59 : decode cX4_endYear 59 = .ok (.iload_n 3, 1) := by decide +kernel
theorem dX4_endYear_60 : decode cX4_endYear 60 = .ok (.iload 4, 2) := by decide +kernel
theorem dX4_endYear_62 : decode cX4_endYear 62 = .ok (.iconst 1, 1) := by decide +kernel
theorem dX4_endYear_63 : decode cX4_endYear 63 = .ok (.iadd, 1) := by decide +kernel
theorem dX4_endYear_64 : decode cX4_endYear 64 = .ok (.iastore, 1) := by decide +kernel
theorem dX4_endYear_65 : decode cX4_endYear 65 = .ok (.aload_n 0, 1) := by decide +kernel
theorem dX4_endYear_66 : decode cX4_endYear 66 = .ok (.getfield 26, 3) := by decide +kernel
theorem dX4_endYear_69 : decode cX4_endYear 69 = .ok (.iload_n 3, 1) := by decide +kernel
theorem dX4_endYear_70 : decode cX4_endYear 70 = .ok (.iaload, 1) := by decide +kernel
theorem dX4_endYear_71 : decode cX4_endYear 71 = .ok (.bipush 30, 2) := by decide +kernel
theorem dX4_endYear_73 : decode cX4_endYear 73 = .ok (.if_icmp .le 10, 3) := by decide +kernel
theorem dX4_endYear_76 : decode cX4_endYear 76 = .ok (.aload_n 0, 1) := by decide +kernel
theorem dX4_endYear_77 : decode cX4_endYear 77 = .ok (.getfield 20, 3) := by decide +kernel
theorem dX4_endYear_80 : decode cX4_endYear 80 = .ok (.iload_n 3, 1) := by decide +kernel
theorem dX4_endYear_81 : decode cX4_endYear 81 = .ok (.iconst 0, 1) := by decide +kernel
theorem dX4_endYear_82 : decode cX4_endYear 82 = .ok (.iastore, 1) := by decide +kernel
theorem dX4_endYear_83 : decode cX4_endYear 83 = .ok (.iload_n 2, 1) := by decide +kernel
theorem dX4_endYear_84 : decode cX4_endYear 84 = .ok (.aload_n 0, 1) := by decide +kernel
theorem dX4_endYear_85 : decode cX4_endYear 85 = .ok (.getfield 20, 3) := by decide +kernel
theorem dX4_endYear_88 : decode cX4_endYear 88 = .ok (.iload_n 3, 1) := by decide +kernel
theorem dX4_endYear_89 : decode cX4_endYear 89 = .ok (.iaload, 1) := by decide +kernel
theorem dX4_endYear_90 : decode cX4_endYear 90 = .ok (.iload 4, 2) := by decide +kernel
theorem dX4_endYear_92 : decode cX4_endYear 92 = .ok (.if_icmp .eq 7, 3) := by decide +kernel
theorem dX4_endYear_95 : decode cX4_endYear 95 = .ok (.iconst 1, 1) := by decide +kernel
theorem dX4_endYear_96 : decode cX4_endYear 96 = .ok (.goto 4, 3) := by decide +kernel
theorem dX4_endYear_99 : decode cX4_endYear 99 = .ok (.iconst 0, 1) := by decide +kernel
theorem dX4_endYear_100 : decode cX4_endYear 100 = .ok (.iadd, 1) := by decide +kernel
theorem dX4_endYear_101 : decode cX4_endYear 101 = .ok (.istore_n 2, 1) := by decide +kernel
theorem dX4_endYear_102 : decode cX4_endYear 102 = .ok (.aload_n 0, 1) := by decide +kernel
theorem dX4_endYear_103 : decode cX4_endYear 103 = .ok (.getfield 26, 3) := by decide +kernel
theorem dX4_endYear_106 : decode cX4_endYear 106 = .ok (.iload_n 3, 1) := by decide +kernel
theorem dX4_endYear_107 : decode cX4_endYear 107 = .ok (.iconst 0, 1) := by decide +kernel
theorem dX4_endYear_108 : decode cX4_endYear 108 = .ok (.iastore, 1) := by decide +kernel
theorem dX4_endYear_109 : decode cX4_endYear 109 = .ok (.iinc 3 1, 3) := by decide +kernel
theorem dX4_endYear_112 : decode cX4_endYear 112 = .ok (.goto (-105), 3) := by decide +kernel
theorem dX4_endYear_115 : decode cX4_endYear 115 = .ok (.iload_n 2, 1) := by decide +kernel
theorem dX4_endYear_116 : decode cX4_endYear 116 = .ok (.ireturn, 1) := by decide +kernel
set_option maxRecDepth 20000 in
theorem ggX4_wind_X4_in : GoodIn wsX4_wind wsX4_in := goodIn_r _ [4] (by decide +kernel) (by decide +kernel)
set_option maxRecDepth 20000 in
theorem gX4_wind_X4_in : GoodIn wsX4_wind (va_wsS RX4 60 yX4_in wsX4_in) := goodIn_app (goodIn_of _ (by decide +kernel)) ggX4_wind_X4_in
set_option maxRecDepth 20000 in
theorem ggX4_wind_X4_blow : GoodIn wsX4_wind wsX4_blow := goodIn_r _ [8, 9, 10, 11, 12, 13, 14, 15, 3, 16, 17, 18, 19, 20, 21, 22, 23, 24, 25, 26, 27, 28, 29, 30, 31, 32, 33, 34] (by decide +kernel) (by decide +kernel)
set_option maxRecDepth 20000 in
theorem gX4_wind_X4_blow : GoodIn wsX4_wind (wsV RX4 72 RX4 yX4_blow wsX4_blow) := goodIn_app (goodIn_of _ (by decide +kernel)) ggX4_wind_X4_blow
theorem dX4_wind_0 : decode cX4_wind 0 = .ok (.iload_n 1, 1) := by decide +kernel
theorem dX4_wind_1 : decode cX4_wind 1 = .ok (.iconst 1, 1) := by decide +kernel
theorem dX4_wind_2 : decode cX4_wind 2 = .ok (.bipush 9, 2) := by decide +kernel
theorem dX4_wind_4 : decode cX4_wind 4 = .ok (.invokestatic 60, 3) := by decide +kernel
theorem dX4_wind_7 : decode cX4_wind 7 = .ok (.ifCond .eq 12, 3) := by decide +kernel
theorem dX4_wind_10 : decode cX4_wind 10 = .ok (.aload_n 0, 1) := by decide +kernel
theorem dX4_wind_11 : decode cX4_wind 11 = .ok (.iconst 0, 1) := by decide +kernel
theorem dX4_wind_12 : decode cX4_wind 12 = .ok (.iload_n 1, 1) := by decide +kernel
theorem dX4_wind_13 : decode cX4_wind 13 = .ok (.invokevirtual 72, 3) := by decide +kernel
theorem dX4_wind_16 : decode cX4_wind 16 = .ok (.goto 4, 3) := by decide +kernel
theorem dX4_wind_19 : decode cX4_wind 19 = .ok (.iconst (-1), 1) := by decide +kernel
theorem dX4_wind_20 : decode cX4_wind 20 = .ok (.ireturn, 1) := by decide +kernel
set_option maxRecDepth 20000 in
theorem ggX4_storm_X4_in : GoodIn wsX4_storm wsX4_in := goodIn_r _ [4] (by decide +kernel) (by decide +kernel)
set_option maxRecDepth 20000 in
theorem gX4_storm_X4_in : GoodIn wsX4_storm (va_wsS RX4 60 yX4_in wsX4_in) := goodIn_app (goodIn_of _ (by decide +kernel)) ggX4_storm_X4_in
set_option maxRecDepth 20000 in
theorem ggX4_storm_X4_flood : GoodIn wsX4_storm wsX4_flood := goodIn_r _ [8, 9, 10, 11, 12, 13, 14, 15, 16, 17, 18, 19, 20, 21, 22, 23, 24, 25, 26, 27, 28, 29, 30] (by decide +kernel) (by decide +kernel)
set_option maxRecDepth 20000 in
theorem gX4_storm_X4_flood : GoodIn wsX4_storm (wsV RX4 75 RX4 yX4_flood wsX4_flood) := goodIn_app (goodIn_of _ (by decide +kernel)) ggX4_storm_X4_flood
theorem dX4_storm_0 : decode cX4_storm 0 = .ok (.iload_n 1, 1) := by decide +kernel
theorem dX4_storm_1 : decode cX4_storm 1 = .ok (.iconst 1, 1) := by decide +kernel
theorem dX4_storm_2 : decode cX4_storm 2 = .ok (.bipush 99, 2) := by decide +kernel
theorem dX4_storm_4 : decode cX4_storm 4 = .ok (.invokestatic 60, 3) := by decide +kernel
theorem dX4_storm_7 : decode cX4_storm 7 = .ok (.ifCond .eq 12, 3) := by decide +kernel
theorem dX4_storm_10 : decode cX4_storm 10 = .ok (.aload_n 0, 1) := by decide +kernel
theorem dX4_storm_11 : decode cX4_storm 11 = .ok (.iconst 0, 1) := by decide +kernel
theorem dX4_storm_12 : decode cX4_storm 12 = .ok (.iload_n 1, 1) := by decide +kernel
theorem dX4_storm_13 : decode cX4_storm 13 = .ok (.invokevirtual 75, 3) := by decide +kernel
theorem dX4_storm_16 : decode cX4_storm 16 = .ok (.goto 4, 3) := by decide +kernel
theorem dX4_storm_19 : decode cX4_storm 19 = .ok (.iconst (-1), 1) := by decide +kernel
theorem dX4_storm_20 : decode cX4_storm 20 = .ok (.ireturn, 1) := by decide +kernel
set_option maxRecDepth 20000 in
theorem ggX4_end_X4_endYear : GoodIn wsX4_end wsX4_endYear := goodIn_r _ [5, 6, 7, 8, 9, 10, 4, 11, 12, 13, 14, 15, 16, 17, 18, 19, 20, 21, 22, 23, 24, 25, 26, 27] (by decide +kernel) (by decide +kernel)
set_option maxRecDepth 20000 in
theorem gX4_end_X4_endYear : GoodIn wsX4_end (wsV RX4 78 RX4 yX4_endYear wsX4_endYear) := goodIn_app (goodIn_of _ (by decide +kernel)) ggX4_end_X4_endYear
theorem dX4_end_0 : decode cX4_end 0 = .ok (.aload_n 0, 1) := by decide +kernel
theorem dX4_end_1 : decode cX4_end 1 = .ok (.iconst 0, 1) := by decide +kernel
theorem dX4_end_2 : decode cX4_end 2 = .ok (.invokevirtual 78, 3) := by decide +kernel
theorem dX4_end_5 : decode cX4_end 5 = .ok (.ireturn, 1) := by decide +kernel
set_option maxRecDepth 20000 in
theorem ggX4_nourish_X4_in : GoodIn wsX4_nourish wsX4_in := goodIn_r _ [5] (by decide +kernel) (by decide +kernel)
set_option maxRecDepth 20000 in
theorem gX4_nourish_X4_in : GoodIn wsX4_nourish (va_wsS RX4 60 yX4_in wsX4_in) := goodIn_app (goodIn_of _ (by decide +kernel)) ggX4_nourish_X4_in
theorem dX4_nourish_0 : decode cX4_nourish 0 = .ok (.iload_n 1, 1) := by decide +kernel
theorem dX4_nourish_1 : decode cX4_nourish 1 = .ok (.iconst 1, 1) := by decide +kernel
theorem dX4_nourish_2 : decode cX4_nourish 2 = .ok (.bipush 99, 2) := by decide +kernel
theorem dX4_nourish_4 : decode cX4_nourish 4 = .ok (.invokestatic 60, 3) := by decide +kernel
theorem dX4_nourish_7 : decode cX4_nourish 7 = .ok (.ifCond .ne 5, 3) := by decide +kernel
theorem dX4_nourish_10 : decode cX4_nourish 10 = .ok (.iconst (-1), 1) := by decide +kernel
theorem dX4_nourish_11 : decode cX4_nourish 11 = .ok (.ireturn, 1) := by decide +kernel
theorem dX4_nourish_12 : decode cX4_nourish 12 = .ok (.iload_n 1, 1) := by decide +kernel
theorem dX4_nourish_13 : decode cX4_nourish 13 = .ok (.bipush 99, 2) := by decide +kernel
theorem dX4_nourish_15 : decode cX4_nourish 15 = .ok (.aload_n 0, 1) := by decide +kernel
theorem dX4_nourish_16 : decode cX4_nourish 16 = .ok (.getfield 16, 3) := by decide +kernel
theorem dX4_nourish_19 : decode cX4_nourish 19 = .ok (.iconst 0, 1) := by decide +kernel
theorem dX4_nourish_20 : decode cX4_nourish 20 = .ok (.iaload, 1) := by decide +kernel
theorem dX4_nourish_21 : decode cX4_nourish 21 = .ok (.isub, 1) := by decide +kernel
theorem dX4_nourish_22 : decode cX4_nourish 22 = .ok (.if_icmp .ge 7, 3) := by decide +kernel
theorem dX4_nourish_25 : decode cX4_nourish 25 = .ok (.iload_n 1, 1) := by decide +kernel
theorem dX4_nourish_26 : decode cX4_nourish 26 = .ok (.goto 12, 3) := by decide +kernel
theorem dX4_nourish_29 : decode cX4_nourish 29 = .ok (.bipush 99, 2) := by decide +kernel
theorem dX4_nourish_31 : decode cX4_nourish 31 = .ok (.aload_n 0, 1) := by decide +kernel
theorem dX4_nourish_32 : decode cX4_nourish 32 = .ok (.getfield 16, 3) := by decide +kernel
theorem dX4_nourish_35 : decode cX4_nourish 35 = .ok (.iconst 0, 1) := by decide +kernel
theorem dX4_nourish_36 : decode cX4_nourish 36 = .ok (.iaload, 1) := by decide +kernel
theorem dX4_nourish_37 : decode cX4_nourish 37 = .ok (.isub, 1) := by decide +kernel
theorem dX4_nourish_38 : decode cX4_nourish 38 = .ok (.istore_n 2, 1) := by decide +kernel
theorem dX4_nourish_39 : decode cX4_nourish 39 = .ok (.aload_n 0, 1) := by decide +kernel
theorem dX4_nourish_40 : decode cX4_nourish 40 = .ok (.getfield 16, 3) := by decide +kernel
theorem dX4_nourish_43 : decode cX4_nourish 43 = .ok (.iconst 0, 1) := by decide +kernel
theorem dX4_nourish_44 : decode cX4_nourish 44 = .ok (.dup2, 1) := by decide +kernel
theorem dX4_nourish_45 : decode cX4_nourish 45 = .ok (.iaload, 1) := by decide +kernel
theorem dX4_nourish_46 : decode cX4_nourish 46 = .ok (.iload_n 2, 1) := by decide +kernel
theorem dX4_nourish_47 : decode cX4_nourish 47 = .ok (.iadd, 1) := by decide +kernel
theorem dX4_nourish_48 : decode cX4_nourish 48 = .ok (.iastore, 1) := by decide +kernel
theorem dX4_nourish_49 : decode cX4_nourish 49 = .ok (.iload_n 2, 1) := by decide +kernel
theorem dX4_nourish_50 : decode cX4_nourish 50 = .ok (.ireturn, 1) := by decide +kernel
set_option maxRecDepth 20000 in
theorem ggX4_event_X4_isWeather : GoodIn wsX4_event wsX4_isWeather := goodIn_r _ [7, 8, 9, 6, 10] (by decide +kernel) (by decide +kernel)
set_option maxRecDepth 20000 in
theorem gX4_event_X4_isWeather : GoodIn wsX4_event (va_wsS RX4 82 yX4_isWeather wsX4_isWeather) := goodIn_app (goodIn_of _ (by decide +kernel)) ggX4_event_X4_isWeather
set_option maxRecDepth 20000 in
theorem ggX4_event_X4_in : GoodIn wsX4_event wsX4_in := goodIn_r _ [10] (by decide +kernel) (by decide +kernel)
set_option maxRecDepth 20000 in
theorem gX4_event_X4_in : GoodIn wsX4_event (va_wsS RX4 60 yX4_in wsX4_in) := goodIn_app (goodIn_of _ (by decide +kernel)) ggX4_event_X4_in
theorem dX4_event_0 : decode cX4_event 0 = .ok (.iload_n 1, 1) := by decide +kernel
theorem dX4_event_1 : decode cX4_event 1 = .ok (.invokestatic 82, 3) := by decide +kernel
theorem dX4_event_4 : decode cX4_event 4 = .ok (.ifCond .eq 36, 3) := by decide +kernel
theorem dX4_event_7 : decode cX4_event 7 = .ok (.iload_n 2, 1) := by decide +kernel
theorem dX4_event_8 : decode cX4_event 8 = .ok (.iconst 0, 1) := by decide +kernel
theorem dX4_event_9 : decode cX4_event 9 = .ok (.iconst 2, 1) := by decide +kernel
theorem dX4_event_10 : decode cX4_event 10 = .ok (.invokestatic 60, 3) := by decide +kernel
theorem dX4_event_13 : decode cX4_event 13 = .ok (.ifCond .eq 27, 3) := by decide +kernel
theorem dX4_event_16 : decode cX4_event 16 = .ok (.iload_n 2, 1) := by decide +kernel
theorem dX4_event_17 : decode cX4_event 17 = .ok (.iconst 2, 1) := by decide +kernel
theorem dX4_event_18 : decode cX4_event 18 = .ok (.if_icmp .ge 24, 3) := by decide +kernel
theorem dX4_event_21 : decode cX4_event 21 = .ok (.iload_n 3, 1) := by decide +kernel
theorem dX4_event_22 : decode cX4_event 22 = .ok (.iconst 1, 1) := by decide +kernel
theorem dX4_event_23 : decode cX4_event 23 = .ok (.iload_n 2, 1) := by decide +kernel
theorem dX4_event_24 : decode cX4_event 24 = .ok (.ifCond .ne 8, 3) := by decide +kernel
theorem dX4_event_27 : decode cX4_event 27 = .ok (.bipush 9, 2) := by decide +kernel
theorem dX4_event_29 : decode cX4_event 29 = .ok (.goto 5, 3) := by decide +kernel
theorem dX4_event_32 : decode cX4_event 32 = .ok (.bipush 99, 2) := by decide +kernel
theorem dX4_event_34 : decode cX4_event 34 = .ok (.invokestatic 60, 3) := by decide +kernel
theorem dX4_event_37 : decode cX4_event 37 = .ok (.ifCond .ne 5, 3) := by decide +kernel
theorem dX4_event_40 : decode cX4_event 40 = .ok (.iconst (-1), 1) := by decide +kernel
theorem dX4_event_41 : decode cX4_event 41 = .ok (.ireturn, 1) := by decide +kernel
theorem dX4_event_42 : decode cX4_event 42 = .ok (.aload_n 0, 1) := by decide +kernel
theorem dX4_event_43 : decode cX4_event 43 = .ok (.getfield 38, 3) := by decide +kernel
theorem dX4_event_46 : decode cX4_event 46 = .ok (.iload_n 1, 1) := by decide +kernel
theorem dX4_event_47 : decode cX4_event 47 = .ok (.iaload, 1) := by decide +kernel
theorem dX4_event_48 : decode cX4_event 48 = .ok (.bipush 12, 2) := by decide +kernel
theorem dX4_event_50 : decode cX4_event 50 = .ok (.if_icmp .ne 6, 3) := by decide +kernel
theorem dX4_event_53 : decode cX4_event 53 = .ok (.bipush (-2), 2) := by decide +kernel
theorem dX4_event_55 : decode cX4_event 55 = .ok (.ireturn, 1) := by decide +kernel
theorem dX4_event_56 : decode cX4_event 56 = .ok (.aload_n 0, 1) := by decide +kernel
theorem dX4_event_57 : decode cX4_event 57 = .ok (.getfield 41, 3) := by decide +kernel
theorem dX4_event_60 : decode cX4_event 60 = .ok (.bipush 12, 2) := by decide +kernel
theorem dX4_event_62 : decode cX4_event 62 = .ok (.iload_n 1, 1) := by decide +kernel
theorem dX4_event_63 : decode cX4_event 63 = .ok (.imul, 1) := by decide +kernel
theorem dX4_event_64 : decode cX4_event 64 = .ok (.aload_n 0, 1) := by decide +kernel
theorem dX4_event_65 : decode cX4_event 65 = .ok (.getfield 38, 3) := by decide +kernel
theorem dX4_event_68 : decode cX4_event 68 = .ok (.iload_n 1, 1) := by decide +kernel
theorem dX4_event_69 : decode cX4_event 69 = .ok (.iaload, 1) := by decide +kernel
theorem dX4_event_70 : decode cX4_event 70 = .ok (.iadd, 1) := by decide +kernel
theorem dX4_event_71 : decode cX4_event 71 = .ok (.iload_n 2, 1) := by decide +kernel
theorem dX4_event_72 : decode cX4_event 72 = .ok (.iastore, 1) := by decide +kernel
theorem dX4_event_73 : decode cX4_event 73 = .ok (.aload_n 0, 1) := by decide +kernel
theorem dX4_event_74 : decode cX4_event 74 = .ok (.getfield 44, 3) := by decide +kernel
theorem dX4_event_77 : decode cX4_event 77 = .ok (.bipush 12, 2) := by decide +kernel
theorem dX4_event_79 : decode cX4_event 79 = .ok (.iload_n 1, 1) := by decide +kernel
theorem dX4_event_80 : decode cX4_event 80 = .ok (.imul, 1) := by decide +kernel
theorem dX4_event_81 : decode cX4_event 81 = .ok (.aload_n 0, 1) := by decide +kernel
theorem dX4_event_82 : decode cX4_event 82 = .ok (.getfield 38, 3) := by decide +kernel
theorem dX4_event_85 : decode cX4_event 85 = .ok (.iload_n 1, 1) := by decide +kernel
theorem dX4_event_86 : decode cX4_event 86 = .ok (.iaload, 1) := by decide +kernel
theorem dX4_event_87 : decode cX4_event 87 = .ok (.iadd, 1) := by decide +kernel
theorem dX4_event_88 : decode cX4_event 88 = .ok (.iload_n 3, 1) := by decide +kernel
theorem dX4_event_89 : decode cX4_event 89 = .ok (.iastore, 1) := by decide +kernel
theorem dX4_event_90 : decode cX4_event 90 = .ok (.aload_n 0, 1) := by decide +kernel
theorem dX4_event_91 : decode cX4_event 91 = .ok (.getfield 38, 3) := by decide +kernel
theorem dX4_event_94 : decode cX4_event 94 = .ok (.iload_n 1, 1) := by decide +kernel
theorem dX4_event_95 : decode cX4_event 95 = .ok (.dup2, 1) := by decide +kernel
theorem dX4_event_96 : decode cX4_event 96 = .ok (.iaload, 1) := by decide +kernel
theorem dX4_event_97 : decode cX4_event 97 = .ok (.iconst 1, 1) := by decide +kernel
theorem dX4_event_98 : decode cX4_event 98 = .ok (.iadd, 1) := by decide +kernel
theorem dX4_event_99 : decode cX4_event 99 = .ok (.iastore, 1) := by decide +kernel
theorem dX4_event_100 : decode cX4_event 100 = .ok (.aload_n 0, 1) := by decide +kernel
theorem dX4_event_101 : decode cX4_event 101 = .ok (.getfield 38, 3) := by decide +kernel
theorem dX4_event_104 : decode cX4_event 104 = .ok (.iload_n 1, 1) := by decide +kernel
theorem dX4_event_105 : decode cX4_event 105 = .ok (.iaload, 1) := by decide +kernel
theorem dX4_event_106 : decode cX4_event 106 = .ok (.ireturn, 1) := by decide +kernel
set_option maxRecDepth 20000 in
theorem ggX4_calm_X4_isWeather : GoodIn wsX4_calm wsX4_isWeather := goodIn_r _ [5, 6, 7, 4, 8] (by decide +kernel) (by decide +kernel)
set_option maxRecDepth 20000 in
theorem gX4_calm_X4_isWeather : GoodIn wsX4_calm (va_wsS RX4 82 yX4_isWeather wsX4_isWeather) := goodIn_app (goodIn_of _ (by decide +kernel)) ggX4_calm_X4_isWeather
theorem dX4_calm_0 : decode cX4_calm 0 = .ok (.iload_n 1, 1) := by decide +kernel
theorem dX4_calm_1 : decode cX4_calm 1 = .ok (.invokestatic 82, 3) := by decide +kernel
theorem dX4_calm_4 : decode cX4_calm 4 = .ok (.ifCond .ne 5, 3) := by decide +kernel
theorem dX4_calm_7 : decode cX4_calm 7 = .ok (.iconst (-1), 1) := by decide +kernel
theorem dX4_calm_8 : decode cX4_calm 8 = .ok (.ireturn, 1) := by decide +kernel
theorem dX4_calm_9 : decode cX4_calm 9 = .ok (.aload_n 0, 1) := by decide +kernel
theorem dX4_calm_10 : decode cX4_calm 10 = .ok (.getfield 38, 3) := by decide +kernel
theorem dX4_calm_13 : decode cX4_calm 13 = .ok (.iload_n 1, 1) := by decide +kernel
theorem dX4_calm_14 : decode cX4_calm 14 = .ok (.iaload, 1) := by decide +kernel
theorem dX4_calm_15 : decode cX4_calm 15 = .ok (.istore_n 2, 1) := by decide +kernel
theorem dX4_calm_16 : decode cX4_calm 16 = .ok (.aload_n 0, 1) := by decide +kernel
theorem dX4_calm_17 : decode cX4_calm 17 = .ok (.getfield 38, 3) := by decide +kernel
theorem dX4_calm_20 : decode cX4_calm 20 = .ok (.iload_n 1, 1) := by decide +kernel
theorem dX4_calm_21 : decode cX4_calm 21 = .ok (.iconst 0, 1) := by decide +kernel
theorem dX4_calm_22 : decode cX4_calm 22 = .ok (.iastore, 1) := by decide +kernel
theorem dX4_calm_23 : decode cX4_calm 23 = .ok (.iload_n 2, 1) := by decide +kernel
theorem dX4_calm_24 : decode cX4_calm 24 = .ok (.ireturn, 1) := by decide +kernel
set_option maxRecDepth 20000 in
theorem ggX4_size_X4_in : GoodIn wsX4_size wsX4_in := goodIn_r _ [5] (by decide +kernel) (by decide +kernel)
set_option maxRecDepth 20000 in
theorem gX4_size_X4_in : GoodIn wsX4_size (va_wsS RX4 60 yX4_in wsX4_in) := goodIn_app (goodIn_of _ (by decide +kernel)) ggX4_size_X4_in
theorem dX4_size_0 : decode cX4_size 0 = .ok (.iload_n 1, 1) := by decide +kernel
theorem dX4_size_1 : decode cX4_size 1 = .ok (.iconst 1, 1) := by decide +kernel
theorem dX4_size_2 : decode cX4_size 2 = .ok (.bipush 20, 2) := by decide +kernel
theorem dX4_size_4 : decode cX4_size 4 = .ok (.invokestatic 60, 3) := by decide +kernel
theorem dX4_size_7 : decode cX4_size 7 = .ok (.ifCond .ne 5, 3) := by decide +kernel
theorem dX4_size_10 : decode cX4_size 10 = .ok (.iconst (-1), 1) := by decide +kernel
theorem dX4_size_11 : decode cX4_size 11 = .ok (.ireturn, 1) := by decide +kernel
theorem dX4_size_12 : decode cX4_size 12 = .ok (.aload_n 0, 1) := by decide +kernel
theorem dX4_size_13 : decode cX4_size 13 = .ok (.getfield 13, 3) := by decide +kernel
theorem dX4_size_16 : decode cX4_size 16 = .ok (.istore_n 2, 1) := by decide +kernel
theorem dX4_size_17 : decode cX4_size 17 = .ok (.aload_n 0, 1) := by decide +kernel
theorem dX4_size_18 : decode cX4_size 18 = .ok (.iload_n 1, 1) := by decide +kernel
theorem dX4_size_19 : decode cX4_size 19 = .ok (.putfield 13, 3) := by decide +kernel
theorem dX4_size_22 : decode cX4_size 22 = .ok (.iload_n 2, 1) := by decide +kernel
theorem dX4_size_23 : decode cX4_size 23 = .ok (.ireturn, 1) := by decide +kernel
theorem dX4_setFence_0 : decode cX4_setFence 0 = .ok (.iload_n 1, 1) := by decide +kernel
theorem dX4_setFence_1 : decode cX4_setFence 1 = .ok (.iconst 3, 1) := by decide +kernel
theorem dX4_setFence_2 : decode cX4_setFence 2 = .ok (.if_icmp .ge 30, 3) := by decide +kernel
theorem dX4_setFence_5 : decode cX4_setFence 5 = .ok (.aload_n 0, 1) := by decide +kernel
theorem dX4_setFence_6 : decode cX4_setFence 6 = .ok (.getfield 50, 3) := by decide +kernel
theorem dX4_setFence_9 : decode cX4_setFence 9 = .ok (.iload_n 1, 1) := by decide +kernel
theorem dX4_setFence_10 : decode cX4_setFence 10 = .ok (.iaload, 1) := by decide +kernel
theorem dX4_setFence_11 : decode cX4_setFence 11 = .ok (.ifCond .lt 21, 3) := by decide +kernel
theorem dX4_setFence_14 : decode cX4_setFence 14 = .ok (.aload_n 0, 1) := by decide +kernel
theorem dX4_setFence_15 : decode cX4_setFence 15 = .ok (.getfield 23, 3) := by decide +kernel
theorem dX4_setFence_18 : decode cX4_setFence 18 = .ok (.bipush 14, 2) := by decide +kernel
theorem dX4_setFence_20 : decode cX4_setFence 20 = .ok (.aload_n 0, 1) := by decide +kernel
theorem dX4_setFence_21 : decode cX4_setFence 21 = .ok (.getfield 50, 3) := by decide +kernel
theorem dX4_setFence_24 : decode cX4_setFence 24 = .ok (.iload_n 1, 1) := by decide +kernel
theorem dX4_setFence_25 : decode cX4_setFence 25 = .ok (.iaload, 1) := by decide +kernel
theorem dX4_setFence_26 : decode cX4_setFence 26 = .ok (.iadd, 1) := by decide +kernel
theorem dX4_setFence_27 : decode cX4_setFence 27 = .ok (.aload_n 0, 1) := by decide +kernel
theorem dX4_setFence_28 : decode cX4_setFence 28 = .ok (.getfield 13, 3) := by decide +kernel
theorem dX4_setFence_31 : decode cX4_setFence 31 = .ok (.iastore, 1) := by decide +kernel
theorem dX4_setFence_32 : decode cX4_setFence 32 = .ok (.return_, 1) := by decide +kernel
set_option maxRecDepth 20000 in
theorem ggX4_tryOut_X4_copy : GoodIn wsX4_tryOut wsX4_copy := goodIn_r _ [9, 10, 11, 12, 13, 14, 15, 1, 42, 43, 44, 45, 46, 47, 48, 49, 50, 51, 52, 53, 54, 55, 56, 57] (by decide +kernel) (by decide +kernel)
set_option maxRecDepth 20000 in
theorem gX4_tryOut_X4_copy : GoodIn wsX4_tryOut (wsV RX4 85 RX4 yX4_copy wsX4_copy) := goodIn_app (goodIn_of _ (by decide +kernel)) ggX4_tryOut_X4_copy
set_option maxRecDepth 20000 in
theorem ggX4_tryOut_X4_setFence : GoodIn wsX4_tryOut wsX4_setFence := goodIn_r _ [19, 20, 12, 21, 42, 43, 44, 45, 46, 47, 48, 49, 50, 51, 52, 53, 54, 55, 56, 57] (by decide +kernel) (by decide +kernel)
set_option maxRecDepth 20000 in
theorem gX4_tryOut_X4_setFence : GoodIn wsX4_tryOut (wsV RX4 89 RX4 yX4_setFence wsX4_setFence) := goodIn_app (goodIn_of _ (by decide +kernel)) ggX4_tryOut_X4_setFence
set_option maxRecDepth 20000 in
theorem ggX4_tryOut_X4_blow : GoodIn wsX4_tryOut wsX4_blow := goodIn_r _ [25, 26, 11, 10, 15, 27, 28, 29, 8, 30, 12, 13, 42, 43, 44, 45, 46, 47, 48, 49, 50, 51, 52, 53, 54, 55, 56, 57] (by decide +kernel) (by decide +kernel)
set_option maxRecDepth 20000 in
theorem gX4_tryOut_X4_blow : GoodIn wsX4_tryOut (wsV RX4 72 RX4 yX4_blow wsX4_blow) := goodIn_app (goodIn_of _ (by decide +kernel)) ggX4_tryOut_X4_blow
set_option maxRecDepth 20000 in
theorem ggX4_tryOut_X4_flood : GoodIn wsX4_tryOut wsX4_flood := goodIn_r _ [34, 26, 10, 14, 11, 12, 1, 42, 43, 44, 45, 46, 47, 48, 49, 50, 51, 52, 53, 54, 55, 56, 57] (by decide +kernel) (by decide +kernel)
set_option maxRecDepth 20000 in
theorem gX4_tryOut_X4_flood : GoodIn wsX4_tryOut (wsV RX4 75 RX4 yX4_flood wsX4_flood) := goodIn_app (goodIn_of _ (by decide +kernel)) ggX4_tryOut_X4_flood
set_option maxRecDepth 20000 in
theorem ggX4_tryOut_X4_endYear : GoodIn wsX4_tryOut wsX4_endYear := goodIn_r _ [38, 26, 11, 13, 39, 40, 8, 41, 42, 43, 44, 45, 46, 47, 48, 49, 50, 51, 52, 53, 54, 55, 56, 57] (by decide +kernel) (by decide +kernel)
set_option maxRecDepth 20000 in
theorem gX4_tryOut_X4_endYear : GoodIn wsX4_tryOut (wsV RX4 78 RX4 yX4_endYear wsX4_endYear) := goodIn_app (goodIn_of _ (by decide +kernel)) ggX4_tryOut_X4_endYear
theorem dX4_tryOut_0 : decode cX4_tryOut 0 = .ok (.aload_n 0, 1) := by decide +kernel
theorem dX4_tryOut_1 : decode cX4_tryOut 1 = .ok (.iconst 0, 1) := by decide +kernel
theorem dX4_tryOut_2 : decode cX4_tryOut 2 = .ok (.iconst 2, 1) := by decide +kernel
theorem dX4_tryOut_3 : decode cX4_tryOut 3 = .ok (.invokevirtual 85, 3) := by decide +kernel
theorem dX4_tryOut_6 : decode cX4_tryOut 6 = .ok (.aload_n 0, 1) := by decide +kernel
theorem dX4_tryOut_7 : decode cX4_tryOut 7 = .ok (.getfield 35, 3) := by decide +kernel
theorem dX4_tryOut_10 : decode cX4_tryOut 10 = .ok (.iconst 2, 1) := by decide +kernel
theorem dX4_tryOut_11 : decode cX4_tryOut 11 = .ok (.iconst 0, 1) := by decide +kernel
theorem dX4_tryOut_12 : decode cX4_tryOut 12 = .ok (.iastore, 1) := by decide +kernel
theorem dX4_tryOut_13 : decode cX4_tryOut 13 = .ok (.iconst 0, 1) := by decide +kernel
theorem dX4_tryOut_14 : decode cX4_tryOut 14 = .ok (.istore_n 2, 1) := by decide +kernel
theorem dX4_tryOut_15 : decode cX4_tryOut 15 = .ok (.aload_n 0, 1) := by decide +kernel
theorem dX4_tryOut_16 : decode cX4_tryOut 16 = .ok (.iconst 0, 1) := by decide +kernel
theorem dX4_tryOut_17 : decode cX4_tryOut 17 = .ok (.invokevirtual 89, 3) := by decide +kernel
theorem dX4_tryOut_20 : decode cX4_tryOut 20 = .ok (.bipush 12, 2) := by decide +kernel
theorem dX4_tryOut_22 : decode cX4_tryOut 22 = .ok (.iload_n 1, 1) := by decide +kernel
theorem dX4_tryOut_23 : decode cX4_tryOut 23 = .ok (.imul, 1) := by decide +kernel
theorem dX4_tryOut_24 : decode cX4_tryOut 24 = .ok (.istore_n 3, 1) := by decide +kernel
theorem dX4_tryOut_25 : decode cX4_tryOut 25 = .ok (.iload_n 3, 1) := by decide +kernel
theorem dX4_tryOut_26 : decode cX4_tryOut 26 = .ok (.bipush 12, 2) := by decide +kernel
theorem dX4_tryOut_28 : decode cX4_tryOut 28 = .ok (.iload_n 1, 1) := by decide +kernel
theorem dX4_tryOut_29 : decode cX4_tryOut 29 = .ok (.imul, 1) := by decide +kernel
theorem dX4_tryOut_30 : decode cX4_tryOut 30 = .ok (.aload_n 0, 1) := by decide +kernel
theorem dX4_tryOut_31 : decode cX4_tryOut 31 = .ok (.getfield 38, 3) := by decide +kernel
theorem dX4_tryOut_34 : decode cX4_tryOut 34 = .ok (.iload_n 1, 1) := by decide +kernel
theorem dX4_tryOut_35 : decode cX4_tryOut 35 = .ok (.iaload, 1) := by decide +kernel
theorem dX4_tryOut_36 : decode cX4_tryOut 36 = .ok (.iadd, 1) := by decide +kernel
theorem dX4_tryOut_37 : decode cX4_tryOut 37 = .ok (.if_icmp .ge 75, 3) := by decide +kernel
theorem dX4_tryOut_40 : decode cX4_tryOut 40 = .ok (.aload_n 0, 1) := by decide +kernel
theorem dX4_tryOut_41 : decode cX4_tryOut 41 = .ok (.getfield 41, 3) := by decide +kernel
theorem dX4_tryOut_44 : decode cX4_tryOut 44 = .ok (.iload_n 3, 1) := by decide +kernel
theorem dX4_tryOut_45 : decode cX4_tryOut 45 = .ok (.iaload, 1) := by decide +kernel
theorem dX4_tryOut_46 : decode cX4_tryOut 46 = .ok (.ifCond .ne 19, 3) := by decide +kernel
theorem dX4_tryOut_49 : decode cX4_tryOut 49 = .ok (.aload_n 0, 1) := by decide +kernel
theorem dX4_tryOut_50 : decode cX4_tryOut 50 = .ok (.iconst 2, 1) := by decide +kernel
theorem dX4_tryOut_51 : decode cX4_tryOut 51 = .ok (.aload_n 0, 1) := by decide +kernel
theorem dX4_tryOut_52 : decode cX4_tryOut 52 = .ok (.getfield 44, 3) := by decide +kernel
theorem dX4_tryOut_55 : decode cX4_tryOut 55 = .ok (.iload_n 3, 1) := by decide +kernel
theorem dX4_tryOut_56 : decode cX4_tryOut 56 = .ok (.iaload, 1) := by decide +kernel
theorem dX4_tryOut_57 : decode cX4_tryOut 57 = .ok (.invokevirtual 72, 3) := by decide +kernel
theorem dX4_tryOut_60 : decode cX4_tryOut 60 = .ok (.istore 4, 2) := by decide +kernel
theorem dX4_tryOut_62 : decode cX4_tryOut 62 = .ok (.goto 44, 3) := by decide +kernel
theorem dX4_tryOut_65 : decode cX4_tryOut 65 = .ok (.aload_n 0, 1) := by decide +kernel
theorem dX4_tryOut_66 : decode cX4_tryOut 66 = .ok (.getfield 41, 3) := by decide +kernel
theorem dX4_tryOut_69 : decode cX4_tryOut 69 = .ok (.iload_n 3, 1) := by decide +kernel
theorem dX4_tryOut_70 : decode cX4_tryOut 70 = .ok (.iaload, 1) := by decide +kernel
theorem dX4_tryOut_71 : decode cX4_tryOut 71 = .ok (.iconst 1, 1) := by decide +kernel
theorem dX4_tryOut_72 : decode cX4_tryOut 72 = .ok (.if_icmp .ne 19, 3) := by decide +kernel
theorem dX4_tryOut_75 : decode cX4_tryOut 75 = .ok (.aload_n 0, 1) := by decide +kernel
theorem dX4_tryOut_76 : decode cX4_tryOut 76 = .ok (.iconst 2, 1) := by decide +kernel
theorem dX4_tryOut_77 : decode cX4_tryOut 77 = .ok (.aload_n 0, 1) := by decide +kernel
theorem dX4_tryOut_78 : decode cX4_tryOut 78 = .ok (.getfield 44, 3) := by decide +kernel
theorem dX4_tryOut_81 : decode cX4_tryOut 81 = .ok (.iload_n 3, 1) := by decide +kernel
theorem dX4_tryOut_82 : decode cX4_tryOut 82 = .ok (.iaload, 1) := by decide +kernel
theorem dX4_tryOut_83 : decode cX4_tryOut 83 = .ok (.invokevirtual 75, 3) := by decide +kernel
theorem dX4_tryOut_86 : decode cX4_tryOut 86 = .ok (.istore 4, 2) := by decide +kernel
theorem dX4_tryOut_88 : decode cX4_tryOut 88 = .ok (.goto 18, 3) := by decide +kernel
theorem dX4_tryOut_91 : decode cX4_tryOut 91 = .ok (.aload_n 0, 1) := by decide +kernel
theorem dX4_tryOut_92 : decode cX4_tryOut 92 = .ok (.iconst 2, 1) := by decide +kernel
theorem dX4_tryOut_93 : decode cX4_tryOut 93 = .ok (.invokevirtual 78, 3) := by decide +kernel
theorem dX4_tryOut_96 : decode cX4_tryOut 96 = .ok (.istore 4, 2) := by decide +kernel
theorem dX4_tryOut_98 : decode cX4_tryOut 98 = .ok (.iinc 2 1, 3) := by decide +kernel
theorem dX4_tryOut_101 : decode cX4_tryOut 101 = .ok (.aload_n 0, 1) := by decide +kernel
theorem dX4_tryOut_102 : decode cX4_tryOut 102 = .ok (.iload_n 2, 1) := by decide +kernel
theorem dX4_tryOut_103 : decode cX4_tryOut 103 = .ok (.invokevirtual 89, 3) := by decide +kernel
theorem dX4_tryOut_106 : decode cX4_tryOut 106 = .ok (.iinc 3 1, 3) := by decide +kernel
theorem dX4_tryOut_109 : decode cX4_tryOut 109 = .ok (.goto (-84), 3) := by decide +kernel
theorem dX4_tryOut_112 : decode cX4_tryOut 112 = .ok (.return_, 1) := by decide +kernel
theorem dX4_crestOf_0 : decode cX4_crestOf 0 = .ok (.iconst 0, 1) := by decide +kernel
theorem dX4_crestOf_1 : decode cX4_crestOf 1 = .ok (.istore_n 2, 1) := by decide +kernel
theorem dX4_crestOf_2 : decode cX4_crestOf 2 = .ok (.iconst 0, 1) := by decide +kernel
theorem dX4_crestOf_3 : decode cX4_crestOf 3 = .ok (.istore_n 3, 1) := by decide +kernel
theorem dX4_crestOf_4 : decode cX4_crestOf 4 = .ok (.iload_n 3, 1) := by decide +kernel
theorem dX4_crestOf_5 : decode cX4_crestOf 5 = .ok (.aload_n 0, 1) := by decide +kernel
theorem dX4_crestOf_6 : decode cX4_crestOf 6 = .ok (.getfield 7, 3) := by decide +kernel
theorem dX4_crestOf_9 : decode cX4_crestOf 9 = .ok (.if_icmp .ge 40, 3) := by decide +kernel
theorem dX4_crestOf_12 : decode cX4_crestOf 12 = .ok (.aload_n 0, 1) := by decide +kernel
theorem dX4_crestOf_13 : decode cX4_crestOf 13 = .ok (.getfield 16, 3) := by decide +kernel
theorem dX4_crestOf_16 : decode cX4_crestOf 16 = .ok (.bipush 7, 2) := by decide +kernel
theorem dX4_crestOf_18 : decode cX4_crestOf 18 = .ok (.iload_n 1, 1) := by decide +kernel
theorem dX4_crestOf_19 : decode cX4_crestOf 19 = .ok (.imul, 1) := by decide +kernel
theorem dX4_crestOf_20 : decode cX4_crestOf 20 = .ok (.iload_n 3, 1) := by decide +kernel
theorem dX4_crestOf_21 : decode cX4_crestOf 21 = .ok (.iadd, 1) := by decide +kernel
theorem dX4_crestOf_22 : decode cX4_crestOf 22 = .ok (.iaload, 1) := by decide +kernel
theorem dX4_crestOf_23 : decode cX4_crestOf 23 = .ok (.iload_n 2, 1) := by decide +kernel
theorem dX4_crestOf_24 : decode cX4_crestOf 24 = .ok (.if_icmp .le 17, 3) := by decide +kernel
theorem dX4_crestOf_27 : decode cX4_crestOf 27 = .ok (.aload_n 0, 1) := by decide +kernel
theorem dX4_crestOf_28 : decode cX4_crestOf 28 = .ok (.getfield 16, 3) := by decide +kernel
theorem dX4_crestOf_31 : decode cX4_crestOf 31 = .ok (.bipush 7, 2) := by decide +kernel
theorem dX4_crestOf_33 : decode cX4_crestOf 33 = .ok (.iload_n 1, 1) := by decide +kernel
theorem dX4_crestOf_34 : decode cX4_crestOf 34 = .ok (.imul, 1) := by decide +kernel
theorem dX4_crestOf_35 : decode cX4_crestOf 35 = .ok (.iload_n 3, 1) := by decide +kernel
theorem dX4_crestOf_36 : decode cX4_crestOf 36 = .ok (.iadd, 1) := by decide +kernel
theorem dX4_crestOf_37 : decode cX4_crestOf 37 = .ok (.iaload, 1) := by decide +kernel
theorem dX4_crestOf_38 : decode cX4_crestOf 38 = .ok (.goto 4, 3) := by decide +kernel
theorem dX4_crestOf_41 : decode cX4_crestOf 41 = .ok (.iload_n 2, 1) := by decide +kernel
theorem dX4_crestOf_42 : decode cX4_crestOf 42 = .ok (.istore_n 2, 1) := by decide +kernel
theorem dX4_crestOf_43 : decode cX4_crestOf 43 = .ok (.iinc 3 1, 3) := by decide +kernel
theorem dX4_crestOf_46 : decode cX4_crestOf 46 = .ok (.goto (-42), 3) := by decide +kernel
theorem dX4_crestOf_49 : decode cX4_crestOf 49 = .ok (.iload_n 2, 1) := by decide +kernel
theorem dX4_crestOf_50 : decode cX4_crestOf 50 = .ok (.ireturn, 1) := by decide +kernel
set_option maxRecDepth 20000 in
theorem ggX4_isFence_X4_isCell : GoodIn wsX4_isFence wsX4_isCell := goodIn_r _ [5, 6, 7, 8, 4, 9, 10, 11, 12, 13, 14, 15, 16, 17, 18, 19, 20, 21, 22, 23, 24, 25] (by decide +kernel) (by decide +kernel)
set_option maxRecDepth 20000 in
theorem gX4_isFence_X4_isCell : GoodIn wsX4_isFence (wsV RX4 64 RX4 yX4_isCell wsX4_isCell) := goodIn_app (goodIn_of _ (by decide +kernel)) ggX4_isFence_X4_isCell
theorem dX4_isFence_0 : decode cX4_isFence 0 = .ok (.iload_n 1, 1) := by decide +kernel
theorem dX4_isFence_1 : decode cX4_isFence 1 = .ok (.iconst (-1), 1) := by decide +kernel
theorem dX4_isFence_2 : decode cX4_isFence 2 = .ok (.if_icmp .eq 11, 3) := by decide +kernel
theorem dX4_isFence_5 : decode cX4_isFence 5 = .ok (.aload_n 0, 1) := by decide +kernel
theorem dX4_isFence_6 : decode cX4_isFence 6 = .ok (.iload_n 1, 1) := by decide +kernel
theorem dX4_isFence_7 : decode cX4_isFence 7 = .ok (.invokevirtual 64, 3) := by decide +kernel
theorem dX4_isFence_10 : decode cX4_isFence 10 = .ok (.ifCond .eq 7, 3) := by decide +kernel
theorem dX4_isFence_13 : decode cX4_isFence 13 = .ok (.iconst 1, 1) := by decide +kernel
theorem dX4_isFence_14 : decode cX4_isFence 14 = .ok (.goto 4, 3) := by decide +kernel
theorem dX4_isFence_17 : decode cX4_isFence 17 = .ok (.iconst 0, 1) := by decide +kernel
theorem dX4_isFence_18 : decode cX4_isFence 18 = .ok (.ireturn, 1) := by decide +kernel
set_option maxRecDepth 20000 in
theorem ggX4_ask_X4_isWeather : GoodIn wsX4_ask wsX4_isWeather := goodIn_r _ [5, 6, 7, 4, 8] (by decide +kernel) (by decide +kernel)
set_option maxRecDepth 20000 in
theorem gX4_ask_X4_isWeather : GoodIn wsX4_ask (va_wsS RX4 82 yX4_isWeather wsX4_isWeather) := goodIn_app (goodIn_of _ (by decide +kernel)) ggX4_ask_X4_isWeather
set_option maxRecDepth 20000 in
theorem ggX4_ask_X4_isFence : GoodIn wsX4_ask wsX4_isFence := goodIn_r _ [12, 13, 14, 15, 4, 16, 17, 6, 7, 8, 57, 58, 59, 60, 61, 62, 63, 64, 65, 66, 67, 68, 69, 70, 71, 72] (by decide +kernel) (by decide +kernel)
set_option maxRecDepth 20000 in
theorem gX4_ask_X4_isFence : GoodIn wsX4_ask (wsV RX4 92 RX4 yX4_isFence wsX4_isFence) := goodIn_app (goodIn_of _ (by decide +kernel)) ggX4_ask_X4_isFence
set_option maxRecDepth 20000 in
theorem ggX4_ask_X4_tryOut : GoodIn wsX4_ask wsX4_tryOut := goodIn_r _ [21, 22, 23, 24, 25, 26, 27, 28, 4, 29, 30, 31, 32, 33, 34, 35, 36, 37, 38, 39, 1, 40, 41, 42, 43, 44, 17, 45, 46, 47, 48, 49, 50, 51, 52, 53, 54, 55, 56, 6, 7, 8, 57, 58, 59, 60, 61, 62, 63, 64, 65, 66, 67, 68, 69, 70, 71, 72] (by decide +kernel) (by decide +kernel)
set_option maxRecDepth 20000 in
theorem gX4_ask_X4_tryOut : GoodIn wsX4_ask (wsV RX4 95 RX4 yX4_tryOut wsX4_tryOut) := goodIn_app (goodIn_of _ (by decide +kernel)) ggX4_ask_X4_tryOut
theorem dX4_ask_0 : decode cX4_ask 0 = .ok (.iload_n 1, 1) := by decide +kernel
theorem dX4_ask_1 : decode cX4_ask 1 = .ok (.invokestatic 82, 3) := by decide +kernel
theorem dX4_ask_4 : decode cX4_ask 4 = .ok (.ifCond .eq 28, 3) := by decide +kernel
theorem dX4_ask_7 : decode cX4_ask 7 = .ok (.aload_n 0, 1) := by decide +kernel
theorem dX4_ask_8 : decode cX4_ask 8 = .ok (.iload_n 2, 1) := by decide +kernel
theorem dX4_ask_9 : decode cX4_ask 9 = .ok (.invokevirtual 92, 3) := by decide +kernel
theorem dX4_ask_12 : decode cX4_ask 12 = .ok (.ifCond .eq 20, 3) := by decide +kernel
theorem dX4_ask_15 : decode cX4_ask 15 = .ok (.aload_n 0, 1) := by decide +kernel
theorem dX4_ask_16 : decode cX4_ask 16 = .ok (.iload_n 3, 1) := by decide +kernel
theorem dX4_ask_17 : decode cX4_ask 17 = .ok (.invokevirtual 92, 3) := by decide +kernel
theorem dX4_ask_20 : decode cX4_ask 20 = .ok (.ifCond .eq 12, 3) := by decide +kernel
theorem dX4_ask_23 : decode cX4_ask 23 = .ok (.aload_n 0, 1) := by decide +kernel
theorem dX4_ask_24 : decode cX4_ask 24 = .ok (.iload 4, 2) := by decide +kernel
theorem dX4_ask_26 : decode cX4_ask 26 = .ok (.invokevirtual 92, 3) := by decide +kernel
theorem dX4_ask_29 : decode cX4_ask 29 = .ok (.ifCond .ne 5, 3) := by decide +kernel
theorem dX4_ask_32 : decode cX4_ask 32 = .ok (.iconst 0, 1) := by decide +kernel
theorem dX4_ask_33 : decode cX4_ask 33 = .ok (.ireturn, 1) := by decide +kernel
theorem dX4_ask_34 : decode cX4_ask 34 = .ok (.aload_n 0, 1) := by decide +kernel
theorem dX4_ask_35 : decode cX4_ask 35 = .ok (.getfield 50, 3) := by decide +kernel
theorem dX4_ask_38 : decode cX4_ask 38 = .ok (.iconst 0, 1) := by decide +kernel
theorem dX4_ask_39 : decode cX4_ask 39 = .ok (.iload_n 2, 1) := by decide +kernel
theorem dX4_ask_40 : decode cX4_ask 40 = .ok (.iastore, 1) := by decide +kernel
theorem dX4_ask_41 : decode cX4_ask 41 = .ok (.aload_n 0, 1) := by decide +kernel
theorem dX4_ask_42 : decode cX4_ask 42 = .ok (.getfield 50, 3) := by decide +kernel
theorem dX4_ask_45 : decode cX4_ask 45 = .ok (.iconst 1, 1) := by decide +kernel
theorem dX4_ask_46 : decode cX4_ask 46 = .ok (.iload_n 3, 1) := by decide +kernel
theorem dX4_ask_47 : decode cX4_ask 47 = .ok (.iastore, 1) := by decide +kernel
theorem dX4_ask_48 : decode cX4_ask 48 = .ok (.aload_n 0, 1) := by decide +kernel
theorem dX4_ask_49 : decode cX4_ask 49 = .ok (.getfield 50, 3) := by decide +kernel
theorem dX4_ask_52 : decode cX4_ask 52 = .ok (.iconst 2, 1) := by decide +kernel
theorem dX4_ask_53 : decode cX4_ask 53 = .ok (.iload 4, 2) := by decide +kernel
theorem dX4_ask_55 : decode cX4_ask 55 = .ok (.iastore, 1) := by decide +kernel
theorem dX4_ask_56 : decode cX4_ask 56 = .ok (.aload_n 0, 1) := by decide +kernel
theorem dX4_ask_57 : decode cX4_ask 57 = .ok (.iload_n 1, 1) := by decide +kernel
theorem dX4_ask_58 : decode cX4_ask 58 = .ok (.invokevirtual 95, 3) := by decide +kernel
theorem dX4_ask_61 : decode cX4_ask 61 = .ok (.iconst 1, 1) := by decide +kernel
theorem dX4_ask_62 : decode cX4_ask 62 = .ok (.ireturn, 1) := by decide +kernel
set_option maxRecDepth 20000 in
theorem ggX4_crest_X4_ask : GoodIn wsX4_crest wsX4_ask := goodIn_r _ [5, 6, 7, 8, 4, 9, 10, 11, 12, 13, 14, 15, 16, 17, 18, 19, 20, 21, 22, 23, 24, 25, 26, 27, 28, 29, 30, 31, 32, 33, 34, 35, 36, 37, 38, 39, 40, 41, 42, 43, 44, 45, 46, 47, 48, 49, 50, 51, 52, 53, 54, 55, 56, 57, 58, 59, 60, 65, 66, 67, 68, 69, 70, 71, 72, 73, 74, 75, 76, 77, 78, 79, 80] (by decide +kernel) (by decide +kernel)
set_option maxRecDepth 20000 in
theorem gX4_crest_X4_ask : GoodIn wsX4_crest (wsV RX4 98 RX4 yX4_ask wsX4_ask) := goodIn_app (goodIn_of _ (by decide +kernel)) ggX4_crest_X4_ask
set_option maxRecDepth 20000 in
theorem ggX4_crest_X4_crestOf : GoodIn wsX4_crest wsX4_crestOf := goodIn_r _ [64, 21, 34, 65, 66, 67, 68, 69, 70, 71, 72, 73, 74, 75, 76, 77, 78, 79, 80] (by decide +kernel) (by decide +kernel)
set_option maxRecDepth 20000 in
theorem gX4_crest_X4_crestOf : GoodIn wsX4_crest (wsV RX4 102 RX4 yX4_crestOf wsX4_crestOf) := goodIn_app (goodIn_of _ (by decide +kernel)) ggX4_crest_X4_crestOf
theorem dX4_crest_0 : decode cX4_crest 0 = .ok (.aload_n 0, 1) := by decide +kernel
theorem dX4_crest_1 : decode cX4_crest 1 = .ok (.iload_n 1, 1) := by decide +kernel
theorem dX4_crest_2 : decode cX4_crest 2 = .ok (.iload_n 2, 1) := by decide +kernel
theorem dX4_crest_3 : decode cX4_crest 3 = .ok (.iload_n 3, 1) := by decide +kernel
theorem dX4_crest_4 : decode cX4_crest 4 = .ok (.iload 4, 2) := by decide +kernel
theorem dX4_crest_6 : decode cX4_crest 6 = .ok (.invokevirtual 98, 3) := by decide +kernel
theorem dX4_crest_9 : decode cX4_crest 9 = .ok (.ifCond .eq 11, 3) := by decide +kernel
theorem dX4_crest_12 : decode cX4_crest 12 = .ok (.aload_n 0, 1) := by decide +kernel
theorem dX4_crest_13 : decode cX4_crest 13 = .ok (.iconst 2, 1) := by decide +kernel
theorem dX4_crest_14 : decode cX4_crest 14 = .ok (.invokevirtual 102, 3) := by decide +kernel
theorem dX4_crest_17 : decode cX4_crest 17 = .ok (.goto 4, 3) := by decide +kernel
theorem dX4_crest_20 : decode cX4_crest 20 = .ok (.iconst (-1), 1) := by decide +kernel
theorem dX4_crest_21 : decode cX4_crest 21 = .ok (.ireturn, 1) := by decide +kernel
set_option maxRecDepth 20000 in
theorem ggX4_floods_X4_ask : GoodIn wsX4_floods wsX4_ask := goodIn_r _ [6, 7, 8, 9, 5, 10, 11, 12, 13, 14, 15, 16, 17, 18, 19, 20, 21, 22, 23, 24, 25, 26, 1, 27, 28, 29, 30, 31, 32, 33, 34, 35, 36, 37, 38, 39, 40, 41, 42, 43, 44, 45, 46, 47, 48, 49, 50, 51, 52, 53, 54, 55, 56, 57, 58, 59, 60, 61, 62, 63, 64, 65, 66, 67, 68, 69, 70, 71, 72, 73, 74, 75, 76] (by decide +kernel) (by decide +kernel)
set_option maxRecDepth 20000 in
theorem gX4_floods_X4_ask : GoodIn wsX4_floods (wsV RX4 98 RX4 yX4_ask wsX4_ask) := goodIn_app (goodIn_of _ (by decide +kernel)) ggX4_floods_X4_ask
theorem dX4_floods_0 : decode cX4_floods 0 = .ok (.aload_n 0, 1) := by decide +kernel
theorem dX4_floods_1 : decode cX4_floods 1 = .ok (.iload_n 1, 1) := by decide +kernel
theorem dX4_floods_2 : decode cX4_floods 2 = .ok (.iload_n 2, 1) := by decide +kernel
theorem dX4_floods_3 : decode cX4_floods 3 = .ok (.iload_n 3, 1) := by decide +kernel
theorem dX4_floods_4 : decode cX4_floods 4 = .ok (.iload 4, 2) := by decide +kernel
theorem dX4_floods_6 : decode cX4_floods 6 = .ok (.invokevirtual 98, 3) := by decide +kernel
theorem dX4_floods_9 : decode cX4_floods 9 = .ok (.ifCond .eq 12, 3) := by decide +kernel
theorem dX4_floods_12 : decode cX4_floods 12 = .ok (.aload_n 0, 1) := by decide +kernel
theorem dX4_floods_13 : decode cX4_floods 13 = .ok (.getfield 35, 3) := by decide +kernel
theorem dX4_floods_16 : decode cX4_floods 16 = .ok (.iconst 2, 1) := by decide +kernel
theorem dX4_floods_17 : decode cX4_floods 17 = .ok (.iaload, 1) := by decide +kernel
theorem dX4_floods_18 : decode cX4_floods 18 = .ok (.goto 4, 3) := by decide +kernel
theorem dX4_floods_21 : decode cX4_floods 21 = .ok (.iconst (-1), 1) := by decide +kernel
theorem dX4_floods_22 : decode cX4_floods 22 = .ok (.ireturn, 1) := by decide +kernel
set_option maxRecDepth 20000 in
theorem ggX4_holds_X4_tryOut : GoodIn wsX4_holds wsX4_tryOut := goodIn_r _ [7, 2, 1, 8, 9, 10, 11, 12, 6, 13, 14, 15, 16, 17, 18, 19, 20, 21, 22, 23, 24, 25, 26, 27, 28, 29, 30, 31, 32, 33, 34, 35, 36, 37, 38, 39, 40, 41, 42, 43, 44, 45, 50, 51, 52, 53, 54, 55, 56, 57, 58, 59, 60, 61, 62, 63, 64, 65] (by decide +kernel) (by decide +kernel)
set_option maxRecDepth 20000 in
theorem gX4_holds_X4_tryOut : GoodIn wsX4_holds (wsV RX4 95 RX4 yX4_tryOut wsX4_tryOut) := goodIn_app (goodIn_of _ (by decide +kernel)) ggX4_holds_X4_tryOut
set_option maxRecDepth 20000 in
theorem ggX4_holds_X4_crestOf : GoodIn wsX4_holds wsX4_crestOf := goodIn_r _ [49, 30, 14, 50, 51, 52, 53, 54, 55, 56, 57, 58, 59, 60, 61, 62, 63, 64, 65] (by decide +kernel) (by decide +kernel)
set_option maxRecDepth 20000 in
theorem gX4_holds_X4_crestOf : GoodIn wsX4_holds (wsV RX4 102 RX4 yX4_crestOf wsX4_crestOf) := goodIn_app (goodIn_of _ (by decide +kernel)) ggX4_holds_X4_crestOf
theorem dX4_holds_0 : decode cX4_holds 0 = .ok (.bipush 99, 2) := by decide +kernel
theorem dX4_holds_2 : decode cX4_holds 2 = .ok (.istore_n 1, 1) := by decide +kernel
theorem dX4_holds_3 : decode cX4_holds 3 = .ok (.iconst 0, 1) := by decide +kernel
theorem dX4_holds_4 : decode cX4_holds 4 = .ok (.istore_n 2, 1) := by decide +kernel
theorem dX4_holds_5 : decode cX4_holds 5 = .ok (.iload_n 2, 1) := by decide +kernel
theorem dX4_holds_6 : decode cX4_holds 6 = .ok (.iconst 3, 1) := by decide +kernel
theorem dX4_holds_7 : decode cX4_holds 7 = .ok (.if_icmp .ge 53, 3) := by decide +kernel
theorem dX4_holds_10 : decode cX4_holds 10 = .ok (.aload_n 0, 1) := by decide +kernel
theorem dX4_holds_11 : decode cX4_holds 11 = .ok (.getfield 38, 3) := by decide +kernel
theorem dX4_holds_14 : decode cX4_holds 14 = .ok (.iload_n 2, 1) := by decide +kernel
theorem dX4_holds_15 : decode cX4_holds 15 = .ok (.iaload, 1) := by decide +kernel
theorem dX4_holds_16 : decode cX4_holds 16 = .ok (.ifCond .le 38, 3) := by decide +kernel
theorem dX4_holds_19 : decode cX4_holds 19 = .ok (.aload_n 0, 1) := by decide +kernel
theorem dX4_holds_20 : decode cX4_holds 20 = .ok (.iload_n 2, 1) := by decide +kernel
theorem dX4_holds_21 : decode cX4_holds 21 = .ok (.invokevirtual 95, 3) := by decide +kernel
theorem dX4_holds_24 : decode cX4_holds 24 = .ok (.aload_n 0, 1) := by decide +kernel
theorem dX4_holds_25 : decode cX4_holds 25 = .ok (.getfield 35, 3) := by decide +kernel
theorem dX4_holds_28 : decode cX4_holds 28 = .ok (.iconst 2, 1) := by decide +kernel
theorem dX4_holds_29 : decode cX4_holds 29 = .ok (.iaload, 1) := by decide +kernel
theorem dX4_holds_30 : decode cX4_holds 30 = .ok (.ifCond .le 7, 3) := by decide +kernel
theorem dX4_holds_33 : decode cX4_holds 33 = .ok (.iconst (-1), 1) := by decide +kernel
theorem dX4_holds_34 : decode cX4_holds 34 = .ok (.goto 8, 3) := by decide +kernel
theorem dX4_holds_37 : decode cX4_holds 37 = .ok (.aload_n 0, 1) := by decide +kernel
theorem dX4_holds_38 : decode cX4_holds 38 = .ok (.iconst 2, 1) := by decide +kernel
theorem dX4_holds_39 : decode cX4_holds 39 = .ok (.invokevirtual 102, 3) := by decide +kernel
theorem dX4_holds_42 : decode cX4_holds 42 = .ok (.istore_n 3, 1) := by decide +kernel
theorem dX4_holds_43 : decode cX4_holds 43 = .ok (.iload_n 3, 1) := by decide +kernel
theorem dX4_holds_44 : decode cX4_holds 44 = .ok (.iload_n 1, 1) := by decide +kernel
theorem dX4_holds_45 : decode cX4_holds 45 = .ok (.if_icmp .ge 7, 3) := by decide +kernel
theorem dX4_holds_48 : decode cX4_holds 48 = .ok (.iload_n 3, 1) := by decide +kernel
theorem dX4_holds_49 : decode cX4_holds 49 = .ok (.goto 4, 3) := by decide +kernel
theorem dX4_holds_52 : decode cX4_holds 52 = .ok (.iload_n 1, 1) := by decide +kernel
theorem dX4_holds_53 : decode cX4_holds 53 = .ok (.istore_n 1, 1) := by decide +kernel
theorem dX4_holds_54 : decode cX4_holds 54 = .ok (.iinc 2 1, 3) := by decide +kernel
theorem dX4_holds_57 : decode cX4_holds 57 = .ok (.goto (-52), 3) := by decide +kernel
theorem dX4_holds_60 : decode cX4_holds 60 = .ok (.iload_n 1, 1) := by decide +kernel
theorem dX4_holds_61 : decode cX4_holds 61 = .ok (.ireturn, 1) := by decide +kernel
theorem dX4_lay_0 : decode cX4_lay 0 = .ok (.iload_n 1, 1) := by decide +kernel
theorem dX4_lay_1 : decode cX4_lay 1 = .ok (.istore_n 2, 1) := by decide +kernel
theorem dX4_lay_2 : decode cX4_lay 2 = .ok (.iconst 0, 1) := by decide +kernel
theorem dX4_lay_3 : decode cX4_lay 3 = .ok (.istore_n 3, 1) := by decide +kernel
theorem dX4_lay_4 : decode cX4_lay 4 = .ok (.iconst 2, 1) := by decide +kernel
theorem dX4_lay_5 : decode cX4_lay 5 = .ok (.istore 4, 2) := by decide +kernel
theorem dX4_lay_7 : decode cX4_lay 7 = .ok (.iload 4, 2) := by decide +kernel
theorem dX4_lay_9 : decode cX4_lay 9 = .ok (.ifCond .lt 67, 3) := by decide +kernel
theorem dX4_lay_12 : decode cX4_lay 12 = .ok (.iload_n 2, 1) := by decide +kernel
theorem dX4_lay_13 : decode cX4_lay 13 = .ok (.aload_n 0, 1) := by decide +kernel
theorem dX4_lay_14 : decode cX4_lay 14 = .ok (.getfield 7, 3) := by decide +kernel
theorem dX4_lay_17 : decode cX4_lay 17 = .ok (.iconst 1, 1) := by decide +kernel
theorem dX4_lay_18 : decode cX4_lay 18 = .ok (.iadd, 1) := by decide +kernel
theorem dX4_lay_19 : decode cX4_lay 19 = .ok (.irem, 1) := by decide +kernel
theorem dX4_lay_20 : decode cX4_lay 20 = .ok (.istore 5, 2) := by decide +kernel
theorem dX4_lay_22 : decode cX4_lay 22 = .ok (.iload_n 2, 1) := by decide +kernel
theorem dX4_lay_23 : decode cX4_lay 23 = .ok (.aload_n 0, 1) := by decide +kernel
theorem dX4_lay_24 : decode cX4_lay 24 = .ok (.getfield 7, 3) := by decide +kernel
theorem dX4_lay_27 : decode cX4_lay 27 = .ok (.iconst 1, 1) := by decide +kernel
theorem dX4_lay_28 : decode cX4_lay 28 = .ok (.iadd, 1) := by decide +kernel
theorem dX4_lay_29 : decode cX4_lay 29 = .ok (.idiv, 1) := by decide +kernel
theorem dX4_lay_30 : decode cX4_lay 30 = .ok (.istore_n 2, 1) := by decide +kernel
theorem dX4_lay_31 : decode cX4_lay 31 = .ok (.aload_n 0, 1) := by decide +kernel
theorem dX4_lay_32 : decode cX4_lay 32 = .ok (.getfield 50, 3) := by decide +kernel
theorem dX4_lay_35 : decode cX4_lay 35 = .ok (.iload 4, 2) := by decide +kernel
theorem dX4_lay_37 : decode cX4_lay 37 = .ok (.iload 5, 2) := by decide +kernel
theorem dX4_lay_39 : decode cX4_lay 39 = .ok (.aload_n 0, 1) := by decide +kernel
theorem dX4_lay_40 : decode cX4_lay 40 = .ok (.getfield 7, 3) := by decide +kernel
theorem dX4_lay_43 : decode cX4_lay 43 = .ok (.if_icmp .ge 8, 3) := by decide +kernel
theorem dX4_lay_46 : decode cX4_lay 46 = .ok (.iload 5, 2) := by decide +kernel
theorem dX4_lay_48 : decode cX4_lay 48 = .ok (.goto 4, 3) := by decide +kernel
theorem dX4_lay_51 : decode cX4_lay 51 = .ok (.iconst (-1), 1) := by decide +kernel
theorem dX4_lay_52 : decode cX4_lay 52 = .ok (.iastore, 1) := by decide +kernel
theorem dX4_lay_53 : decode cX4_lay 53 = .ok (.iload_n 3, 1) := by decide +kernel
theorem dX4_lay_54 : decode cX4_lay 54 = .ok (.iload 5, 2) := by decide +kernel
theorem dX4_lay_56 : decode cX4_lay 56 = .ok (.aload_n 0, 1) := by decide +kernel
theorem dX4_lay_57 : decode cX4_lay 57 = .ok (.getfield 7, 3) := by decide +kernel
theorem dX4_lay_60 : decode cX4_lay 60 = .ok (.if_icmp .ge 7, 3) := by decide +kernel
theorem dX4_lay_63 : decode cX4_lay 63 = .ok (.iconst 1, 1) := by decide +kernel
theorem dX4_lay_64 : decode cX4_lay 64 = .ok (.goto 4, 3) := by decide +kernel
theorem dX4_lay_67 : decode cX4_lay 67 = .ok (.iconst 0, 1) := by decide +kernel
theorem dX4_lay_68 : decode cX4_lay 68 = .ok (.iadd, 1) := by decide +kernel
theorem dX4_lay_69 : decode cX4_lay 69 = .ok (.istore_n 3, 1) := by decide +kernel
theorem dX4_lay_70 : decode cX4_lay 70 = .ok (.iinc 4 (-1), 3) := by decide +kernel
theorem dX4_lay_73 : decode cX4_lay 73 = .ok (.goto (-66), 3) := by decide +kernel
theorem dX4_lay_76 : decode cX4_lay 76 = .ok (.iload_n 3, 1) := by decide +kernel
theorem dX4_lay_77 : decode cX4_lay 77 = .ok (.ireturn, 1) := by decide +kernel
set_option maxRecDepth 20000 in
theorem ggX4_findPlan_X4_lay : GoodIn wsX4_findPlan wsX4_lay := goodIn_r _ [8, 1, 3, 59, 60, 61, 62, 63, 64, 65, 66, 67, 68, 69, 70, 71, 72, 73, 74] (by decide +kernel) (by decide +kernel)
set_option maxRecDepth 20000 in
theorem gX4_findPlan_X4_lay : GoodIn wsX4_findPlan (wsV RX4 105 RX4 yX4_lay wsX4_lay) := goodIn_app (goodIn_of _ (by decide +kernel)) ggX4_findPlan_X4_lay
set_option maxRecDepth 20000 in
theorem ggX4_findPlan_X4_holds : GoodIn wsX4_findPlan wsX4_holds := goodIn_r _ [12, 13, 14, 15, 16, 17, 7, 18, 19, 20, 21, 22, 23, 24, 25, 26, 27, 28, 29, 30, 31, 32, 33, 34, 3, 35, 36, 37, 38, 39, 1, 40, 41, 42, 43, 44, 45, 46, 47, 48, 49, 50, 51, 52, 53, 54, 55, 56, 57, 58, 59, 60, 61, 62, 63, 64, 65, 66, 67, 68, 69, 70, 71, 72, 73, 74] (by decide +kernel) (by decide +kernel)
set_option maxRecDepth 20000 in
theorem gX4_findPlan_X4_holds : GoodIn wsX4_findPlan (wsV RX4 108 RX4 yX4_holds wsX4_holds) := goodIn_app (goodIn_of _ (by decide +kernel)) ggX4_findPlan_X4_holds
theorem dX4_findPlan_0 : decode cX4_findPlan 0 = .ok (.iconst 4, 1) := by decide +kernel
theorem dX4_findPlan_1 : decode cX4_findPlan 1 = .ok (.istore_n 2, 1) := by decide +kernel
theorem dX4_findPlan_2 : decode cX4_findPlan 2 = .ok (.iconst 0, 1) := by decide +kernel
theorem dX4_findPlan_3 : decode cX4_findPlan 3 = .ok (.istore_n 3, 1) := by decide +kernel
theorem dX4_findPlan_4 : decode cX4_findPlan 4 = .ok (.iload_n 3, 1) := by decide +kernel
theorem dX4_findPlan_5 : decode cX4_findPlan 5 = .ok (.aload_n 0, 1) := by decide +kernel
theorem dX4_findPlan_6 : decode cX4_findPlan 6 = .ok (.getfield 7, 3) := by decide +kernel
theorem dX4_findPlan_9 : decode cX4_findPlan 9 = .ok (.iconst 1, 1) := by decide +kernel
theorem dX4_findPlan_10 : decode cX4_findPlan 10 = .ok (.iadd, 1) := by decide +kernel
theorem dX4_findPlan_11 : decode cX4_findPlan 11 = .ok (.aload_n 0, 1) := by decide +kernel
theorem dX4_findPlan_12 : decode cX4_findPlan 12 = .ok (.getfield 7, 3) := by decide +kernel
theorem dX4_findPlan_15 : decode cX4_findPlan 15 = .ok (.iconst 1, 1) := by decide +kernel
theorem dX4_findPlan_16 : decode cX4_findPlan 16 = .ok (.iadd, 1) := by decide +kernel
theorem dX4_findPlan_17 : decode cX4_findPlan 17 = .ok (.imul, 1) := by decide +kernel
theorem dX4_findPlan_18 : decode cX4_findPlan 18 = .ok (.aload_n 0, 1) := by decide +kernel
theorem dX4_findPlan_19 : decode cX4_findPlan 19 = .ok (.getfield 7, 3) := by decide +kernel
theorem dX4_findPlan_22 : decode cX4_findPlan 22 = .ok (.iconst 1, 1) := by decide +kernel
theorem dX4_findPlan_23 : decode cX4_findPlan 23 = .ok (.iadd, 1) := by decide +kernel
theorem dX4_findPlan_24 : decode cX4_findPlan 24 = .ok (.imul, 1) := by decide +kernel
theorem dX4_findPlan_25 : decode cX4_findPlan 25 = .ok (.if_icmp .ge 62, 3) := by decide +kernel
theorem dX4_findPlan_28 : decode cX4_findPlan 28 = .ok (.aload_n 0, 1) := by decide +kernel
theorem dX4_findPlan_29 : decode cX4_findPlan 29 = .ok (.iload_n 3, 1) := by decide +kernel
theorem dX4_findPlan_30 : decode cX4_findPlan 30 = .ok (.invokevirtual 105, 3) := by decide +kernel
theorem dX4_findPlan_33 : decode cX4_findPlan 33 = .ok (.istore 4, 2) := by decide +kernel
theorem dX4_findPlan_35 : decode cX4_findPlan 35 = .ok (.iload 4, 2) := by decide +kernel
theorem dX4_findPlan_37 : decode cX4_findPlan 37 = .ok (.iload_n 2, 1) := by decide +kernel
theorem dX4_findPlan_38 : decode cX4_findPlan 38 = .ok (.if_icmp .ge 43, 3) := by decide +kernel
theorem dX4_findPlan_41 : decode cX4_findPlan 41 = .ok (.aload_n 0, 1) := by decide +kernel
theorem dX4_findPlan_42 : decode cX4_findPlan 42 = .ok (.invokevirtual 108, 3) := by decide +kernel
theorem dX4_findPlan_45 : decode cX4_findPlan 45 = .ok (.iload_n 1, 1) := by decide +kernel
theorem dX4_findPlan_46 : decode cX4_findPlan 46 = .ok (.if_icmp .lt 35, 3) := by decide +kernel
theorem dX4_findPlan_49 : decode cX4_findPlan 49 = .ok (.iload 4, 2) := by decide +kernel
theorem dX4_findPlan_51 : decode cX4_findPlan 51 = .ok (.istore_n 2, 1) := by decide +kernel
theorem dX4_findPlan_52 : decode cX4_findPlan 52 = .ok (.iconst 0, 1) := by decide +kernel
theorem dX4_findPlan_53 : decode cX4_findPlan 53 = .ok (.istore 5, 2) := by decide +kernel
theorem dX4_findPlan_55 : decode cX4_findPlan 55 = .ok (.iload 5, 2) := by decide +kernel
theorem dX4_findPlan_57 : decode cX4_findPlan 57 = .ok (.iconst 3, 1) := by decide +kernel
theorem dX4_findPlan_58 : decode cX4_findPlan 58 = .ok (.if_icmp .ge 23, 3) := by decide +kernel
theorem dX4_findPlan_61 : decode cX4_findPlan 61 = .ok (.aload_n 0, 1) := by decide +kernel
theorem dX4_findPlan_62 : decode cX4_findPlan 62 = .ok (.getfield 53, 3) := by decide +kernel
theorem dX4_findPlan_65 : decode cX4_findPlan 65 = .ok (.iload 5, 2) := by decide +kernel
theorem dX4_findPlan_67 : decode cX4_findPlan 67 = .ok (.aload_n 0, 1) := by decide +kernel
theorem dX4_findPlan_68 : decode cX4_findPlan 68 = .ok (.getfield 50, 3) := by decide +kernel
theorem dX4_findPlan_71 : decode cX4_findPlan 71 = .ok (.iload 5, 2) := by decide +kernel
theorem dX4_findPlan_73 : decode cX4_findPlan 73 = .ok (.iaload, 1) := by decide +kernel
theorem dX4_findPlan_74 : decode cX4_findPlan 74 = .ok (.iastore, 1) := by decide +kernel
theorem dX4_findPlan_75 : decode cX4_findPlan 75 = .ok (.iinc 5 1, 3) := by decide +kernel
theorem dX4_findPlan_78 : decode cX4_findPlan 78 = .ok (.goto (-23), 3) := by decide +kernel
theorem dX4_findPlan_81 : decode cX4_findPlan 81 = .ok (.iinc 3 1, 3) := by decide +kernel
theorem dX4_findPlan_84 : decode cX4_findPlan 84 = .ok (.goto (-80), 3) := by decide +kernel
theorem dX4_findPlan_87 : decode cX4_findPlan 87 = .ok (.iload_n 2, 1) := by decide +kernel
theorem dX4_findPlan_88 : decode cX4_findPlan 88 = .ok (.iconst 4, 1) := by decide +kernel
theorem dX4_findPlan_89 : decode cX4_findPlan 89 = .ok (.if_icmp .ge 7, 3) := by decide +kernel
theorem dX4_findPlan_92 : decode cX4_findPlan 92 = .ok (.iload_n 2, 1) := by decide +kernel
theorem dX4_findPlan_93 : decode cX4_findPlan 93 = .ok (.goto 5, 3) := by decide +kernel
theorem dX4_findPlan_96 : decode cX4_findPlan 96 = .ok (.bipush (-3), 2) := by decide +kernel
theorem dX4_findPlan_98 : decode cX4_findPlan 98 = .ok (.ireturn, 1) := by decide +kernel
set_option maxRecDepth 20000 in
theorem ggX4_plan_X4_in : GoodIn wsX4_plan wsX4_in := goodIn_r _ [5] (by decide +kernel) (by decide +kernel)
set_option maxRecDepth 20000 in
theorem gX4_plan_X4_in : GoodIn wsX4_plan (va_wsS RX4 60 yX4_in wsX4_in) := goodIn_app (goodIn_of _ (by decide +kernel)) ggX4_plan_X4_in
set_option maxRecDepth 20000 in
theorem ggX4_plan_X4_findPlan : GoodIn wsX4_plan wsX4_findPlan := goodIn_r _ [9, 10, 1, 11, 12, 13, 14, 4, 15, 16, 17, 18, 19, 20, 21, 22, 23, 24, 25, 26, 27, 28, 29, 30, 31, 32, 33, 34, 35, 36, 37, 38, 39, 40, 41, 42, 43, 44, 45, 46, 47, 48, 49, 50, 51, 52, 53, 54, 55, 56, 57, 58, 2, 3, 5, 59, 60, 61, 62, 63, 64, 65, 66, 67, 68, 69, 70, 71, 72, 73, 74, 75, 76, 77, 78] (by decide +kernel) (by decide +kernel)
set_option maxRecDepth 20000 in
theorem gX4_plan_X4_findPlan : GoodIn wsX4_plan (wsV RX4 112 RX4 yX4_findPlan wsX4_findPlan) := goodIn_app (goodIn_of _ (by decide +kernel)) ggX4_plan_X4_findPlan
theorem dX4_plan_0 : decode cX4_plan 0 = .ok (.iload_n 1, 1) := by decide +kernel
theorem dX4_plan_1 : decode cX4_plan 1 = .ok (.iconst 0, 1) := by decide +kernel
theorem dX4_plan_2 : decode cX4_plan 2 = .ok (.bipush 99, 2) := by decide +kernel
theorem dX4_plan_4 : decode cX4_plan 4 = .ok (.invokestatic 60, 3) := by decide +kernel
theorem dX4_plan_7 : decode cX4_plan 7 = .ok (.ifCond .eq 12, 3) := by decide +kernel
theorem dX4_plan_10 : decode cX4_plan 10 = .ok (.iload_n 2, 1) := by decide +kernel
theorem dX4_plan_11 : decode cX4_plan 11 = .ok (.iconst 0, 1) := by decide +kernel
theorem dX4_plan_12 : decode cX4_plan 12 = .ok (.iconst 2, 1) := by decide +kernel
theorem dX4_plan_13 : decode cX4_plan 13 = .ok (.invokestatic 60, 3) := by decide +kernel
theorem dX4_plan_16 : decode cX4_plan 16 = .ok (.ifCond .ne 5, 3) := by decide +kernel
theorem dX4_plan_19 : decode cX4_plan 19 = .ok (.iconst (-1), 1) := by decide +kernel
theorem dX4_plan_20 : decode cX4_plan 20 = .ok (.ireturn, 1) := by decide +kernel
theorem dX4_plan_21 : decode cX4_plan 21 = .ok (.aload_n 0, 1) := by decide +kernel
theorem dX4_plan_22 : decode cX4_plan 22 = .ok (.iload_n 1, 1) := by decide +kernel
theorem dX4_plan_23 : decode cX4_plan 23 = .ok (.invokevirtual 112, 3) := by decide +kernel
theorem dX4_plan_26 : decode cX4_plan 26 = .ok (.ifCond .lt 12, 3) := by decide +kernel
theorem dX4_plan_29 : decode cX4_plan 29 = .ok (.aload_n 0, 1) := by decide +kernel
theorem dX4_plan_30 : decode cX4_plan 30 = .ok (.getfield 53, 3) := by decide +kernel
theorem dX4_plan_33 : decode cX4_plan 33 = .ok (.iload_n 2, 1) := by decide +kernel
theorem dX4_plan_34 : decode cX4_plan 34 = .ok (.iaload, 1) := by decide +kernel
theorem dX4_plan_35 : decode cX4_plan 35 = .ok (.ifCond .ge 8, 3) := by decide +kernel
theorem dX4_plan_38 : decode cX4_plan 38 = .ok (.bipush (-3), 2) := by decide +kernel
theorem dX4_plan_40 : decode cX4_plan 40 = .ok (.goto 9, 3) := by decide +kernel
theorem dX4_plan_43 : decode cX4_plan 43 = .ok (.aload_n 0, 1) := by decide +kernel
theorem dX4_plan_44 : decode cX4_plan 44 = .ok (.getfield 53, 3) := by decide +kernel
theorem dX4_plan_47 : decode cX4_plan 47 = .ok (.iload_n 2, 1) := by decide +kernel
theorem dX4_plan_48 : decode cX4_plan 48 = .ok (.iaload, 1) := by decide +kernel
theorem dX4_plan_49 : decode cX4_plan 49 = .ok (.ireturn, 1) := by decide +kernel
set_option maxRecDepth 20000 in
theorem ggX4_fences_X4_in : GoodIn wsX4_fences wsX4_in := goodIn_r _ [4] (by decide +kernel) (by decide +kernel)
set_option maxRecDepth 20000 in
theorem gX4_fences_X4_in : GoodIn wsX4_fences (va_wsS RX4 60 yX4_in wsX4_in) := goodIn_app (goodIn_of _ (by decide +kernel)) ggX4_fences_X4_in
set_option maxRecDepth 20000 in
theorem ggX4_fences_X4_findPlan : GoodIn wsX4_fences wsX4_findPlan := goodIn_r _ [8, 9, 10, 11, 12, 13, 14, 3, 15, 16, 17, 18, 19, 20, 21, 22, 23, 24, 25, 26, 27, 28, 29, 30, 31, 32, 33, 34, 35, 36, 37, 38, 39, 40, 41, 42, 43, 44, 45, 46, 47, 48, 49, 50, 51, 52, 53, 54, 55, 56, 57, 58, 1, 2, 4, 59, 60, 61, 62, 63, 64, 65, 66, 67, 68, 69, 70, 71, 72, 73, 74, 75, 76, 77, 78] (by decide +kernel) (by decide +kernel)
set_option maxRecDepth 20000 in
theorem gX4_fences_X4_findPlan : GoodIn wsX4_fences (wsV RX4 112 RX4 yX4_findPlan wsX4_findPlan) := goodIn_app (goodIn_of _ (by decide +kernel)) ggX4_fences_X4_findPlan
theorem dX4_fences_0 : decode cX4_fences 0 = .ok (.iload_n 1, 1) := by decide +kernel
theorem dX4_fences_1 : decode cX4_fences 1 = .ok (.iconst 0, 1) := by decide +kernel
theorem dX4_fences_2 : decode cX4_fences 2 = .ok (.bipush 99, 2) := by decide +kernel
theorem dX4_fences_4 : decode cX4_fences 4 = .ok (.invokestatic 60, 3) := by decide +kernel
theorem dX4_fences_7 : decode cX4_fences 7 = .ok (.ifCond .eq 11, 3) := by decide +kernel
theorem dX4_fences_10 : decode cX4_fences 10 = .ok (.aload_n 0, 1) := by decide +kernel
theorem dX4_fences_11 : decode cX4_fences 11 = .ok (.iload_n 1, 1) := by decide +kernel
theorem dX4_fences_12 : decode cX4_fences 12 = .ok (.invokevirtual 112, 3) := by decide +kernel
theorem dX4_fences_15 : decode cX4_fences 15 = .ok (.goto 4, 3) := by decide +kernel
theorem dX4_fences_18 : decode cX4_fences 18 = .ok (.iconst (-1), 1) := by decide +kernel
theorem dX4_fences_19 : decode cX4_fences 19 = .ok (.ireturn, 1) := by decide +kernel
set_option maxRecDepth 20000 in
theorem ggX4_most_X4_lay : GoodIn wsX4_most wsX4_lay := goodIn_r _ [7, 2, 8, 58, 59, 60, 61, 62, 63, 64, 65, 66, 67, 68, 69, 70, 71, 72, 73] (by decide +kernel) (by decide +kernel)
set_option maxRecDepth 20000 in
theorem gX4_most_X4_lay : GoodIn wsX4_most (wsV RX4 105 RX4 yX4_lay wsX4_lay) := goodIn_app (goodIn_of _ (by decide +kernel)) ggX4_most_X4_lay
set_option maxRecDepth 20000 in
theorem ggX4_most_X4_holds : GoodIn wsX4_most wsX4_holds := goodIn_r _ [12, 1, 13, 14, 15, 16, 6, 17, 18, 19, 20, 21, 22, 23, 24, 25, 26, 27, 28, 29, 30, 31, 32, 33, 8, 34, 35, 36, 37, 38, 2, 39, 40, 41, 42, 43, 44, 45, 46, 47, 48, 49, 50, 51, 52, 53, 54, 55, 56, 57, 58, 59, 60, 61, 62, 63, 64, 65, 66, 67, 68, 69, 70, 71, 72, 73] (by decide +kernel) (by decide +kernel)
set_option maxRecDepth 20000 in
theorem gX4_most_X4_holds : GoodIn wsX4_most (wsV RX4 108 RX4 yX4_holds wsX4_holds) := goodIn_app (goodIn_of _ (by decide +kernel)) ggX4_most_X4_holds
theorem dX4_most_0 : decode cX4_most 0 = .ok (.aload_n 0, 1) := by decide +kernel
theorem dX4_most_1 : decode cX4_most 1 = .ok (.getfield 38, 3) := by decide +kernel
theorem dX4_most_4 : decode cX4_most 4 = .ok (.iconst 0, 1) := by decide +kernel
theorem dX4_most_5 : decode cX4_most 5 = .ok (.iaload, 1) := by decide +kernel
theorem dX4_most_6 : decode cX4_most 6 = .ok (.aload_n 0, 1) := by decide +kernel
theorem dX4_most_7 : decode cX4_most 7 = .ok (.getfield 38, 3) := by decide +kernel
theorem dX4_most_10 : decode cX4_most 10 = .ok (.iconst 1, 1) := by decide +kernel
theorem dX4_most_11 : decode cX4_most 11 = .ok (.iaload, 1) := by decide +kernel
theorem dX4_most_12 : decode cX4_most 12 = .ok (.iadd, 1) := by decide +kernel
theorem dX4_most_13 : decode cX4_most 13 = .ok (.aload_n 0, 1) := by decide +kernel
theorem dX4_most_14 : decode cX4_most 14 = .ok (.getfield 38, 3) := by decide +kernel
theorem dX4_most_17 : decode cX4_most 17 = .ok (.iconst 2, 1) := by decide +kernel
theorem dX4_most_18 : decode cX4_most 18 = .ok (.iaload, 1) := by decide +kernel
theorem dX4_most_19 : decode cX4_most 19 = .ok (.iadd, 1) := by decide +kernel
theorem dX4_most_20 : decode cX4_most 20 = .ok (.ifCond .ne 6, 3) := by decide +kernel
theorem dX4_most_23 : decode cX4_most 23 = .ok (.bipush (-3), 2) := by decide +kernel
theorem dX4_most_25 : decode cX4_most 25 = .ok (.ireturn, 1) := by decide +kernel
theorem dX4_most_26 : decode cX4_most 26 = .ok (.bipush (-3), 2) := by decide +kernel
theorem dX4_most_28 : decode cX4_most 28 = .ok (.istore_n 1, 1) := by decide +kernel
theorem dX4_most_29 : decode cX4_most 29 = .ok (.iconst 0, 1) := by decide +kernel
theorem dX4_most_30 : decode cX4_most 30 = .ok (.istore_n 2, 1) := by decide +kernel
theorem dX4_most_31 : decode cX4_most 31 = .ok (.iload_n 2, 1) := by decide +kernel
theorem dX4_most_32 : decode cX4_most 32 = .ok (.aload_n 0, 1) := by decide +kernel
theorem dX4_most_33 : decode cX4_most 33 = .ok (.getfield 7, 3) := by decide +kernel
theorem dX4_most_36 : decode cX4_most 36 = .ok (.iconst 1, 1) := by decide +kernel
theorem dX4_most_37 : decode cX4_most 37 = .ok (.iadd, 1) := by decide +kernel
theorem dX4_most_38 : decode cX4_most 38 = .ok (.aload_n 0, 1) := by decide +kernel
theorem dX4_most_39 : decode cX4_most 39 = .ok (.getfield 7, 3) := by decide +kernel
theorem dX4_most_42 : decode cX4_most 42 = .ok (.iconst 1, 1) := by decide +kernel
theorem dX4_most_43 : decode cX4_most 43 = .ok (.iadd, 1) := by decide +kernel
theorem dX4_most_44 : decode cX4_most 44 = .ok (.imul, 1) := by decide +kernel
theorem dX4_most_45 : decode cX4_most 45 = .ok (.aload_n 0, 1) := by decide +kernel
theorem dX4_most_46 : decode cX4_most 46 = .ok (.getfield 7, 3) := by decide +kernel
theorem dX4_most_49 : decode cX4_most 49 = .ok (.iconst 1, 1) := by decide +kernel
theorem dX4_most_50 : decode cX4_most 50 = .ok (.iadd, 1) := by decide +kernel
theorem dX4_most_51 : decode cX4_most 51 = .ok (.imul, 1) := by decide +kernel
theorem dX4_most_52 : decode cX4_most 52 = .ok (.if_icmp .ge 39, 3) := by decide +kernel
theorem dX4_most_55 : decode cX4_most 55 = .ok (.aload_n 0, 1) := by decide +kernel
theorem dX4_most_56 : decode cX4_most 56 = .ok (.iload_n 2, 1) := by decide +kernel
theorem dX4_most_57 : decode cX4_most 57 = .ok (.invokevirtual 105, 3) := by decide +kernel
theorem dX4_most_60 : decode cX4_most 60 = .ok (.istore_n 3, 1) := by decide +kernel
theorem dX4_most_61 : decode cX4_most 61 = .ok (.aload_n 0, 1) := by decide +kernel
theorem dX4_most_62 : decode cX4_most 62 = .ok (.invokevirtual 108, 3) := by decide +kernel
theorem dX4_most_65 : decode cX4_most 65 = .ok (.istore 4, 2) := by decide +kernel
theorem dX4_most_67 : decode cX4_most 67 = .ok (.iload 4, 2) := by decide +kernel
theorem dX4_most_69 : decode cX4_most 69 = .ok (.ifCond .lt 14, 3) := by decide +kernel
theorem dX4_most_72 : decode cX4_most 72 = .ok (.iload 4, 2) := by decide +kernel
theorem dX4_most_74 : decode cX4_most 74 = .ok (.iload_n 1, 1) := by decide +kernel
theorem dX4_most_75 : decode cX4_most 75 = .ok (.if_icmp .le 8, 3) := by decide +kernel
theorem dX4_most_78 : decode cX4_most 78 = .ok (.iload 4, 2) := by decide +kernel
theorem dX4_most_80 : decode cX4_most 80 = .ok (.goto 4, 3) := by decide +kernel
theorem dX4_most_83 : decode cX4_most 83 = .ok (.iload_n 1, 1) := by decide +kernel
theorem dX4_most_84 : decode cX4_most 84 = .ok (.istore_n 1, 1) := by decide +kernel
theorem dX4_most_85 : decode cX4_most 85 = .ok (.iinc 2 1, 3) := by decide +kernel
theorem dX4_most_88 : decode cX4_most 88 = .ok (.goto (-57), 3) := by decide +kernel
theorem dX4_most_91 : decode cX4_most 91 = .ok (.iload_n 1, 1) := by decide +kernel
theorem dX4_most_92 : decode cX4_most 92 = .ok (.ireturn, 1) := by decide +kernel
set_option maxRecDepth 20000 in
theorem ggX4_read_X4_isCell : GoodIn wsX4_read wsX4_isCell := goodIn_r _ [6, 7, 8, 9, 5, 10, 11, 12, 13, 14, 15, 16, 17, 18, 19, 20, 21, 22, 23, 24, 25, 26] (by decide +kernel) (by decide +kernel)
set_option maxRecDepth 20000 in
theorem gX4_read_X4_isCell : GoodIn wsX4_read (wsV RX4 64 RX4 yX4_isCell wsX4_isCell) := goodIn_app (goodIn_of _ (by decide +kernel)) ggX4_read_X4_isCell
set_option maxRecDepth 20000 in
theorem ggX4_read_X4_in : GoodIn wsX4_read wsX4_in := goodIn_r _ [10] (by decide +kernel) (by decide +kernel)
set_option maxRecDepth 20000 in
theorem gX4_read_X4_in : GoodIn wsX4_read (va_wsS RX4 60 yX4_in wsX4_in) := goodIn_app (goodIn_of _ (by decide +kernel)) ggX4_read_X4_in
theorem dX4_read_0 : decode cX4_read 0 = .ok (.aload_n 0, 1) := by decide +kernel
theorem dX4_read_1 : decode cX4_read 1 = .ok (.iload_n 1, 1) := by decide +kernel
theorem dX4_read_2 : decode cX4_read 2 = .ok (.invokevirtual 64, 3) := by decide +kernel
theorem dX4_read_5 : decode cX4_read 5 = .ok (.ifCond .eq 13, 3) := by decide +kernel
theorem dX4_read_8 : decode cX4_read 8 = .ok (.iload_n 2, 1) := by decide +kernel
theorem dX4_read_9 : decode cX4_read 9 = .ok (.iconst (-1), 1) := by decide +kernel
theorem dX4_read_10 : decode cX4_read 10 = .ok (.bipush 99, 2) := by decide +kernel
theorem dX4_read_12 : decode cX4_read 12 = .ok (.invokestatic 60, 3) := by decide +kernel
theorem dX4_read_15 : decode cX4_read 15 = .ok (.ifCond .ne 6, 3) := by decide +kernel
theorem dX4_read_18 : decode cX4_read 18 = .ok (.bipush (-9), 2) := by decide +kernel
theorem dX4_read_20 : decode cX4_read 20 = .ok (.ireturn, 1) := by decide +kernel
theorem dX4_read_21 : decode cX4_read 21 = .ok (.aload_n 0, 1) := by decide +kernel
theorem dX4_read_22 : decode cX4_read 22 = .ok (.getfield 47, 3) := by decide +kernel
theorem dX4_read_25 : decode cX4_read 25 = .ok (.iload_n 1, 1) := by decide +kernel
theorem dX4_read_26 : decode cX4_read 26 = .ok (.iaload, 1) := by decide +kernel
theorem dX4_read_27 : decode cX4_read 27 = .ok (.istore_n 3, 1) := by decide +kernel
theorem dX4_read_28 : decode cX4_read 28 = .ok (.aload_n 0, 1) := by decide +kernel
theorem dX4_read_29 : decode cX4_read 29 = .ok (.getfield 47, 3) := by decide +kernel
theorem dX4_read_32 : decode cX4_read 32 = .ok (.iload_n 1, 1) := by decide +kernel
theorem dX4_read_33 : decode cX4_read 33 = .ok (.iload_n 2, 1) := by decide +kernel
theorem dX4_read_34 : decode cX4_read 34 = .ok (.iastore, 1) := by decide +kernel
theorem dX4_read_35 : decode cX4_read 35 = .ok (.iload_n 3, 1) := by decide +kernel
theorem dX4_read_36 : decode cX4_read 36 = .ok (.ireturn, 1) := by decide +kernel
theorem dX4_take_0 : decode cX4_take 0 = .ok (.iconst 0, 1) := by decide +kernel
theorem dX4_take_1 : decode cX4_take 1 = .ok (.istore_n 1, 1) := by decide +kernel
theorem dX4_take_2 : decode cX4_take 2 = .ok (.iconst 0, 1) := by decide +kernel
theorem dX4_take_3 : decode cX4_take 3 = .ok (.istore_n 2, 1) := by decide +kernel
theorem dX4_take_4 : decode cX4_take 4 = .ok (.iload_n 2, 1) := by decide +kernel
theorem dX4_take_5 : decode cX4_take 5 = .ok (.aload_n 0, 1) := by decide +kernel
theorem dX4_take_6 : decode cX4_take 6 = .ok (.getfield 7, 3) := by decide +kernel
theorem dX4_take_9 : decode cX4_take 9 = .ok (.if_icmp .ge 44, 3) := by decide +kernel
theorem dX4_take_12 : decode cX4_take 12 = .ok (.iload_n 1, 1) := by decide +kernel
theorem dX4_take_13 : decode cX4_take 13 = .ok (.aload_n 0, 1) := by decide +kernel
theorem dX4_take_14 : decode cX4_take 14 = .ok (.getfield 47, 3) := by decide +kernel
theorem dX4_take_17 : decode cX4_take 17 = .ok (.iload_n 2, 1) := by decide +kernel
theorem dX4_take_18 : decode cX4_take 18 = .ok (.iaload, 1) := by decide +kernel
theorem dX4_take_19 : decode cX4_take 19 = .ok (.aload_n 0, 1) := by decide +kernel
theorem dX4_take_20 : decode cX4_take 20 = .ok (.getfield 16, 3) := by decide +kernel
theorem dX4_take_23 : decode cX4_take 23 = .ok (.iload_n 2, 1) := by decide +kernel
theorem dX4_take_24 : decode cX4_take 24 = .ok (.iaload, 1) := by decide +kernel
theorem dX4_take_25 : decode cX4_take 25 = .ok (.if_icmp .eq 7, 3) := by decide +kernel
theorem dX4_take_28 : decode cX4_take 28 = .ok (.iconst 1, 1) := by decide +kernel
theorem dX4_take_29 : decode cX4_take 29 = .ok (.goto 4, 3) := by decide +kernel
theorem dX4_take_32 : decode cX4_take 32 = .ok (.iconst 0, 1) := by decide +kernel
theorem dX4_take_33 : decode cX4_take 33 = .ok (.iadd, 1) := by decide +kernel
theorem dX4_take_34 : decode cX4_take 34 = .ok (.istore_n 1, 1) := by decide +kernel
theorem dX4_take_35 : decode cX4_take 35 = .ok (.aload_n 0, 1) := by decide +kernel
theorem dX4_take_36 : decode cX4_take 36 = .ok (.getfield 47, 3) := by decide +kernel
theorem dX4_take_39 : decode cX4_take 39 = .ok (.iload_n 2, 1) := by decide +kernel
theorem dX4_take_40 : decode cX4_take 40 = .ok (.aload_n 0, 1) := by decide +kernel
theorem dX4_take_41 : decode cX4_take 41 = .ok (.getfield 16, 3) := by decide +kernel
theorem dX4_take_44 : decode cX4_take 44 = .ok (.iload_n 2, 1) := by decide +kernel
theorem dX4_take_45 : decode cX4_take 45 = .ok (.iaload, 1) := by decide +kernel
theorem dX4_take_46 : decode cX4_take 46 = .ok (.iastore, 1) := by decide +kernel
theorem dX4_take_47 : decode cX4_take 47 = .ok (.iinc 2 1, 3) := by decide +kernel
theorem dX4_take_50 : decode cX4_take 50 = .ok (.goto (-46), 3) := by decide +kernel
theorem dX4_take_53 : decode cX4_take 53 = .ok (.iload_n 1, 1) := by decide +kernel
theorem dX4_take_54 : decode cX4_take 54 = .ok (.ireturn, 1) := by decide +kernel
theorem dX4_readings_0 : decode cX4_readings 0 = .ok (.iconst 0, 1) := by decide +kernel
theorem dX4_readings_1 : decode cX4_readings 1 = .ok (.istore_n 1, 1) := by decide +kernel
theorem dX4_readings_2 : decode cX4_readings 2 = .ok (.iconst 0, 1) := by decide +kernel
theorem dX4_readings_3 : decode cX4_readings 3 = .ok (.istore_n 2, 1) := by decide +kernel
theorem dX4_readings_4 : decode cX4_readings 4 = .ok (.iload_n 2, 1) := by decide +kernel
theorem dX4_readings_5 : decode cX4_readings 5 = .ok (.aload_n 0, 1) := by decide +kernel
theorem dX4_readings_6 : decode cX4_readings 6 = .ok (.getfield 7, 3) := by decide +kernel
theorem dX4_readings_9 : decode cX4_readings 9 = .ok (.if_icmp .ge 26, 3) := by decide +kernel
theorem dX4_readings_12 : decode cX4_readings 12 = .ok (.iload_n 1, 1) := by decide +kernel
theorem dX4_readings_13 : decode cX4_readings 13 = .ok (.aload_n 0, 1) := by decide +kernel
theorem dX4_readings_14 : decode cX4_readings 14 = .ok (.getfield 47, 3) := by decide +kernel
theorem dX4_readings_17 : decode cX4_readings 17 = .ok (.iload_n 2, 1) := by decide +kernel
theorem dX4_readings_18 : decode cX4_readings 18 = .ok (.iaload, 1) := by decide +kernel
theorem dX4_readings_19 : decode cX4_readings 19 = .ok (.ifCond .lt 7, 3) := by decide +kernel
theorem dX4_readings_22 : decode cX4_readings 22 = .ok (.iconst 1, 1) := by decide +kernel
theorem dX4_readings_23 : decode cX4_readings 23 = .ok (.goto 4, 3) := by decide +kernel
theorem dX4_readings_26 : decode cX4_readings 26 = .ok (.iconst 0, 1) := by decide +kernel
theorem dX4_readings_27 : decode cX4_readings 27 = .ok (.iadd, 1) := by decide +kernel
theorem dX4_readings_28 : decode cX4_readings 28 = .ok (.istore_n 1, 1) := by decide +kernel
theorem dX4_readings_29 : decode cX4_readings 29 = .ok (.iinc 2 1, 3) := by decide +kernel
theorem dX4_readings_32 : decode cX4_readings 32 = .ok (.goto (-28), 3) := by decide +kernel
theorem dX4_readings_35 : decode cX4_readings 35 = .ok (.iload_n 1, 1) := by decide +kernel
theorem dX4_readings_36 : decode cX4_readings 36 = .ok (.ireturn, 1) := by decide +kernel
theorem dX4_levelOf_0 : decode cX4_levelOf 0 = .ok (.iload_n 1, 1) := by decide +kernel
theorem dX4_levelOf_1 : decode cX4_levelOf 1 = .ok (.istore_n 2, 1) := by decide +kernel
theorem dX4_levelOf_2 : decode cX4_levelOf 2 = .ok (.iload_n 1, 1) := by decide +kernel
theorem dX4_levelOf_3 : decode cX4_levelOf 3 = .ok (.istore_n 3, 1) := by decide +kernel
theorem dX4_levelOf_4 : decode cX4_levelOf 4 = .ok (.iload_n 2, 1) := by decide +kernel
theorem dX4_levelOf_5 : decode cX4_levelOf 5 = .ok (.ifCond .lt 18, 3) := by decide +kernel
theorem dX4_levelOf_8 : decode cX4_levelOf 8 = .ok (.aload_n 0, 1) := by decide +kernel
theorem dX4_levelOf_9 : decode cX4_levelOf 9 = .ok (.getfield 47, 3) := by decide +kernel
theorem dX4_levelOf_12 : decode cX4_levelOf 12 = .ok (.iload_n 2, 1) := by decide +kernel
theorem dX4_levelOf_13 : decode cX4_levelOf 13 = .ok (.iaload, 1) := by decide +kernel
theorem dX4_levelOf_14 : decode cX4_levelOf 14 = .ok (.ifCond .ge 9, 3) := by decide +kernel
theorem dX4_levelOf_17 : decode cX4_levelOf 17 = .ok (.iinc 2 (-1), 3) := by decide +kernel
theorem dX4_levelOf_20 : decode cX4_levelOf 20 = .ok (.goto (-16), 3) := by decide +kernel
theorem dX4_levelOf_23 : decode cX4_levelOf 23 = .ok (.iload_n 3, 1) := by decide +kernel
theorem dX4_levelOf_24 : decode cX4_levelOf 24 = .ok (.aload_n 0, 1) := by decide +kernel
theorem dX4_levelOf_25 : decode cX4_levelOf 25 = .ok (.getfield 7, 3) := by decide +kernel
theorem dX4_levelOf_28 : decode cX4_levelOf 28 = .ok (.if_icmp .ge 18, 3) := by decide +kernel
theorem dX4_levelOf_31 : decode cX4_levelOf 31 = .ok (.aload_n 0, 1) := by decide +kernel
theorem dX4_levelOf_32 : decode cX4_levelOf 32 = .ok (.getfield 47, 3) := by decide +kernel
theorem dX4_levelOf_35 : decode cX4_levelOf 35 = .ok (.iload_n 3, 1) := by decide +kernel
theorem dX4_levelOf_36 : decode cX4_levelOf 36 = .ok (.iaload, 1) := by decide +kernel
theorem dX4_levelOf_37 : decode cX4_levelOf 37 = .ok (.ifCond .ge 9, 3) := by decide +kernel
theorem dX4_levelOf_40 : decode cX4_levelOf 40 = .ok (.iinc 3 1, 3) := by decide +kernel
theorem dX4_levelOf_43 : decode cX4_levelOf 43 = .ok (.goto (-20), 3) := by decide +kernel
theorem dX4_levelOf_46 : decode cX4_levelOf 46 = .ok (.iload_n 2, 1) := by decide +kernel
theorem dX4_levelOf_47 : decode cX4_levelOf 47 = .ok (.ifCond .ge 13, 3) := by decide +kernel
theorem dX4_levelOf_50 : decode cX4_levelOf 50 = .ok (.bipush 60, 2) := by decide +kernel
theorem dX4_levelOf_52 : decode cX4_levelOf 52 = .ok (.aload_n 0, 1) := by decide +kernel
theorem dX4_levelOf_53 : decode cX4_levelOf 53 = .ok (.getfield 47, 3) := by decide +kernel
theorem dX4_levelOf_56 : decode cX4_levelOf 56 = .ok (.iload_n 3, 1) := by decide +kernel
theorem dX4_levelOf_57 : decode cX4_levelOf 57 = .ok (.iaload, 1) := by decide +kernel
theorem dX4_levelOf_58 : decode cX4_levelOf 58 = .ok (.imul, 1) := by decide +kernel
theorem dX4_levelOf_59 : decode cX4_levelOf 59 = .ok (.ireturn, 1) := by decide +kernel
theorem dX4_levelOf_60 : decode cX4_levelOf 60 = .ok (.iload_n 3, 1) := by decide +kernel
theorem dX4_levelOf_61 : decode cX4_levelOf 61 = .ok (.aload_n 0, 1) := by decide +kernel
theorem dX4_levelOf_62 : decode cX4_levelOf 62 = .ok (.getfield 7, 3) := by decide +kernel
theorem dX4_levelOf_65 : decode cX4_levelOf 65 = .ok (.if_icmp .eq 8, 3) := by decide +kernel
theorem dX4_levelOf_68 : decode cX4_levelOf 68 = .ok (.iload_n 2, 1) := by decide +kernel
theorem dX4_levelOf_69 : decode cX4_levelOf 69 = .ok (.iload_n 3, 1) := by decide +kernel
theorem dX4_levelOf_70 : decode cX4_levelOf 70 = .ok (.if_icmp .ne 13, 3) := by decide +kernel
theorem dX4_levelOf_73 : decode cX4_levelOf 73 = .ok (.bipush 60, 2) := by decide +kernel
theorem dX4_levelOf_75 : decode cX4_levelOf 75 = .ok (.aload_n 0, 1) := by decide +kernel
theorem dX4_levelOf_76 : decode cX4_levelOf 76 = .ok (.getfield 47, 3) := by decide +kernel
theorem dX4_levelOf_79 : decode cX4_levelOf 79 = .ok (.iload_n 2, 1) := by decide +kernel
theorem dX4_levelOf_80 : decode cX4_levelOf 80 = .ok (.iaload, 1) := by decide +kernel
theorem dX4_levelOf_81 : decode cX4_levelOf 81 = .ok (.imul, 1) := by decide +kernel
theorem dX4_levelOf_82 : decode cX4_levelOf 82 = .ok (.ireturn, 1) := by decide +kernel
theorem dX4_levelOf_83 : decode cX4_levelOf 83 = .ok (.bipush 60, 2) := by decide +kernel
theorem dX4_levelOf_85 : decode cX4_levelOf 85 = .ok (.iload_n 3, 1) := by decide +kernel
theorem dX4_levelOf_86 : decode cX4_levelOf 86 = .ok (.iload_n 2, 1) := by decide +kernel
theorem dX4_levelOf_87 : decode cX4_levelOf 87 = .ok (.isub, 1) := by decide +kernel
theorem dX4_levelOf_88 : decode cX4_levelOf 88 = .ok (.idiv, 1) := by decide +kernel
theorem dX4_levelOf_89 : decode cX4_levelOf 89 = .ok (.aload_n 0, 1) := by decide +kernel
theorem dX4_levelOf_90 : decode cX4_levelOf 90 = .ok (.getfield 47, 3) := by decide +kernel
theorem dX4_levelOf_93 : decode cX4_levelOf 93 = .ok (.iload_n 2, 1) := by decide +kernel
theorem dX4_levelOf_94 : decode cX4_levelOf 94 = .ok (.iaload, 1) := by decide +kernel
theorem dX4_levelOf_95 : decode cX4_levelOf 95 = .ok (.iload_n 3, 1) := by decide +kernel
theorem dX4_levelOf_96 : decode cX4_levelOf 96 = .ok (.iload_n 1, 1) := by decide +kernel
theorem dX4_levelOf_97 : decode cX4_levelOf 97 = .ok (.isub, 1) := by decide +kernel
theorem dX4_levelOf_98 : decode cX4_levelOf 98 = .ok (.imul, 1) := by decide +kernel
theorem dX4_levelOf_99 : decode cX4_levelOf 99 = .ok (.aload_n 0, 1) := by decide +kernel
theorem dX4_levelOf_100 : decode cX4_levelOf 100 = .ok (.getfield 47, 3) := by decide +kernel
theorem dX4_levelOf_103 : decode cX4_levelOf 103 = .ok (.iload_n 3, 1) := by decide +kernel
theorem dX4_levelOf_104 : decode cX4_levelOf 104 = .ok (.iaload, 1) := by decide +kernel
theorem dX4_levelOf_105 : decode cX4_levelOf 105 = .ok (.iload_n 1, 1) := by decide +kernel
theorem dX4_levelOf_106 : decode cX4_levelOf 106 = .ok (.iload_n 2, 1) := by decide +kernel
theorem dX4_levelOf_107 : decode cX4_levelOf 107 = .ok (.isub, 1) := by decide +kernel
theorem dX4_levelOf_108 : decode cX4_levelOf 108 = .ok (.imul, 1) := by decide +kernel
theorem dX4_levelOf_109 : decode cX4_levelOf 109 = .ok (.iadd, 1) := by decide +kernel
theorem dX4_levelOf_110 : decode cX4_levelOf 110 = .ok (.imul, 1) := by decide +kernel
theorem dX4_levelOf_111 : decode cX4_levelOf 111 = .ok (.ireturn, 1) := by decide +kernel
set_option maxRecDepth 20000 in
theorem ggX4_volumeNow_X4_levelOf : GoodIn wsX4_volumeNow wsX4_levelOf := goodIn_r _ [6, 7, 1, 8, 9, 10, 11, 12, 13, 14, 15, 16, 17, 18, 19, 20, 21, 22, 23] (by decide +kernel) (by decide +kernel)
set_option maxRecDepth 20000 in
theorem gX4_volumeNow_X4_levelOf : GoodIn wsX4_volumeNow (wsV RX4 115 RX4 yX4_levelOf wsX4_levelOf) := goodIn_app (goodIn_of _ (by decide +kernel)) ggX4_volumeNow_X4_levelOf
theorem dX4_volumeNow_0 : decode cX4_volumeNow 0 = .ok (.iconst 0, 1) := by decide +kernel
theorem dX4_volumeNow_1 : decode cX4_volumeNow 1 = .ok (.istore_n 1, 1) := by decide +kernel
theorem dX4_volumeNow_2 : decode cX4_volumeNow 2 = .ok (.iconst 0, 1) := by decide +kernel
theorem dX4_volumeNow_3 : decode cX4_volumeNow 3 = .ok (.istore_n 2, 1) := by decide +kernel
theorem dX4_volumeNow_4 : decode cX4_volumeNow 4 = .ok (.iload_n 2, 1) := by decide +kernel
theorem dX4_volumeNow_5 : decode cX4_volumeNow 5 = .ok (.aload_n 0, 1) := by decide +kernel
theorem dX4_volumeNow_6 : decode cX4_volumeNow 6 = .ok (.getfield 7, 3) := by decide +kernel
theorem dX4_volumeNow_9 : decode cX4_volumeNow 9 = .ok (.if_icmp .ge 17, 3) := by decide +kernel
theorem dX4_volumeNow_12 : decode cX4_volumeNow 12 = .ok (.iload_n 1, 1) := by decide +kernel
theorem dX4_volumeNow_13 : decode cX4_volumeNow 13 = .ok (.aload_n 0, 1) := by decide +kernel
theorem dX4_volumeNow_14 : decode cX4_volumeNow 14 = .ok (.iload_n 2, 1) := by decide +kernel
theorem dX4_volumeNow_15 : decode cX4_volumeNow 15 = .ok (.invokevirtual 115, 3) := by decide +kernel
theorem dX4_volumeNow_18 : decode cX4_volumeNow 18 = .ok (.iadd, 1) := by decide +kernel
theorem dX4_volumeNow_19 : decode cX4_volumeNow 19 = .ok (.istore_n 1, 1) := by decide +kernel
theorem dX4_volumeNow_20 : decode cX4_volumeNow 20 = .ok (.iinc 2 1, 3) := by decide +kernel
theorem dX4_volumeNow_23 : decode cX4_volumeNow 23 = .ok (.goto (-19), 3) := by decide +kernel
theorem dX4_volumeNow_26 : decode cX4_volumeNow 26 = .ok (.iload_n 1, 1) := by decide +kernel
theorem dX4_volumeNow_27 : decode cX4_volumeNow 27 = .ok (.ireturn, 1) := by decide +kernel
theorem dX4_part_0 : decode cX4_part 0 = .ok (.iload_n 0, 1) := by decide +kernel
theorem dX4_part_1 : decode cX4_part 1 = .ok (.istore_n 2, 1) := by decide +kernel
theorem dX4_part_2 : decode cX4_part 2 = .ok (.bipush 60, 2) := by decide +kernel
theorem dX4_part_4 : decode cX4_part 4 = .ok (.istore_n 3, 1) := by decide +kernel
theorem dX4_part_5 : decode cX4_part 5 = .ok (.iload_n 3, 1) := by decide +kernel
theorem dX4_part_6 : decode cX4_part 6 = .ok (.ifCond .eq 16, 3) := by decide +kernel
theorem dX4_part_9 : decode cX4_part 9 = .ok (.iload_n 2, 1) := by decide +kernel
theorem dX4_part_10 : decode cX4_part 10 = .ok (.iload_n 3, 1) := by decide +kernel
theorem dX4_part_11 : decode cX4_part 11 = .ok (.irem, 1) := by decide +kernel
theorem dX4_part_12 : decode cX4_part 12 = .ok (.istore 4, 2) := by decide +kernel
theorem dX4_part_14 : decode cX4_part 14 = .ok (.iload_n 3, 1) := by decide +kernel
theorem dX4_part_15 : decode cX4_part 15 = .ok (.istore_n 2, 1) := by decide +kernel
theorem dX4_part_16 : decode cX4_part 16 = .ok (.iload 4, 2) := by decide +kernel
theorem dX4_part_18 : decode cX4_part 18 = .ok (.istore_n 3, 1) := by decide +kernel
theorem dX4_part_19 : decode cX4_part 19 = .ok (.goto (-14), 3) := by decide +kernel
theorem dX4_part_22 : decode cX4_part 22 = .ok (.iload_n 1, 1) := by decide +kernel
theorem dX4_part_23 : decode cX4_part 23 = .ok (.ifCond .ne 7, 3) := by decide +kernel
theorem dX4_part_26 : decode cX4_part 26 = .ok (.iload_n 0, 1) := by decide +kernel
theorem dX4_part_27 : decode cX4_part 27 = .ok (.goto 5, 3) := by decide +kernel
theorem dX4_part_30 : decode cX4_part 30 = .ok (.bipush 60, 2) := by decide +kernel
theorem dX4_part_32 : decode cX4_part 32 = .ok (.iload_n 2, 1) := by decide +kernel
theorem dX4_part_33 : decode cX4_part 33 = .ok (.idiv, 1) := by decide +kernel
theorem dX4_part_34 : decode cX4_part 34 = .ok (.ireturn, 1) := by decide +kernel
set_option maxRecDepth 20000 in
theorem ggX4_level_X4_isCell : GoodIn wsX4_level wsX4_isCell := goodIn_r _ [5, 6, 7, 8, 4, 9, 22, 23, 24, 25, 26, 27, 28, 29, 30, 31, 32, 33, 34, 35, 36, 37] (by decide +kernel) (by decide +kernel)
set_option maxRecDepth 20000 in
theorem gX4_level_X4_isCell : GoodIn wsX4_level (wsV RX4 64 RX4 yX4_isCell wsX4_isCell) := goodIn_app (goodIn_of _ (by decide +kernel)) ggX4_level_X4_isCell
set_option maxRecDepth 20000 in
theorem ggX4_level_X4_in : GoodIn wsX4_level wsX4_in := goodIn_r _ [9] (by decide +kernel) (by decide +kernel)
set_option maxRecDepth 20000 in
theorem gX4_level_X4_in : GoodIn wsX4_level (va_wsS RX4 60 yX4_in wsX4_in) := goodIn_app (goodIn_of _ (by decide +kernel)) ggX4_level_X4_in
set_option maxRecDepth 20000 in
theorem ggX4_level_X4_readings : GoodIn wsX4_level wsX4_readings := goodIn_r _ [13, 6, 14, 22, 23, 24, 25, 26, 27, 28, 29, 30, 31, 32, 33, 34, 35, 36, 37] (by decide +kernel) (by decide +kernel)
set_option maxRecDepth 20000 in
theorem gX4_level_X4_readings : GoodIn wsX4_level (wsV RX4 118 RX4 yX4_readings wsX4_readings) := goodIn_app (goodIn_of _ (by decide +kernel)) ggX4_level_X4_readings
set_option maxRecDepth 20000 in
theorem ggX4_level_X4_levelOf : GoodIn wsX4_level wsX4_levelOf := goodIn_r _ [18, 14, 6, 22, 23, 24, 25, 26, 27, 28, 29, 30, 31, 32, 33, 34, 35, 36, 37] (by decide +kernel) (by decide +kernel)
set_option maxRecDepth 20000 in
theorem gX4_level_X4_levelOf : GoodIn wsX4_level (wsV RX4 115 RX4 yX4_levelOf wsX4_levelOf) := goodIn_app (goodIn_of _ (by decide +kernel)) ggX4_level_X4_levelOf
set_option maxRecDepth 20000 in
theorem ggX4_level_X4_part : GoodIn wsX4_level wsX4_part := goodIn_r _ [21] (by decide +kernel) (by decide +kernel)
set_option maxRecDepth 20000 in
theorem gX4_level_X4_part : GoodIn wsX4_level (va_wsS RX4 121 yX4_part wsX4_part) := goodIn_app (goodIn_of _ (by decide +kernel)) ggX4_level_X4_part
theorem dX4_level_0 : decode cX4_level 0 = .ok (.aload_n 0, 1) := by decide +kernel
theorem dX4_level_1 : decode cX4_level 1 = .ok (.iload_n 1, 1) := by decide +kernel
theorem dX4_level_2 : decode cX4_level 2 = .ok (.invokevirtual 64, 3) := by decide +kernel
theorem dX4_level_5 : decode cX4_level 5 = .ok (.ifCond .eq 12, 3) := by decide +kernel
theorem dX4_level_8 : decode cX4_level 8 = .ok (.iload_n 2, 1) := by decide +kernel
theorem dX4_level_9 : decode cX4_level 9 = .ok (.iconst 0, 1) := by decide +kernel
theorem dX4_level_10 : decode cX4_level 10 = .ok (.iconst 1, 1) := by decide +kernel
theorem dX4_level_11 : decode cX4_level 11 = .ok (.invokestatic 60, 3) := by decide +kernel
theorem dX4_level_14 : decode cX4_level 14 = .ok (.ifCond .ne 5, 3) := by decide +kernel
theorem dX4_level_17 : decode cX4_level 17 = .ok (.iconst (-1), 1) := by decide +kernel
theorem dX4_level_18 : decode cX4_level 18 = .ok (.ireturn, 1) := by decide +kernel
theorem dX4_level_19 : decode cX4_level 19 = .ok (.aload_n 0, 1) := by decide +kernel
theorem dX4_level_20 : decode cX4_level 20 = .ok (.invokevirtual 118, 3) := by decide +kernel
theorem dX4_level_23 : decode cX4_level 23 = .ok (.ifCond .ne 8, 3) := by decide +kernel
theorem dX4_level_26 : decode cX4_level 26 = .ok (.bipush (-3), 2) := by decide +kernel
theorem dX4_level_28 : decode cX4_level 28 = .ok (.goto 12, 3) := by decide +kernel
theorem dX4_level_31 : decode cX4_level 31 = .ok (.aload_n 0, 1) := by decide +kernel
theorem dX4_level_32 : decode cX4_level 32 = .ok (.iload_n 1, 1) := by decide +kernel
theorem dX4_level_33 : decode cX4_level 33 = .ok (.invokevirtual 115, 3) := by decide +kernel
theorem dX4_level_36 : decode cX4_level 36 = .ok (.iload_n 2, 1) := by decide +kernel
theorem dX4_level_37 : decode cX4_level 37 = .ok (.invokestatic 121, 3) := by decide +kernel
theorem dX4_level_40 : decode cX4_level 40 = .ok (.ireturn, 1) := by decide +kernel
set_option maxRecDepth 20000 in
theorem ggX4_volume_X4_in : GoodIn wsX4_volume wsX4_in := goodIn_r _ [4] (by decide +kernel) (by decide +kernel)
set_option maxRecDepth 20000 in
theorem gX4_volume_X4_in : GoodIn wsX4_volume (va_wsS RX4 60 yX4_in wsX4_in) := goodIn_app (goodIn_of _ (by decide +kernel)) ggX4_volume_X4_in
set_option maxRecDepth 20000 in
theorem ggX4_volume_X4_readings : GoodIn wsX4_volume wsX4_readings := goodIn_r _ [8, 9, 10, 22, 23, 24, 25, 26, 27, 28, 29, 30, 31, 32, 33, 34, 35, 36, 37] (by decide +kernel) (by decide +kernel)
set_option maxRecDepth 20000 in
theorem gX4_volume_X4_readings : GoodIn wsX4_volume (wsV RX4 118 RX4 yX4_readings wsX4_readings) := goodIn_app (goodIn_of _ (by decide +kernel)) ggX4_volume_X4_readings
set_option maxRecDepth 20000 in
theorem ggX4_volume_X4_volumeNow : GoodIn wsX4_volume wsX4_volumeNow := goodIn_r _ [14, 9, 15, 16, 17, 3, 18, 10, 22, 23, 24, 25, 26, 27, 28, 29, 30, 31, 32, 33, 34, 35, 36, 37] (by decide +kernel) (by decide +kernel)
set_option maxRecDepth 20000 in
theorem gX4_volume_X4_volumeNow : GoodIn wsX4_volume (wsV RX4 124 RX4 yX4_volumeNow wsX4_volumeNow) := goodIn_app (goodIn_of _ (by decide +kernel)) ggX4_volume_X4_volumeNow
set_option maxRecDepth 20000 in
theorem ggX4_volume_X4_part : GoodIn wsX4_volume wsX4_part := goodIn_r _ [21] (by decide +kernel) (by decide +kernel)
set_option maxRecDepth 20000 in
theorem gX4_volume_X4_part : GoodIn wsX4_volume (va_wsS RX4 121 yX4_part wsX4_part) := goodIn_app (goodIn_of _ (by decide +kernel)) ggX4_volume_X4_part
theorem dX4_volume_0 : decode cX4_volume 0 = .ok (.iload_n 1, 1) := by decide +kernel
theorem dX4_volume_1 : decode cX4_volume 1 = .ok (.iconst 0, 1) := by decide +kernel
theorem dX4_volume_2 : decode cX4_volume 2 = .ok (.iconst 1, 1) := by decide +kernel
theorem dX4_volume_3 : decode cX4_volume 3 = .ok (.invokestatic 60, 3) := by decide +kernel
theorem dX4_volume_6 : decode cX4_volume 6 = .ok (.ifCond .ne 5, 3) := by decide +kernel
theorem dX4_volume_9 : decode cX4_volume 9 = .ok (.iconst (-1), 1) := by decide +kernel
theorem dX4_volume_10 : decode cX4_volume 10 = .ok (.ireturn, 1) := by decide +kernel
theorem dX4_volume_11 : decode cX4_volume 11 = .ok (.aload_n 0, 1) := by decide +kernel
theorem dX4_volume_12 : decode cX4_volume 12 = .ok (.invokevirtual 118, 3) := by decide +kernel
theorem dX4_volume_15 : decode cX4_volume 15 = .ok (.ifCond .ne 8, 3) := by decide +kernel
theorem dX4_volume_18 : decode cX4_volume 18 = .ok (.bipush (-3), 2) := by decide +kernel
theorem dX4_volume_20 : decode cX4_volume 20 = .ok (.goto 11, 3) := by decide +kernel
theorem dX4_volume_23 : decode cX4_volume 23 = .ok (.aload_n 0, 1) := by decide +kernel
theorem dX4_volume_24 : decode cX4_volume 24 = .ok (.invokevirtual 124, 3) := by decide +kernel
theorem dX4_volume_27 : decode cX4_volume 27 = .ok (.iload_n 1, 1) := by decide +kernel
theorem dX4_volume_28 : decode cX4_volume 28 = .ok (.invokestatic 121, 3) := by decide +kernel
theorem dX4_volume_31 : decode cX4_volume 31 = .ok (.ireturn, 1) := by decide +kernel
set_option maxRecDepth 20000 in
theorem ggX4_doubt_X4_in : GoodIn wsX4_doubt wsX4_in := goodIn_r _ [6] (by decide +kernel) (by decide +kernel)
set_option maxRecDepth 20000 in
theorem gX4_doubt_X4_in : GoodIn wsX4_doubt (va_wsS RX4 60 yX4_in wsX4_in) := goodIn_app (goodIn_of _ (by decide +kernel)) ggX4_doubt_X4_in
set_option maxRecDepth 20000 in
theorem ggX4_doubt_X4_readings : GoodIn wsX4_doubt wsX4_readings := goodIn_r _ [10, 1, 2, 22, 23, 24, 25, 26, 27, 28, 29, 30, 31, 32, 33, 34, 35, 36, 37] (by decide +kernel) (by decide +kernel)
set_option maxRecDepth 20000 in
theorem gX4_doubt_X4_readings : GoodIn wsX4_doubt (wsV RX4 118 RX4 yX4_readings wsX4_readings) := goodIn_app (goodIn_of _ (by decide +kernel)) ggX4_doubt_X4_readings
set_option maxRecDepth 20000 in
theorem ggX4_doubt_X4_volumeNow : GoodIn wsX4_doubt wsX4_volumeNow := goodIn_r _ [14, 1, 15, 16, 17, 5, 18, 2, 22, 23, 24, 25, 26, 27, 28, 29, 30, 31, 32, 33, 34, 35, 36, 37] (by decide +kernel) (by decide +kernel)
set_option maxRecDepth 20000 in
theorem gX4_doubt_X4_volumeNow : GoodIn wsX4_doubt (wsV RX4 124 RX4 yX4_volumeNow wsX4_volumeNow) := goodIn_app (goodIn_of _ (by decide +kernel)) ggX4_doubt_X4_volumeNow
set_option maxRecDepth 20000 in
theorem ggX4_doubt_X4_part : GoodIn wsX4_doubt wsX4_part := goodIn_r _ [21] (by decide +kernel) (by decide +kernel)
set_option maxRecDepth 20000 in
theorem gX4_doubt_X4_part : GoodIn wsX4_doubt (va_wsS RX4 121 yX4_part wsX4_part) := goodIn_app (goodIn_of _ (by decide +kernel)) ggX4_doubt_X4_part
theorem dX4_doubt_0 : decode cX4_doubt 0 = .ok (.iload_n 1, 1) := by decide +kernel
theorem dX4_doubt_1 : decode cX4_doubt 1 = .ok (.iconst 0, 1) := by decide +kernel
theorem dX4_doubt_2 : decode cX4_doubt 2 = .ok (.iconst 1, 1) := by decide +kernel
theorem dX4_doubt_3 : decode cX4_doubt 3 = .ok (.invokestatic 60, 3) := by decide +kernel
theorem dX4_doubt_6 : decode cX4_doubt 6 = .ok (.ifCond .ne 5, 3) := by decide +kernel
theorem dX4_doubt_9 : decode cX4_doubt 9 = .ok (.iconst (-1), 1) := by decide +kernel
theorem dX4_doubt_10 : decode cX4_doubt 10 = .ok (.ireturn, 1) := by decide +kernel
theorem dX4_doubt_11 : decode cX4_doubt 11 = .ok (.aload_n 0, 1) := by decide +kernel
theorem dX4_doubt_12 : decode cX4_doubt 12 = .ok (.invokevirtual 118, 3) := by decide +kernel
theorem dX4_doubt_15 : decode cX4_doubt 15 = .ok (.iconst 2, 1) := by decide +kernel
theorem dX4_doubt_16 : decode cX4_doubt 16 = .ok (.if_icmp .ge 6, 3) := by decide +kernel
theorem dX4_doubt_19 : decode cX4_doubt 19 = .ok (.bipush (-3), 2) := by decide +kernel
theorem dX4_doubt_21 : decode cX4_doubt 21 = .ok (.ireturn, 1) := by decide +kernel
theorem dX4_doubt_22 : decode cX4_doubt 22 = .ok (.aload_n 0, 1) := by decide +kernel
theorem dX4_doubt_23 : decode cX4_doubt 23 = .ok (.invokevirtual 124, 3) := by decide +kernel
theorem dX4_doubt_26 : decode cX4_doubt 26 = .ok (.istore_n 2, 1) := by decide +kernel
theorem dX4_doubt_27 : decode cX4_doubt 27 = .ok (.iconst 0, 1) := by decide +kernel
theorem dX4_doubt_28 : decode cX4_doubt 28 = .ok (.istore_n 3, 1) := by decide +kernel
theorem dX4_doubt_29 : decode cX4_doubt 29 = .ok (.iconst 0, 1) := by decide +kernel
theorem dX4_doubt_30 : decode cX4_doubt 30 = .ok (.istore 4, 2) := by decide +kernel
theorem dX4_doubt_32 : decode cX4_doubt 32 = .ok (.iload 4, 2) := by decide +kernel
theorem dX4_doubt_34 : decode cX4_doubt 34 = .ok (.aload_n 0, 1) := by decide +kernel
theorem dX4_doubt_35 : decode cX4_doubt 35 = .ok (.getfield 7, 3) := by decide +kernel
theorem dX4_doubt_38 : decode cX4_doubt 38 = .ok (.if_icmp .ge 79, 3) := by decide +kernel
theorem dX4_doubt_41 : decode cX4_doubt 41 = .ok (.aload_n 0, 1) := by decide +kernel
theorem dX4_doubt_42 : decode cX4_doubt 42 = .ok (.getfield 47, 3) := by decide +kernel
theorem dX4_doubt_45 : decode cX4_doubt 45 = .ok (.iload 4, 2) := by decide +kernel
theorem dX4_doubt_47 : decode cX4_doubt 47 = .ok (.iaload, 1) := by decide +kernel
theorem dX4_doubt_48 : decode cX4_doubt 48 = .ok (.istore 5, 2) := by decide +kernel
theorem dX4_doubt_50 : decode cX4_doubt 50 = .ok (.iload 5, 2) := by decide +kernel
theorem dX4_doubt_52 : decode cX4_doubt 52 = .ok (.ifCond .ge 6, 3) := by decide +kernel
theorem dX4_doubt_55 : decode cX4_doubt 55 = .ok (.goto 56, 3) := by decide +kernel
theorem dX4_doubt_58 : decode cX4_doubt 58 = .ok (.aload_n 0, 1) := by decide +kernel
theorem dX4_doubt_59 : decode cX4_doubt 59 = .ok (.getfield 47, 3) := by decide +kernel
theorem dX4_doubt_62 : decode cX4_doubt 62 = .ok (.iload 4, 2) := by decide +kernel
theorem dX4_doubt_64 : decode cX4_doubt 64 = .ok (.iconst (-1), 1) := by decide +kernel
theorem dX4_doubt_65 : decode cX4_doubt 65 = .ok (.iastore, 1) := by decide +kernel
theorem dX4_doubt_66 : decode cX4_doubt 66 = .ok (.aload_n 0, 1) := by decide +kernel
theorem dX4_doubt_67 : decode cX4_doubt 67 = .ok (.invokevirtual 124, 3) := by decide +kernel
theorem dX4_doubt_70 : decode cX4_doubt 70 = .ok (.iload_n 2, 1) := by decide +kernel
theorem dX4_doubt_71 : decode cX4_doubt 71 = .ok (.isub, 1) := by decide +kernel
theorem dX4_doubt_72 : decode cX4_doubt 72 = .ok (.istore 6, 2) := by decide +kernel
theorem dX4_doubt_74 : decode cX4_doubt 74 = .ok (.aload_n 0, 1) := by decide +kernel
theorem dX4_doubt_75 : decode cX4_doubt 75 = .ok (.getfield 47, 3) := by decide +kernel
theorem dX4_doubt_78 : decode cX4_doubt 78 = .ok (.iload 4, 2) := by decide +kernel
theorem dX4_doubt_80 : decode cX4_doubt 80 = .ok (.iload 5, 2) := by decide +kernel
theorem dX4_doubt_82 : decode cX4_doubt 82 = .ok (.iastore, 1) := by decide +kernel
theorem dX4_doubt_83 : decode cX4_doubt 83 = .ok (.iload 6, 2) := by decide +kernel
theorem dX4_doubt_85 : decode cX4_doubt 85 = .ok (.ifCond .ge 9, 3) := by decide +kernel
theorem dX4_doubt_88 : decode cX4_doubt 88 = .ok (.iload 6, 2) := by decide +kernel
theorem dX4_doubt_90 : decode cX4_doubt 90 = .ok (.ineg, 1) := by decide +kernel
theorem dX4_doubt_91 : decode cX4_doubt 91 = .ok (.goto 5, 3) := by decide +kernel
theorem dX4_doubt_94 : decode cX4_doubt 94 = .ok (.iload 6, 2) := by decide +kernel
theorem dX4_doubt_96 : decode cX4_doubt 96 = .ok (.istore 6, 2) := by decide +kernel
theorem dX4_doubt_98 : decode cX4_doubt 98 = .ok (.iload 6, 2) := by decide +kernel
theorem dX4_doubt_100 : decode cX4_doubt 100 = .ok (.iload_n 3, 1) := by decide +kernel
theorem dX4_doubt_101 : decode cX4_doubt 101 = .ok (.if_icmp .le 8, 3) := by decide +kernel
theorem dX4_doubt_104 : decode cX4_doubt 104 = .ok (.iload 6, 2) := by decide +kernel
theorem dX4_doubt_106 : decode cX4_doubt 106 = .ok (.goto 4, 3) := by decide +kernel
theorem dX4_doubt_109 : decode cX4_doubt 109 = .ok (.iload_n 3, 1) := by decide +kernel
theorem dX4_doubt_110 : decode cX4_doubt 110 = .ok (.istore_n 3, 1) := by decide +kernel
theorem dX4_doubt_111 : decode cX4_doubt 111 = .ok (.iinc 4 1, 3) := by decide +kernel
theorem dX4_doubt_114 : decode cX4_doubt 114 = .ok (.goto (-82), 3) := by decide +kernel
theorem dX4_doubt_117 : decode cX4_doubt 117 = .ok (.iload_n 3, 1) := by decide +kernel
theorem dX4_doubt_118 : decode cX4_doubt 118 = .ok (.iload_n 1, 1) := by decide +kernel
theorem dX4_doubt_119 : decode cX4_doubt 119 = .ok (.invokestatic 121, 3) := by decide +kernel
theorem dX4_doubt_122 : decode cX4_doubt 122 = .ok (.ireturn, 1) := by decide +kernel
theorem dX4_sand_0 : decode cX4_sand 0 = .ok (.iconst 0, 1) := by decide +kernel
theorem dX4_sand_1 : decode cX4_sand 1 = .ok (.istore_n 1, 1) := by decide +kernel
theorem dX4_sand_2 : decode cX4_sand 2 = .ok (.iconst 0, 1) := by decide +kernel
theorem dX4_sand_3 : decode cX4_sand 3 = .ok (.istore_n 2, 1) := by decide +kernel
theorem dX4_sand_4 : decode cX4_sand 4 = .ok (.iload_n 2, 1) := by decide +kernel
theorem dX4_sand_5 : decode cX4_sand 5 = .ok (.aload_n 0, 1) := by decide +kernel
theorem dX4_sand_6 : decode cX4_sand 6 = .ok (.getfield 7, 3) := by decide +kernel
theorem dX4_sand_9 : decode cX4_sand 9 = .ok (.if_icmp .ge 18, 3) := by decide +kernel
theorem dX4_sand_12 : decode cX4_sand 12 = .ok (.iload_n 1, 1) := by decide +kernel
theorem dX4_sand_13 : decode cX4_sand 13 = .ok (.aload_n 0, 1) := by decide +kernel
theorem dX4_sand_14 : decode cX4_sand 14 = .ok (.getfield 16, 3) := by decide +kernel
theorem dX4_sand_17 : decode cX4_sand 17 = .ok (.iload_n 2, 1) := by decide +kernel
theorem dX4_sand_18 : decode cX4_sand 18 = .ok (.iaload, 1) := by decide +kernel
theorem dX4_sand_19 : decode cX4_sand 19 = .ok (.iadd, 1) := by decide +kernel
theorem dX4_sand_20 : decode cX4_sand 20 = .ok (.istore_n 1, 1) := by decide +kernel
theorem dX4_sand_21 : decode cX4_sand 21 = .ok (.iinc 2 1, 3) := by decide +kernel
theorem dX4_sand_24 : decode cX4_sand 24 = .ok (.goto (-20), 3) := by decide +kernel
theorem dX4_sand_27 : decode cX4_sand 27 = .ok (.iload_n 1, 1) := by decide +kernel
theorem dX4_sand_28 : decode cX4_sand 28 = .ok (.ireturn, 1) := by decide +kernel
set_option maxRecDepth 20000 in
theorem ggX4_many_X4_sand : GoodIn wsX4_many wsX4_sand := goodIn_r _ [10, 1, 11, 21, 22, 23, 24, 25, 26, 27, 28, 29, 30, 31, 32, 33, 34, 35, 36] (by decide +kernel) (by decide +kernel)
set_option maxRecDepth 20000 in
theorem gX4_many_X4_sand : GoodIn wsX4_many (wsV RX4 127 RX4 yX4_sand wsX4_sand) := goodIn_app (goodIn_of _ (by decide +kernel)) ggX4_many_X4_sand
set_option maxRecDepth 20000 in
theorem ggX4_many_X4_crestOf : GoodIn wsX4_many wsX4_crestOf := goodIn_r _ [15, 1, 11, 21, 22, 23, 24, 25, 26, 27, 28, 29, 30, 31, 32, 33, 34, 35, 36] (by decide +kernel) (by decide +kernel)
set_option maxRecDepth 20000 in
theorem gX4_many_X4_crestOf : GoodIn wsX4_many (wsV RX4 102 RX4 yX4_crestOf wsX4_crestOf) := goodIn_app (goodIn_of _ (by decide +kernel)) ggX4_many_X4_crestOf
set_option maxRecDepth 20000 in
theorem ggX4_many_X4_readings : GoodIn wsX4_many wsX4_readings := goodIn_r _ [19, 1, 20, 21, 22, 23, 24, 25, 26, 27, 28, 29, 30, 31, 32, 33, 34, 35, 36] (by decide +kernel) (by decide +kernel)
set_option maxRecDepth 20000 in
theorem gX4_many_X4_readings : GoodIn wsX4_many (wsV RX4 118 RX4 yX4_readings wsX4_readings) := goodIn_app (goodIn_of _ (by decide +kernel)) ggX4_many_X4_readings
theorem dX4_many_0 : decode cX4_many 0 = .ok (.iload_n 1, 1) := by decide +kernel
theorem dX4_many_1 : decode cX4_many 1 = .ok (.tableswitch 107 0 9 #[55, 60, 67, 74, 81, 86, 92, 97, 97, 97], 55) := by decide +kernel
theorem dX4_many_56 : decode cX4_many 56 = .ok (.aload_n 0, 1) := by decide +kernel
theorem dX4_many_57 : decode cX4_many 57 = .ok (.getfield 7, 3) := by decide +kernel
theorem dX4_many_60 : decode cX4_many 60 = .ok (.ireturn, 1) := by decide +kernel
theorem dX4_many_61 : decode cX4_many 61 = .ok (.aload_n 0, 1) := by decide +kernel
theorem dX4_many_62 : decode cX4_many 62 = .ok (.getfield 29, 3) := by decide +kernel
theorem dX4_many_65 : decode cX4_many 65 = .ok (.iconst 0, 1) := by decide +kernel
theorem dX4_many_66 : decode cX4_many 66 = .ok (.iaload, 1) := by decide +kernel
theorem dX4_many_67 : decode cX4_many 67 = .ok (.ireturn, 1) := by decide +kernel
theorem dX4_many_68 : decode cX4_many 68 = .ok (.aload_n 0, 1) := by decide +kernel
theorem dX4_many_69 : decode cX4_many 69 = .ok (.getfield 32, 3) := by decide +kernel
theorem dX4_many_72 : decode cX4_many 72 = .ok (.iconst 0, 1) := by decide +kernel
theorem dX4_many_73 : decode cX4_many 73 = .ok (.iaload, 1) := by decide +kernel
theorem dX4_many_74 : decode cX4_many 74 = .ok (.ireturn, 1) := by decide +kernel
theorem dX4_many_75 : decode cX4_many 75 = .ok (.aload_n 0, 1) := by decide +kernel
theorem dX4_many_76 : decode cX4_many 76 = .ok (.getfield 35, 3) := by decide +kernel
theorem dX4_many_79 : decode cX4_many 79 = .ok (.iconst 0, 1) := by decide +kernel
theorem dX4_many_80 : decode cX4_many 80 = .ok (.iaload, 1) := by decide +kernel
theorem dX4_many_81 : decode cX4_many 81 = .ok (.ireturn, 1) := by decide +kernel
theorem dX4_many_82 : decode cX4_many 82 = .ok (.aload_n 0, 1) := by decide +kernel
theorem dX4_many_83 : decode cX4_many 83 = .ok (.invokevirtual 127, 3) := by decide +kernel
theorem dX4_many_86 : decode cX4_many 86 = .ok (.ireturn, 1) := by decide +kernel
theorem dX4_many_87 : decode cX4_many 87 = .ok (.aload_n 0, 1) := by decide +kernel
theorem dX4_many_88 : decode cX4_many 88 = .ok (.iconst 0, 1) := by decide +kernel
theorem dX4_many_89 : decode cX4_many 89 = .ok (.invokevirtual 102, 3) := by decide +kernel
theorem dX4_many_92 : decode cX4_many 92 = .ok (.ireturn, 1) := by decide +kernel
theorem dX4_many_93 : decode cX4_many 93 = .ok (.aload_n 0, 1) := by decide +kernel
theorem dX4_many_94 : decode cX4_many 94 = .ok (.invokevirtual 118, 3) := by decide +kernel
theorem dX4_many_97 : decode cX4_many 97 = .ok (.ireturn, 1) := by decide +kernel
theorem dX4_many_98 : decode cX4_many 98 = .ok (.aload_n 0, 1) := by decide +kernel
theorem dX4_many_99 : decode cX4_many 99 = .ok (.getfield 38, 3) := by decide +kernel
theorem dX4_many_102 : decode cX4_many 102 = .ok (.iload_n 1, 1) := by decide +kernel
theorem dX4_many_103 : decode cX4_many 103 = .ok (.bipush 7, 2) := by decide +kernel
theorem dX4_many_105 : decode cX4_many 105 = .ok (.isub, 1) := by decide +kernel
theorem dX4_many_106 : decode cX4_many 106 = .ok (.iaload, 1) := by decide +kernel
theorem dX4_many_107 : decode cX4_many 107 = .ok (.ireturn, 1) := by decide +kernel
theorem dX4_many_108 : decode cX4_many 108 = .ok (.iconst (-1), 1) := by decide +kernel
theorem dX4_many_109 : decode cX4_many 109 = .ok (.ireturn, 1) := by decide +kernel
set_option maxRecDepth 20000 in
theorem ggX4_keep_X4_copy : GoodIn wsX4_keep wsX4_copy := goodIn_r _ [7, 8, 9, 10, 11, 12, 13, 14, 15, 16, 17, 18, 19, 20, 21, 22, 23, 24, 25, 26, 27, 28, 29, 30] (by decide +kernel) (by decide +kernel)
set_option maxRecDepth 20000 in
theorem gX4_keep_X4_copy : GoodIn wsX4_keep (wsV RX4 85 RX4 yX4_copy wsX4_copy) := goodIn_app (goodIn_of _ (by decide +kernel)) ggX4_keep_X4_copy
theorem dX4_keep_0 : decode cX4_keep 0 = .ok (.aload_n 0, 1) := by decide +kernel
theorem dX4_keep_1 : decode cX4_keep 1 = .ok (.iconst 0, 1) := by decide +kernel
theorem dX4_keep_2 : decode cX4_keep 2 = .ok (.iconst 1, 1) := by decide +kernel
theorem dX4_keep_3 : decode cX4_keep 3 = .ok (.invokevirtual 85, 3) := by decide +kernel
theorem dX4_keep_6 : decode cX4_keep 6 = .ok (.aload_n 0, 1) := by decide +kernel
theorem dX4_keep_7 : decode cX4_keep 7 = .ok (.aload_n 0, 1) := by decide +kernel
theorem dX4_keep_8 : decode cX4_keep 8 = .ok (.getfield 7, 3) := by decide +kernel
theorem dX4_keep_11 : decode cX4_keep 11 = .ok (.putfield 130, 3) := by decide +kernel
theorem dX4_keep_14 : decode cX4_keep 14 = .ok (.iconst 1, 1) := by decide +kernel
theorem dX4_keep_15 : decode cX4_keep 15 = .ok (.ireturn, 1) := by decide +kernel
set_option maxRecDepth 20000 in
theorem ggX4_back_X4_copy : GoodIn wsX4_back wsX4_copy := goodIn_r _ [7, 8, 9, 10, 11, 12, 13, 14, 15, 16, 17, 18, 19, 20, 21, 22, 23, 24, 25, 26, 27, 28, 29, 30] (by decide +kernel) (by decide +kernel)
set_option maxRecDepth 20000 in
theorem gX4_back_X4_copy : GoodIn wsX4_back (wsV RX4 85 RX4 yX4_copy wsX4_copy) := goodIn_app (goodIn_of _ (by decide +kernel)) ggX4_back_X4_copy
theorem dX4_back_0 : decode cX4_back 0 = .ok (.aload_n 0, 1) := by decide +kernel
theorem dX4_back_1 : decode cX4_back 1 = .ok (.getfield 130, 3) := by decide +kernel
theorem dX4_back_4 : decode cX4_back 4 = .ok (.aload_n 0, 1) := by decide +kernel
theorem dX4_back_5 : decode cX4_back 5 = .ok (.getfield 7, 3) := by decide +kernel
theorem dX4_back_8 : decode cX4_back 8 = .ok (.if_icmp .eq 6, 3) := by decide +kernel
theorem dX4_back_11 : decode cX4_back 11 = .ok (.bipush (-3), 2) := by decide +kernel
theorem dX4_back_13 : decode cX4_back 13 = .ok (.ireturn, 1) := by decide +kernel
theorem dX4_back_14 : decode cX4_back 14 = .ok (.aload_n 0, 1) := by decide +kernel
theorem dX4_back_15 : decode cX4_back 15 = .ok (.iconst 1, 1) := by decide +kernel
theorem dX4_back_16 : decode cX4_back 16 = .ok (.iconst 0, 1) := by decide +kernel
theorem dX4_back_17 : decode cX4_back 17 = .ok (.invokevirtual 85, 3) := by decide +kernel
theorem dX4_back_20 : decode cX4_back 20 = .ok (.iconst 1, 1) := by decide +kernel
theorem dX4_back_21 : decode cX4_back 21 = .ok (.ireturn, 1) := by decide +kernel
end
section
/-! numbers: Java's min, max, abs; 0 and 1 for truth; comparisons of small naturals -/
def jmin (x y : Int32) : Int32 := if y < x then y else x
def jmax (x y : Int32) : Int32 := if x < y then y else x
def jabs (x : Int32) : Int32 := if 0 ≤ x then x else 0 - x
def bi (P : Prop) [Decidable P] : Int32 := if P then 1 else 0
theorem bi_1 {P : Prop} [Decidable P] (h : ¬ bi P = 0) : P := by
  by_cases hp : P
  · exact hp
  · exact absurd (by unfold bi; rw [if_neg hp]) h
theorem bi_0 {P : Prop} [Decidable P] (h : bi P = 0) : ¬ P := by
  intro hp
  unfold bi at h
  rw [if_pos hp] at h
  exact absurd h (by decide)
theorem bi_t {P : Prop} [Decidable P] (h : P) : (1 : Int32) = bi P := by unfold bi; rw [if_pos h]
theorem bi_f {P : Prop} [Decidable P] (h : ¬ P) : (0 : Int32) = bi P := by unfold bi; rw [if_neg h]
theorem bi_nar (P : Prop) [Decidable P] : narrow .boolean (.int (bi P)) = .int (bi P) := by
  by_cases hp : P
  · rw [← bi_t hp]; rfl
  · rw [← bi_f hp]; rfl
theorem bi_c {P P' : Prop} [Decidable P] [Decidable P'] (h : P ↔ P') : bi P = bi P' := by
  by_cases hp : P
  · rw [← bi_t hp, ← bi_t (h.mp hp)]
  · rw [← bi_f hp, ← bi_f (fun q => hp (h.mpr q))]
theorem ra_inc1 (i : Nat) : nI i + Int32.ofInt 1 = nI (i + 1) := (nI_succ i).symm
theorem ra_inc5 (i : Nat) : nI i + Int32.ofInt 5 = nI (i + 5) := nI_add i 5
theorem ra_dec (i : Nat) : nI i + Int32.ofInt (-1) = nI i - 1 := by rw [show Int32.ofInt (-1) = -1 from rfl, Int32.sub_eq_add_neg]
theorem nq_eq (a b : Nat) (ha : a < 2147483648) (hb : b < 2147483648) : nI a = nI b ↔ a = b := nI_eq ha hb
theorem nq_lt (a b : Nat) (ha : a < 2147483648) (hb : b < 2147483648) : nI a < nI b ↔ a < b := nI_ltI ha hb
theorem nq_le (a b : Nat) (ha : a < 2147483648) (hb : b < 2147483648) : nI a ≤ nI b ↔ a ≤ b := nI_leI ha hb
theorem nq_eq_n (a b : Nat) (ha : a < 2147483648) (hb : b < 2147483648) : ¬ nI a = nI b ↔ ¬ a = b := not_congr (nI_eq ha hb)
theorem nq_lt_n (a b : Nat) (ha : a < 2147483648) (hb : b < 2147483648) : ¬ nI a < nI b ↔ b ≤ a := by rw [nI_ltI ha hb]; omega
theorem nq_le_n (a b : Nat) (ha : a < 2147483648) (hb : b < 2147483648) : ¬ nI a ≤ nI b ↔ b < a := by rw [nI_leI ha hb]; omega
/-! rows of our own over the kit's: arrays by a natural index, calls with the frame joined, entries and returns -/
abbrev FN : Type := Nat → Int32
abbrev kT (cyI cyA : ClassId) : List (ClassId × FieldType) := [(cyI, .int), (cyA, .array .int)]
/-- the one link to a nest mate's private method -/
def nwd : Cond := .methodLinkNest RX0 60 yX3_isWithin "DuneBench"
def rm (k : Nat) : Room := { frames := k, cells := 0, slots := 0, locals := 30 * k }
/-- an array of ints, an array of arrays -/
abbrev ai (a : Nat) (cy : ClassId) (n : Nat) (f : FN) : Nat × va_E := (a, .inl (cy, n, .inl f))
abbrev aa (a : Nat) (cy : ClassId) (n : Nat) (f : Nat → Option Nat) : Nat × va_E := (a, .inl (cy, n, .inr (.inr (.inr (.inr f)))))
abbrev ob (a : Nat) (k : Nat) (fs : List Value) : Nat × va_E := (a, .inr (k, fs))
abbrev kB (dC : Nat → ClassId) (dI : Nat → Nat → Nat) (cyI cyA : ClassId) (A : Nat → Prop) (ws : va_W) (t : State) : Prop := va_P (dC, dI) vwCl ws t.heap ∧ va_K (dC, dI) vwCl (kT cyI cyA) t ∧ va_D A ws
/-- the start of a method that writes -/
abbrev kW (dC : Nat → ClassId) (dI : Nat → Nat → Nat) (cyI cyA : ClassId) (av : List Value) (sz : Nat) (ws : va_W) : Array Value → State → Prop := va_Pc av (fun U => U.heap.size = sz ∧ va_P (dC, dI) vwCl ws U.heap ∧ (va_K (dC, dI) vwCl (kT cyI cyA) U ∧ va_Nw nwd U) ∧ va_D (fun _ => True) ws)
/-- the start of a static method without a world -/
abbrev kS (av : List Value) : Array Value → State → Prop := va_Pc av (fun U => va_Nw nwd U)
/-- the start of a method that only reads -/
abbrev kR (dC : Nat → ClassId) (dI : Nat → Nat → Nat) (cyI cyA : ClassId) (av : List Value) (ws : va_W) : Array Value → State → Prop := va_Pc av (fun U => va_P (dC, dI) vwCl ws U.heap ∧ (va_K (dC, dI) vwCl (kT cyI cyA) U ∧ va_Nw nwd U))
abbrev qI {σ : Type} (dC : Nat → ClassId) (dI : Nat → Nat → Nat) (cyI cyA : ClassId) (post : Int32 → σ → Prop) (A : Nat → Prop) (w1 : σ → va_W) : Array Value → State → Outcome → State → Prop := va_Qi post (fun u t => kB dC dI cyI cyA A (w1 u) t) A
abbrev qV {σ : Type} (dC : Nat → ClassId) (dI : Nat → Nat → Nat) (cyI cyA : ClassId) (post : σ → Prop) (A : Nat → Prop) (w1 : σ → va_W) : Array Value → State → Outcome → State → Prop := va_Qv post (fun u t => kB dC dI cyI cyA A (w1 u) t) A
def QcRef (r : Nat) : Array Value → State → Outcome → State → Prop := fun _ st o t => o = .returned (some (.ref r)) ∧ t.heap = st.heap
section RA
variable {p : Program} {l : Launch} {e : Env} {R : Room} {s : State} {m : MethodId} {args : Array Value} {below : List Frame} {meth : Method} {c : Code} {H : Heap} {locs : List Loc} {cells slots : Nat} {Q : State → Prop}
variable {cc : ByteArray} {pc : Nat} {ls : Array Slot} {rest : List Value} {dC : Nat → ClassId} {dI : Nat → Nat → Nat} {cyI cyA : ClassId} {A : Nat → Prop} {a : Nat} {ws : va_W} {H0 : Heap}
theorem ra_top {x : Int32} (y : Int32) (h : x = y) (k : W p l e R s m args below meth c H locs cells slots Q (F0 m pc ls (.int y :: rest))) : W p l e R s m args below meth c H locs cells slots Q (F0 m pc ls (.int x :: rest)) := by rw [h]; exact k
theorem ra_iald (hx : p.tables.exec = Jvm.exec) (hb : c.code = cc) (hK : va_K (dC, dI) vwCl (kT cyI cyA) s) (hP : va_P (dC, dI) vwCl ws H) (q0 : Nat) {n : Nat} {f : FN} (ha : ws[q0]? = some (ai a cyI n f)) {i : Int32} (j : Nat) (hi : i = nI j) (hj : j < n) (hn : n < 2147483648) (hdg : decode cc pc = .ok (.iaload, 1))
    (kk : W p l e R s m args below meth c H locs cells slots Q (F0 m (pc + 1) ls (.int (f j) :: rest))) : W p l e R s m args below meth c H locs cells slots Q (F0 m pc ls (.int i :: .ref a :: rest)) := by
  subst hi
  refine va_iald hx hb hK hP q0 0 ha rfl (vp_in_nI hj hn) hdg ?_
  rw [nI_clamp (by omega)]
  exact kk
theorem ra_iast (hx : p.tables.exec = Jvm.exec) (hb : c.code = cc) (hK : va_K (dC, dI) vwCl (kT cyI cyA) s) (hP : va_P (dC, dI) vwCl ws H) (hD : va_D A ws) (hS : va_S A H0 H locs) (q0 : Nat) {n : Nat} {f : FN} (ha : ws[q0]? = some (ai a cyI n f)) {i x : Int32} (j : Nat) (hi : i = nI j) (hj : j < n) (hn : n < 2147483648) (hdg : decode cc pc = .ok (.iastore, 1))
    (kk : ∀ (H1 : Heap) (locs1 : List Loc), va_P (dC, dI) vwCl (ws.set q0 (ai a cyI n (upd f j x))) H1 → va_D A (ws.set q0 (ai a cyI n (upd f j x))) → va_S A H0 H1 locs1 → W p l e R s m args below meth c H1 locs1 cells slots Q (F0 m (pc + 1) ls rest)) : W p l e R s m args below meth c H locs cells slots Q (F0 m pc ls (.int x :: .int i :: .ref a :: rest)) := by
  subst hi
  refine va_iast hx hb hK hP hD hS q0 0 ha rfl (vp_in_nI hj hn) hdg ?_
  rw [nI_clamp (by omega)]
  exact kk
theorem ra_aald (hx : p.tables.exec = Jvm.exec) (hb : c.code = cc) (hK : va_K (dC, dI) vwCl (kT cyI cyA) s) (hP : va_P (dC, dI) vwCl ws H) (q0 : Nat) {n : Nat} {f : Nat → Option Nat} (ha : ws[q0]? = some (aa a cyA n f)) {i : Int32} (j : Nat) (hi : i = nI j) (hj : j < n) (hn : n < 2147483648) {b : Nat} (hb2 : f j = some b) (hdg : decode cc pc = .ok (.aaload, 1))
    (kk : W p l e R s m args below meth c H locs cells slots Q (F0 m (pc + 1) ls (.ref b :: rest))) : W p l e R s m args below meth c H locs cells slots Q (F0 m pc ls (.int i :: .ref a :: rest)) := by
  subst hi
  have hin := vp_in_nI hj hn
  have hcl : (nI j).toNatClampNeg = j := nI_clamp (by omega)
  have hlt : (nI j).toNatClampNeg < n := by rw [hcl]; exact hj
  refine W.aald (v := .ref b) (ty := .array .int) hx hb (hP q0 _ ha) ((hK.2 1 _ rfl).1 n (fun j => va_rf (f j))) rfl (fun q => by cases q) (by show ¬ (nI j < 0 ∨ (arrV _ _ _).slots.size ≤ _); rw [arrV_size]; exact hin) ?_ rfl rfl hdg kk
  show (arrV _ _ _).slots[_]? = _
  rw [arrV_read _ _ hlt, hcl, hb2]
  rfl
/-- an array's content beyond its length says nothing -/
theorem ra_cong (hP : va_P (dC, dI) vwCl ws H) (hD : va_D A ws) (q0 : Nat) {n : Nat} {f : FN} (g : FN) (ha : ws[q0]? = some (ai a cyI n f)) (h : ∀ j, j < n → f j = g j) : va_P (dC, dI) vwCl (ws.set q0 (ai a cyI n g)) H ∧ va_D A (ws.set q0 (ai a cyI n g)) := by
  refine ⟨hP.set hD ha ?_ (fun _ _ => rfl), hD.set ha⟩
  have h1 : H[a]? = some (vp_cell cyI (n, .inl f)) := hP q0 _ ha
  show H[a]? = some (vp_cell cyI (n, .inl g))
  rw [h1, vp_cell_i, vp_cell_i]
  refine congrArg some ?_
  unfold arrV
  have e9 : (Array.ofFn (n := n) fun j => Value.int (f j.val)) = Array.ofFn (n := n) fun j => Value.int (g j.val) := by
    refine congrArg Array.ofFn (funext fun j => ?_)
    rw [h j.val j.isLt]
  rw [e9]
theorem ra_iretW {σ : Type} {post : Int32 → σ → Prop} {w1 : σ → va_W} {av : Array Value} {r : Int32} {rt : FieldType} (u : σ) (hx : p.tables.exec = Jvm.exec) (hb : c.code = cc) (hr : meth.sig.returnType = some rt) (hlocks : meth.locks = false) (hn : narrow rt (.int r) = .int r) (hK : va_K (dC, dI) vwCl (kT cyI cyA) s) (hP : va_P (dC, dI) vwCl (w1 u) H) (hD : va_D A (w1 u)) (hS : va_S A s.heap H locs) (hp : post r u) (hdg : decode cc pc = .ok (.ireturn, 1)) :
    W p l e R s m av below meth c H locs cells slots (MQ below (qI dC dI cyI cyA post A w1) av s cells slots A) (F0 m pc ls [.int r]) :=
  W.zret (v := r) hx hb hr hn (fun t ht hW => ⟨⟨r, u, rfl, hp, by show va_P _ _ _ _; rw [ht]; exact hP, va_K.moved hW.alike hK, hD⟩, hS.F ht⟩) hS.2.2 hdg hlocks
theorem ra_vretW {σ : Type} {post : σ → Prop} {w1 : σ → va_W} {av : Array Value} (u : σ) (hx : p.tables.exec = Jvm.exec) (hb : c.code = cc) (hr : meth.sig.returnType = none) (hlocks : meth.locks = false) (hK : va_K (dC, dI) vwCl (kT cyI cyA) s) (hP : va_P (dC, dI) vwCl (w1 u) H) (hD : va_D A (w1 u)) (hS : va_S A s.heap H locs) (hp : post u) (hdg : decode cc pc = .ok (.return_, 1)) :
    W p l e R s m av below meth c H locs cells slots (MQ below (qV dC dI cyI cyA post A w1) av s cells slots A) (F0 m pc ls []) :=
  W.vret hx hb hr (fun t ht hW => ⟨⟨u, rfl, hp, by show va_P _ _ _ _; rw [ht]; exact hP, va_K.moved hW.alike hK, hD⟩, hS.F ht⟩) hS.2.2 hdg hlocks
theorem ra_iretR {av : Array Value} {v r : Int32} {rt : FieldType} (hx : p.tables.exec = Jvm.exec) (hb : c.code = cc) (hr : meth.sig.returnType = some rt) (hlocks : meth.locks = false) (hn : narrow rt (.int v) = .int v) (hv : v = r) (hdg : decode cc pc = .ok (.ireturn, 1)) :
    W p l e R s m av below meth c s.heap [] cells slots (MQ below (QcRead r) av s cells slots (fun _ => False)) (F0 m pc ls [.int v]) := by
  subst hv
  exact W.zret (v := v) hx hb hr hn (fun t ht hW => ⟨rfl, ht⟩) (fun q h => absurd h List.not_mem_nil) hdg hlocks
theorem ra_aretR {av : Array Value} {r : Nat} {rt : FieldType} (hx : p.tables.exec = Jvm.exec) (hb : c.code = cc) (hr : meth.sig.returnType = some (.array rt)) (hlocks : meth.locks = false) (hdg : decode cc pc = .ok (.areturn, 1)) :
    W p l e R s m av below meth c s.heap [] cells slots (MQ below (QcRef r) av s cells slots (fun _ => False)) (F0 m pc ls [.ref r]) :=
  W.aret (v := .ref r) hx hb hr (Or.inr ⟨rt, rfl⟩) (Or.inr ⟨r, rfl⟩) (fun t ht hW => ⟨rfl, ht⟩) (fun q h => absurd h List.not_mem_nil) hdg hlocks
end RA
section RB
variable {l : Launch} {dC : Nat → ClassId} {dI : Nat → Nat → Nat} {cyI cyA : ClassId}
/-- a method that writes: from its body to its contract -/
theorem ra_metW {y : MethodName} {wds wds' : List Cond} {r0 : Room} {av : List Value} {sz : Nat} {ws : va_W} {Qc : (Nat → Prop) → Array Value → State → Outcome → State → Prop} {mc ms : Nat} {cc : ByteArray} {maxL : Nat} {ret : Option FieldType} (hy : plainName y.cls = true) (hw : wds = Cond.code y cc maxL ret :: wds') (hl0 : (lg_sl av).length ≤ maxL)
    (body : ∀ (p : Program) (e : Env) (s : State) (m : MethodId) (below : List Frame) (meth : Method) (c : Code) (A : Nat → Prop) (args : Array Value) (Q : State → Prop), Q = MQ below (Qc A) args s mc ms A → p.tables.exec = Jvm.exec → c.code = cc → meth.sig.returnType = ret → meth.locks = false → c.maxLocals = maxL → (∀ w ∈ wds, w.before args s = true) → s.vm.findClass y.cls = some m.cls → meth.name = y.name →
      va_K (dC, dI) vwCl (kT cyI cyA) s → va_Nw nwd s → va_P (dC, dI) vwCl ws s.heap → va_D A ws → (∀ q : Nat, s.heap.size ≤ q → A q) → va_S A s.heap s.heap [] → ∀ ls : Array Slot, lv_has ls maxL (lv_args 0 av) →
      W p l e r0 s m args below meth c s.heap [] 0 0 Q (F0 m 0 ls [])) : Met l y wds r0 (kW dC dI cyI cyA av sz ws) (Qc (va_A ws sz)) mc ms (va_A ws sz) := by
  refine Met.ofW (cc := cc) (maxL := maxL) (ret := ret) hy hw ?_
  intro p e s m args below meth c s₁ B hml hv
  obtain ⟨rfl, hsz, hP, ⟨hK, hN⟩, hD0⟩ := hv
  have hts := atoms_spec (ws := wds) B.pre
  have hown : s.vm.findClass y.cls = some m.cls := findClass_of_methodNamed B.named
  subst hsz
  have hD := hD0.self (sz := s.heap.size)
  have hl := lv_entry av (n := maxL) hl0
  rw [lg_entry_eq]
  exact body p e s m below meth c (va_A ws s.heap.size) _ _ rfl B.exec B.bytes B.returns B.notSynchronized hml hts hown (name_of_methodNamed B.named B.method).1 hK hN hP hD (fun q h => Or.inr h) va_S.rf _ hl
/-- a method that only reads -/
theorem ra_metR {y : MethodName} {wds wds' : List Cond} {r0 : Room} {av : List Value} {ws : va_W} {r : Int32} {cc : ByteArray} {maxL : Nat} {ret : Option FieldType} (hy : plainName y.cls = true) (hw : wds = Cond.code y cc maxL ret :: wds') (hl0 : (lg_sl av).length ≤ maxL)
    (body : ∀ (p : Program) (e : Env) (s : State) (m : MethodId) (below : List Frame) (meth : Method) (c : Code) (args : Array Value) (Q : State → Prop), Q = MQ below (QcRead r) args s 0 0 (fun _ => False) → p.tables.exec = Jvm.exec → c.code = cc → meth.sig.returnType = ret → meth.locks = false → c.maxLocals = maxL → (∀ w ∈ wds, w.before args s = true) → s.vm.findClass y.cls = some m.cls →
      va_K (dC, dI) vwCl (kT cyI cyA) s → va_Nw nwd s → va_P (dC, dI) vwCl ws s.heap → ∀ ls : Array Slot, lv_has ls maxL (lv_args 0 av) →
      W p l e r0 s m args below meth c s.heap [] 0 0 Q (F0 m 0 ls [])) : Met l y wds r0 (kR dC dI cyI cyA av ws) (QcRead r) 0 0 (fun _ => False) := by
  refine Met.ofW (cc := cc) (maxL := maxL) (ret := ret) hy hw ?_
  intro p e s m args below meth c s₁ B hml hv
  obtain ⟨rfl, hP, ⟨hK, hN⟩⟩ := hv
  have hts := atoms_spec (ws := wds) B.pre
  have hown : s.vm.findClass y.cls = some m.cls := findClass_of_methodNamed B.named
  have hl := lv_entry av (n := maxL) hl0
  rw [lg_entry_eq]
  exact body p e s m below meth c _ _ rfl B.exec B.bytes B.returns B.notSynchronized hml hts hown hK hN hP _ hl
/-- a method that only reads and answers a cell -/
theorem ra_metRr {y : MethodName} {wds wds' : List Cond} {r0 : Room} {av : List Value} {ws : va_W} {r : Nat} {cc : ByteArray} {maxL : Nat} {ret : Option FieldType} (hy : plainName y.cls = true) (hw : wds = Cond.code y cc maxL ret :: wds') (hl0 : (lg_sl av).length ≤ maxL)
    (body : ∀ (p : Program) (e : Env) (s : State) (m : MethodId) (below : List Frame) (meth : Method) (c : Code) (args : Array Value) (Q : State → Prop), Q = MQ below (QcRef r) args s 0 0 (fun _ => False) → p.tables.exec = Jvm.exec → c.code = cc → meth.sig.returnType = ret → meth.locks = false → c.maxLocals = maxL → (∀ w ∈ wds, w.before args s = true) → s.vm.findClass y.cls = some m.cls →
      va_K (dC, dI) vwCl (kT cyI cyA) s → va_Nw nwd s → va_P (dC, dI) vwCl ws s.heap → ∀ ls : Array Slot, lv_has ls maxL (lv_args 0 av) →
      W p l e r0 s m args below meth c s.heap [] 0 0 Q (F0 m 0 ls [])) : Met l y wds r0 (kR dC dI cyI cyA av ws) (QcRef r) 0 0 (fun _ => False) := by
  refine Met.ofW (cc := cc) (maxL := maxL) (ret := ret) hy hw ?_
  intro p e s m args below meth c s₁ B hml hv
  obtain ⟨rfl, hP, ⟨hK, hN⟩⟩ := hv
  have hts := atoms_spec (ws := wds) B.pre
  have hown : s.vm.findClass y.cls = some m.cls := findClass_of_methodNamed B.named
  have hl := lv_entry av (n := maxL) hl0
  rw [lg_entry_eq]
  exact body p e s m below meth c _ _ rfl B.exec B.bytes B.returns B.notSynchronized hml hts hown hK hN hP _ hl
/-- a static method without a world -/
theorem ra_metS {y : MethodName} {wds wds' : List Cond} {r0 : Room} {av : List Value} {r : Int32} {cc : ByteArray} {maxL : Nat} {ret : Option FieldType} (hy : plainName y.cls = true) (hw : wds = Cond.code y cc maxL ret :: wds') (hl0 : (lg_sl av).length ≤ maxL)
    (body : ∀ (p : Program) (e : Env) (s : State) (m : MethodId) (below : List Frame) (meth : Method) (c : Code) (args : Array Value) (Q : State → Prop), Q = MQ below (QcRead r) args s 0 0 (fun _ => False) → p.tables.exec = Jvm.exec → c.code = cc → meth.sig.returnType = ret → meth.locks = false → c.maxLocals = maxL → (∀ w ∈ wds, w.before args s = true) → s.vm.findClass y.cls = some m.cls → va_Nw nwd s →
      ∀ ls : Array Slot, lv_has ls maxL (lv_args 0 av) →
      W p l e r0 s m args below meth c s.heap [] 0 0 Q (F0 m 0 ls [])) : Met l y wds r0 (kS av) (QcRead r) 0 0 (fun _ => False) := by
  refine Met.ofW (cc := cc) (maxL := maxL) (ret := ret) hy hw ?_
  intro p e s m args below meth c s₁ B hml hv
  obtain ⟨rfl, hN⟩ := hv
  have hts := atoms_spec (ws := wds) B.pre
  have hown : s.vm.findClass y.cls = some m.cls := findClass_of_methodNamed B.named
  have hl := lv_entry av (n := maxL) hl0
  rw [lg_entry_eq]
  exact body p e s m below meth c _ _ rfl B.exec B.bytes B.returns B.notSynchronized hml hts hown hN _ hl
end RB
section RC
variable {p : Program} {l : Launch} {e : Env} {R : Room} {s : State} {m : MethodId} {args : Array Value} {below : List Frame} {meth : Method} {c : Code} {H : Heap} {locs : List Loc} {cells slots : Nat} {Q : State → Prop}
variable {cc : ByteArray} {pc : Nat} {ls : Array Slot} {rest st0 : List Value} {dC : Nat → ClassId} {dI : Nat → Nat → Nat} {cyI cyA : ClassId} {A : Nat → Prop} {b : Nat} {ws wc wr : va_W} {H0 : Heap}
variable {y : MethodName} {bytes : ByteArray} {maxL nL mc ms n index : Nat} {ret : Option FieldType} {wds : List Cond} {r0 : Room} {Ts : List Cond} {own C : String} {As : List Value}
theorem ra_Rrun {r : Int32} {av : Array Value} (hr : va_Run p l e R s m args below meth c H locs cells slots 0 0 (F0 m pc ls st0) rest (QcRead r av) (fun _ => False)) (kk : W p l e R s m args below meth c H locs cells slots Q (F0 m (pc + 3) ls (.int r :: rest))) : W p l e R s m args below meth c H locs cells slots Q (F0 m pc ls st0) := by
  intro T hT X
  obtain ⟨v, st₀, t, T', L, h0, X', hL, e1, e2, ⟨hv, hh⟩, st⟩ := hr T hT X
  cases hv
  obtain ⟨t2, a1, b1⟩ := kk T' (by rw [e1, hh, h0]) (Stand.forget X' (fun q h => (hL q h).elim))
  exact ⟨t2, st t2 a1, b1⟩
/-- a call of a static method without a world -/
theorem ra_cS {r : Int32} (S : CallFix p m c cc nL s args Ts own) (hM : Met l y wds r0 (kS As) (QcRead r) 0 0 (fun _ => False)) (cw : CallB R s args own index y bytes maxL ret wds r0 0 0 n ∧ (Cond.static y).before args s = true) (hN : va_Nw nwd s) (hn : As.length = n) (hsize : ls.size = nL) (hstack : st0 = As.reverse ++ rest) (hW : (rest.map fun v => v.category).sum ≤ 8) (hdg : decode cc pc = .ok (.invokestatic index, 3)) (hf : cells ≤ R.cells ∧ slots ≤ R.slots)
    (kk : W p l e R s m args below meth c H locs cells slots Q (F0 m (pc + 3) ls (.int r :: rest))) : W p l e R s m args below meth c H locs cells slots Q (F0 m pc ls st0) :=
  ra_Rrun (va_runS (As := As) (rest := rest) S hM cw ⟨fun a U g mk q => ⟨q.1, va_Nw.same rfl (u := U) (U := U.calling g mk a) rfl q.2⟩, fun U hU hW => ⟨rfl, va_Nw.warmM hW hN⟩⟩ rfl hn hsize hstack (lv_room hW) hdg hf) kk
theorem ra_cSN {r : Int32} {host : String} (S : CallFix p m c cc nL s args Ts own) (hM : Met l y wds r0 (kS As) (QcRead r) 0 0 (fun _ => False)) (cw : va_CN R s args own index y host bytes maxL ret wds r0 0 0 n ∧ (Cond.static y).before args s = true ∧ True) (hN : va_Nw nwd s) (hn : As.length = n) (hsize : ls.size = nL) (hstack : st0 = As.reverse ++ rest) (hW : (rest.map fun v => v.category).sum ≤ 8) (hdg : decode cc pc = .ok (.invokestatic index, 3)) (hf : cells ≤ R.cells ∧ slots ≤ R.slots)
    (kk : W p l e R s m args below meth c H locs cells slots Q (F0 m (pc + 3) ls (.int r :: rest))) : W p l e R s m args below meth c H locs cells slots Q (F0 m pc ls st0) :=
  ra_Rrun (va_runSN (As := As) (rest := rest) S hM cw ⟨fun a U g mk q => ⟨q.1, va_Nw.same rfl (u := U) (U := U.calling g mk a) rfl q.2⟩, fun U hU hW => ⟨rfl, va_Nw.warmM hW hN⟩⟩ rfl hn hsize hstack (lv_room hW) hdg hf) kk
/-- a call of a method that only reads: the world stays as it is -/
theorem ra_cR {r : Int32} {ci : Nat} {q : vw_C} {fs : List Value} (S : CallFix p m c cc nL s args Ts own) (hM : Met l y wds r0 (kR dC dI cyI cyA (.ref b :: As) wc) (QcRead r) 0 0 (fun _ => False)) (cw : CallW R s args own q.1 index y bytes maxL ret wds r0 0 0 n) (hK : va_K (dC, dI) vwCl (kT cyI cyA) s) (hN : va_Nw nwd s) (hP : va_P (dC, dI) vwCl ws H) (isC : List Nat) (hC : isC.filterMap (fun i => ws[i]?) = wc) (hc : vwCl[ci]? = some q) (he : wc[0]? = some (b, .inr (ci, fs))) (hn : As.length = n) (hsize : ls.size = nL) (hstack : st0 = As.reverse ++ .ref b :: rest) (hW : (rest.map fun v => v.category).sum ≤ 8) (hdg : decode cc pc = .ok (.invokevirtual index, 3)) (hf : cells ≤ R.cells ∧ slots ≤ R.slots)
    (kk : W p l e R s m args below meth c H locs cells slots Q (F0 m (pc + 3) ls (.int r :: rest))) : W p l e R s m args below meth c H locs cells slots Q (F0 m pc ls st0) := by
  have hPc := hP.sub isC hC
  refine ra_Rrun (va_runV (As := As) (rest := rest) (b := b) S hM cw ⟨fun a U g mk q => ?_, va_recv hK hPc hc he, fun U hU hW => ⟨rfl, by rw [hU]; exact hPc, va_K.moved hW.alike hK, va_Nw.warmM hW hN⟩⟩ rfl hn hsize hstack (lv_room hW) hdg hf) kk
  obtain ⟨q0, qP, qK, qN⟩ := q
  exact ⟨q0, qP, va_K.moved (u := U) (U := U.calling g mk a) (Vm.Alike.refl U.vm) qK, va_Nw.same rfl (u := U) (U := U.calling g mk a) rfl qN⟩
theorem ra_Rrunr {r : Nat} {av : Array Value} (hr : va_Run p l e R s m args below meth c H locs cells slots 0 0 (F0 m pc ls st0) rest (QcRef r av) (fun _ => False)) (kk : W p l e R s m args below meth c H locs cells slots Q (F0 m (pc + 3) ls (.ref r :: rest))) : W p l e R s m args below meth c H locs cells slots Q (F0 m pc ls st0) := by
  intro T hT X
  obtain ⟨v, st₀, t, T', L, h0, X', hL, e1, e2, ⟨hv, hh⟩, st⟩ := hr T hT X
  cases hv
  obtain ⟨t2, a1, b1⟩ := kk T' (by rw [e1, hh, h0]) (Stand.forget X' (fun q h => (hL q h).elim))
  exact ⟨t2, st t2 a1, b1⟩
/-- a call of a method that only reads and answers a cell: the world stays as it is -/
theorem ra_cRr {r : Nat} {ci : Nat} {q : vw_C} {fs : List Value} (S : CallFix p m c cc nL s args Ts own) (hM : Met l y wds r0 (kR dC dI cyI cyA (.ref b :: As) wc) (QcRef r) 0 0 (fun _ => False)) (cw : CallW R s args own q.1 index y bytes maxL ret wds r0 0 0 n) (hK : va_K (dC, dI) vwCl (kT cyI cyA) s) (hN : va_Nw nwd s) (hP : va_P (dC, dI) vwCl ws H) (isC : List Nat) (hC : isC.filterMap (fun i => ws[i]?) = wc) (hc : vwCl[ci]? = some q) (he : wc[0]? = some (b, .inr (ci, fs))) (hn : As.length = n) (hsize : ls.size = nL) (hstack : st0 = As.reverse ++ .ref b :: rest) (hW : (rest.map fun v => v.category).sum ≤ 8) (hdg : decode cc pc = .ok (.invokevirtual index, 3)) (hf : cells ≤ R.cells ∧ slots ≤ R.slots)
    (kk : W p l e R s m args below meth c H locs cells slots Q (F0 m (pc + 3) ls (.ref r :: rest))) : W p l e R s m args below meth c H locs cells slots Q (F0 m pc ls st0) := by
  have hPc := hP.sub isC hC
  refine ra_Rrunr (va_runV (As := As) (rest := rest) (b := b) S hM cw ⟨fun a U g mk q => ?_, va_recv hK hPc hc he, fun U hU hW => ⟨rfl, by rw [hU]; exact hPc, va_K.moved hW.alike hK, va_Nw.warmM hW hN⟩⟩ rfl hn hsize hstack (lv_room hW) hdg hf) kk
  obtain ⟨q0, qP, qK, qN⟩ := q
  exact ⟨q0, qP, va_K.moved (u := U) (U := U.calling g mk a) (Vm.Alike.refl U.vm) qK, va_Nw.same rfl (u := U) (U := U.calling g mk a) rfl qN⟩
/-- a call of a method that writes and answers an int -/
theorem ra_cI {σ : Type} {post : Int32 → σ → Prop} {w1 : σ → va_W} {ci : Nat} {q : vw_C} {fs : List Value} (S : CallFix p m c cc nL s args Ts own) (hM : Met l y wds r0 (kW dC dI cyI cyA (.ref b :: As) H.size wc) (qI dC dI cyI cyA post (va_A wc H.size) w1) mc ms (va_A wc H.size)) (cw : CallW R s args own q.1 index y bytes maxL ret wds r0 mc ms n) (hK : va_K (dC, dI) vwCl (kT cyI cyA) s) (hN : va_Nw nwd s) (hP : va_P (dC, dI) vwCl ws H) (hD : va_D A ws) (hA : ∀ q : Nat, H0.size ≤ q → A q) (hS : va_S A H0 H locs) (isC isR : List Nat) (hC : isC.map (fun i => ws[i]?) = wc.map some) (hR : isR.map (fun i => ws[i]?) = wr.map some) (hnC : va_nd isC = true) (hnR : va_nd isR = true) (hdis : ∀ i ∈ isR, i ∉ isC) (hc : vwCl[ci]? = some q) (he : wc[0]? = some (b, .inr (ci, fs))) (hn : As.length = n) (hsize : ls.size = nL) (hstack : st0 = As.reverse ++ .ref b :: rest) (hW : (rest.map fun v => v.category).sum ≤ 8) (hdg : decode cc pc = .ok (.invokevirtual index, 3)) (hf : cells + mc ≤ R.cells ∧ slots + ms ≤ R.slots)
    (kk : ∀ (r : Int32) (u : σ), post r u → ∀ (H1 : Heap) (locs1 : List Loc), va_P (dC, dI) vwCl (wr ++ w1 u) H1 → va_D A (wr ++ w1 u) → va_S A H0 H1 locs1 → W p l e R s m args below meth c H1 locs1 (cells + mc) (slots + ms) Q (F0 m (pc + 3) ls (.int r :: rest))) : W p l e R s m args below meth c H locs cells slots Q (F0 m pc ls st0) := by
  have hDc : va_D A wc := hD.sub isC hnC hC
  have hPc : va_P (dC, dI) vwCl wc H := hP.sub isC (by
    have h9 : isC.filterMap (fun i => ws[i]?) = (isC.map (fun i => ws[i]?)).filterMap id := by rw [List.filterMap_map]; rfl
    rw [h9, hC, List.filterMap_map]
    exact List.filterMap_some)
  have hFc := va_free (wc := wc) hD hS hA isC hC
  refine va_calli (va_runV (As := As) (rest := rest) (b := b) S hM cw ⟨fun a U g mk q => ?_, va_recv hK hPc hc he, fun U hU hW => ⟨rfl, by rw [hU], by rw [hU]; exact hPc, ⟨va_K.moved hW.alike hK, va_Nw.warmM hW hN⟩, hDc.weaken (fun _ _ _ _ => trivial)⟩⟩ rfl hn hsize hstack (lv_room hW) hdg hf) hS (fun q _ h => hFc q h) hFc (fun r u t H1 locs1 ht hvm hw hB hz1 hk1 hS1 => ?_)
  · obtain ⟨q0, q1, qP, ⟨qK, qN⟩, qD⟩ := q
    exact ⟨q0, q1, qP, ⟨va_K.moved (u := U) (U := U.calling g mk a) (Vm.Alike.refl U.vm) qK, va_Nw.same rfl (u := U) (U := U.calling g mk a) rfl qN⟩, qD⟩
  · obtain ⟨hP1, hK1, hD1⟩ := hB
    rw [ht] at hP1
    obtain ⟨hP2, hD2⟩ := va_join (wr := wr) (w1 := w1 u) hP hD isC isR hC hR hnR hdis hk1 hFc hP1 hD1
    exact kk r u hw H1 locs1 hP2 hD2 hS1
/-- the same, of a method that answers nothing -/
theorem ra_cV {σ : Type} {post : σ → Prop} {w1 : σ → va_W} {ci : Nat} {q : vw_C} {fs : List Value} (S : CallFix p m c cc nL s args Ts own) (hM : Met l y wds r0 (kW dC dI cyI cyA (.ref b :: As) H.size wc) (qV dC dI cyI cyA post (va_A wc H.size) w1) mc ms (va_A wc H.size)) (cw : CallW R s args own q.1 index y bytes maxL ret wds r0 mc ms n) (hK : va_K (dC, dI) vwCl (kT cyI cyA) s) (hN : va_Nw nwd s) (hP : va_P (dC, dI) vwCl ws H) (hD : va_D A ws) (hA : ∀ q : Nat, H0.size ≤ q → A q) (hS : va_S A H0 H locs) (isC isR : List Nat) (hC : isC.map (fun i => ws[i]?) = wc.map some) (hR : isR.map (fun i => ws[i]?) = wr.map some) (hnC : va_nd isC = true) (hnR : va_nd isR = true) (hdis : ∀ i ∈ isR, i ∉ isC) (hc : vwCl[ci]? = some q) (he : wc[0]? = some (b, .inr (ci, fs))) (hn : As.length = n) (hsize : ls.size = nL) (hstack : st0 = As.reverse ++ .ref b :: rest) (hW : (rest.map fun v => v.category).sum ≤ 8) (hdg : decode cc pc = .ok (.invokevirtual index, 3)) (hf : cells + mc ≤ R.cells ∧ slots + ms ≤ R.slots)
    (kk : ∀ (u : σ), post u → ∀ (H1 : Heap) (locs1 : List Loc), va_P (dC, dI) vwCl (wr ++ w1 u) H1 → va_D A (wr ++ w1 u) → va_S A H0 H1 locs1 → W p l e R s m args below meth c H1 locs1 (cells + mc) (slots + ms) Q (F0 m (pc + 3) ls rest)) : W p l e R s m args below meth c H locs cells slots Q (F0 m pc ls st0) := by
  have hDc : va_D A wc := hD.sub isC hnC hC
  have hPc : va_P (dC, dI) vwCl wc H := hP.sub isC (by
    have h9 : isC.filterMap (fun i => ws[i]?) = (isC.map (fun i => ws[i]?)).filterMap id := by rw [List.filterMap_map]; rfl
    rw [h9, hC, List.filterMap_map]
    exact List.filterMap_some)
  have hFc := va_free (wc := wc) hD hS hA isC hC
  refine va_callv (va_runV (As := As) (rest := rest) (b := b) S hM cw ⟨fun a U g mk q => ?_, va_recv hK hPc hc he, fun U hU hW => ⟨rfl, by rw [hU], by rw [hU]; exact hPc, ⟨va_K.moved hW.alike hK, va_Nw.warmM hW hN⟩, hDc.weaken (fun _ _ _ _ => trivial)⟩⟩ rfl hn hsize hstack (lv_room hW) hdg hf) hS (fun q _ h => hFc q h) hFc (fun u t H1 locs1 ht hvm hw hB hz1 hk1 hS1 => ?_)
  · obtain ⟨q0, q1, qP, ⟨qK, qN⟩, qD⟩ := q
    exact ⟨q0, q1, qP, ⟨va_K.moved (u := U) (U := U.calling g mk a) (Vm.Alike.refl U.vm) qK, va_Nw.same rfl (u := U) (U := U.calling g mk a) rfl qN⟩, qD⟩
  · obtain ⟨hP1, hK1, hD1⟩ := hB
    rw [ht] at hP1
    obtain ⟨hP2, hD2⟩ := va_join (wr := wr) (w1 := w1 u) hP hD isC isR hC hR hnR hdis hk1 hFc hP1 hD1
    exact kk u hw H1 locs1 hP2 hD2 hS1
end RC
end
section
theorem fa_lt (a b : Int32) : a < b ↔ a.toInt < b.toInt := Int32.lt_iff_toInt_lt
theorem fa_le (a b : Int32) : a ≤ b ↔ a.toInt ≤ b.toInt := Int32.le_iff_toInt_le
theorem fa_eq (a b : Int32) : a = b ↔ a.toInt = b.toInt := Int32.toInt_inj.symm
theorem i32_m9 : (-9 : Int32).toInt = -9 := by decide
theorem i32_m3 : (-3 : Int32).toInt = -3 := by decide
theorem i32_m2 : (-2 : Int32).toInt = -2 := by decide
theorem i32_m1 : (-1 : Int32).toInt = -1 := by decide
theorem i32_0 : (0 : Int32).toInt = 0 := by decide
theorem i32_1 : (1 : Int32).toInt = 1 := by decide
theorem i32_2 : (2 : Int32).toInt = 2 := by decide
theorem i32_3 : (3 : Int32).toInt = 3 := by decide
theorem i32_4 : (4 : Int32).toInt = 4 := by decide
theorem i32_5 : (5 : Int32).toInt = 5 := by decide
theorem i32_7 : (7 : Int32).toInt = 7 := by decide
theorem i32_9 : (9 : Int32).toInt = 9 := by decide
theorem i32_10 : (10 : Int32).toInt = 10 := by decide
theorem i32_12 : (12 : Int32).toInt = 12 := by decide
theorem i32_20 : (20 : Int32).toInt = 20 := by decide
theorem i32_30 : (30 : Int32).toInt = 30 := by decide
theorem i32_60 : (60 : Int32).toInt = 60 := by decide
theorem i32_99 : (99 : Int32).toInt = 99 := by decide
/-! the mathematics of a coast: loops of the class and of the reference as functions. fh heights, fg grass, ff fences, fk kept; φ what a fence loses, ψ what a wind takes, ν next year's grass -/
def phc (v o : Int32) : Int32 := jmax 0 (v - o)
def phm (v o : Int32) : Int32 := if o < v then v - o else 0
def psc (w g : Int32) : Int32 := jmax 0 (w - g)
def psm (w g : Int32) : Int32 := if g < w then w - g else 0
def nuc (g k : Int32) : Int32 := if g = 0 ∨ 30 < k then 0 else if 1 ≤ k ∧ k ≤ 9 then jmin 9 (g + 1) else g
def num (g k : Int32) : Int32 := if 30 < k then 0 else if 0 < g ∧ (1 ≤ k ∧ k ≤ 9) ∧ g < 9 then g + 1 else g
def heldv (fh fg ff : FN) (j : Nat) (x : Int32) : Int32 := jmin x (jmin (1 + 2 * fg j + ff j) (99 - fh j))
/-- m cells from j on keep of the sand x -/
def bIn (φ : Int32 → Int32 → Int32) (fg : FN) : Nat → Nat → FN → FN → FN → Int32 → FN × FN × FN × Int32
  | 0, _, fh, ff, fk, x => (fh, ff, fk, x)
  | m + 1, j, fh, ff, fk, x => bIn φ fg m (j + 1) (upd fh j (fh j + heldv fh fg ff j x)) (upd ff j (ff j - φ (heldv fh fg ff j x) (1 + 2 * fg j))) (upd fk j (fk j + heldv fh fg ff j x)) (x - heldv fh fg ff j x)
/-- the wind w over the cells below q, of n -/
def bOut (φ ψ : Int32 → Int32 → Int32) (n : Nat) (fg : FN) (w : Int32) : Nat → FN → FN → FN → Int32 → FN × FN × FN × Int32
  | 0, fh, ff, fk, x => (fh, ff, fk, x)
  | j + 1, fh, ff, fk, x => bOut φ ψ n fg w j
      (bIn φ fg (n - (j + 1)) (j + 1) (upd fh j (fh j - jmin (fh j) (ψ w (fg j)))) ff fk (jmin (fh j) (ψ w (fg j)))).1
      (bIn φ fg (n - (j + 1)) (j + 1) (upd fh j (fh j - jmin (fh j) (ψ w (fg j)))) ff fk (jmin (fh j) (ψ w (fg j)))).2.1
      (bIn φ fg (n - (j + 1)) (j + 1) (upd fh j (fh j - jmin (fh j) (ψ w (fg j)))) ff fk (jmin (fh j) (ψ w (fg j)))).2.2.1
      (x + (bIn φ fg (n - (j + 1)) (j + 1) (upd fh j (fh j - jmin (fh j) (ψ w (fg j)))) ff fk (jmin (fh j) (ψ w (fg j)))).2.2.2)
abbrev blow (φ ψ : Int32 → Int32 → Int32) (n : Nat) (fh fg ff fk : FN) (w : Int32) : FN × FN × FN × Int32 := bOut φ ψ n fg w n fh ff fk 0
/-- a storm of level w over m cells from j on: drowned, heights, grass, fences, sea, floods -/
def srg (w : Int32) : Nat → Nat → FN → FN → FN → Int32 → Int32 → Int32 × FN × FN × FN × Int32 × Int32
  | 0, j, fh, fg, ff, vs, vd => (nI j, fh, fg, ff, vs, vd + 1)
  | m + 1, j, fh, fg, ff, vs, vd => if fh j < w then srg w m (j + 1) (upd fh j (fh j - fh j / 2)) (upd fg j 0) (upd ff j 0) (vs + fh j / 2) vd
      else (nI j, upd fh j (fh j - w / 4), fg, ff, vs + w / 4, vd)
/-- the year ends over m cells from j on: how many have other grass, grass, kept -/
def yE (ν : Int32 → Int32 → Int32) : Nat → Nat → FN → FN → Int32 → Int32 × FN × FN
  | 0, _, fg, fk, x => (x, fg, fk)
  | m + 1, j, fg, fk, x => yE ν m (j + 1) (upd fg j (ν (fg j) (fk j))) (upd fk j 0) (if ν (fg j) (fk j) = fg j then x else x + 1)
def gMax (fh : FN) : Nat → Nat → Int32 → Int32
  | 0, _, x => x
  | m + 1, j, x => gMax fh m (j + 1) (jmax x (fh j))
def sumH (fh : FN) : Nat → Nat → Int32 → Int32
  | 0, _, x => x
  | m + 1, j, x => sumH fh m (j + 1) (x + fh j)
theorem i32_ge {x : Int32} (h : ¬ x < 0) : 0 ≤ x := Int32.not_lt.mp h
theorem i32_nle {x y : Int32} (h : ¬ y ≤ x) : x < y := Int32.not_le.mp h
theorem i32_not {x : Int32} (h : 0 ≤ x) (h2 : x < 0) : False := absurd h2 (Int32.not_lt.mpr h)
theorem i32_nlt {x y : Int32} (h : y ≤ x) (h2 : x < y) : False := absurd h2 (Int32.not_lt.mpr h)
/-! natural numbers in an array of ints; the rows of a grid of three -/
def nF (ct : Nat → Nat) : FN := fun j => nI (ct j)
theorem nF_wr (ct : Nat → Nat) (j v : Nat) : upd (nF ct) j (nI v) = nF (va_up ct j v) := by
  funext i
  unfold upd nF va_up
  by_cases h : i = j
  · rw [if_pos h, if_pos h]
  · rw [if_neg h, if_neg h]
def r3 (x y z : Nat) : Nat → Option Nat := fun i => match i with
  | 0 => some x
  | 1 => some y
  | _ => some z
/-- how often a year ends in m events from i on -/
def cntY (kw : FN) : Nat → Nat → Nat → Nat
  | 0, _, x => x
  | m + 1, i, x => cntY kw m (i + 1) (if kw i = 2 then x + 1 else x)
theorem cntY_le (kw : FN) : ∀ (m i x : Nat), cntY kw m i x ≤ x + m
  | 0, _, x => Nat.le_refl x
  | m + 1, i, x => by
    unfold cntY
    by_cases h : kw i = 2
    · rw [if_pos h]; have := cntY_le kw m (i + 1) (x + 1); omega
    · rw [if_neg h]; have := cntY_le kw m (i + 1) x; omega
def lastY (ct : Nat → Nat) (kd : Nat → FN) : Nat := max (max (max 0 (cntY (kd 0) (ct 0) 0 0)) (cntY (kd 1) (ct 1) 0 0)) (cntY (kd 2) (ct 2) 0 0)
theorem jmax_nI (a b : Nat) (ha : a < 2147483648) (hb : b < 2147483648) : jmax (nI a) (nI b) = nI (max a b) := by
  unfold jmax
  by_cases h : a < b
  · rw [if_pos ((nq_lt a b ha hb).mpr h), Nat.max_eq_right (by omega)]
  · rw [if_neg ((nq_lt_n a b ha hb).mpr (by omega)), Nat.max_eq_left (by omega)]
/-- how many of m readings from i on are there -/
def cntR (fr : FN) : Nat → Nat → Nat → Nat
  | 0, _, x => x
  | m + 1, i, x => cntR fr m (i + 1) (if fr i = -1 then x else x + 1)
theorem cntR_le (fr : FN) : ∀ (m i x : Nat), cntR fr m i x ≤ x + m
  | 0, _, x => Nat.le_refl x
  | m + 1, i, x => by
    unfold cntR
    by_cases h : fr i = -1
    · rw [if_pos h]; have := cntR_le fr m (i + 1) x; omega
    · rw [if_neg h]; have := cntR_le fr m (i + 1) (x + 1); omega
def near (fr : FN) (st mi : Int32) (n : Nat) : Nat → Int32 → Int32
  | 0, _ => -1
  | m + 1, a => if a < 0 then -1 else if nI n ≤ a then -1 else if fr a.toNatClampNeg = -1 then near fr st mi n m (a + st) else if a = mi then near fr st mi n m (a + st) else a
theorem i32_cl {x : Int32} (h : ¬ x < 0) : x = nI x.toNatClampNeg := by
  obtain ⟨j, hj, rfl⟩ := nI_of h
  rw [nI_clamp hj]
theorem i32_cb {x : Int32} {n : Nat} (h : ¬ x < 0) (h2 : ¬ nI n ≤ x) (hn : n ≤ 7) : x.toNatClampNeg < n := by
  obtain ⟨j, hj, rfl⟩ := nI_of h
  rw [nI_clamp hj]
  exact (nq_le_n n j (by omega) hj).mp h2
theorem near_rng (fr : FN) (st mi : Int32) (n : Nat) : ∀ (m : Nat) (a : Int32), near fr st mi n m a = -1 ∨ (¬ near fr st mi n m a < 0 ∧ ¬ nI n ≤ near fr st mi n m a)
  | 0, a => Or.inl rfl
  | m + 1, a => by
    unfold near
    by_cases h1 : a < 0
    · rw [if_pos h1]; exact Or.inl rfl
    · rw [if_neg h1]
      by_cases h2 : nI n ≤ a
      · rw [if_pos h2]; exact Or.inl rfl
      · rw [if_neg h2]
        by_cases h3 : fr a.toNatClampNeg = -1
        · rw [if_pos h3]; exact near_rng fr st mi n m (a + st)
        · rw [if_neg h3]
          by_cases h4 : a = mi
          · rw [if_pos h4]; exact near_rng fr st mi n m (a + st)
          · rw [if_neg h4]; exact Or.inr ⟨h1, h2⟩
abbrev nL (fr : FN) (n : Nat) (mi : Int32) (j : Nat) : Int32 := near fr (-1) mi n 7 (nI j)
abbrev nR (fr : FN) (n : Nat) (mi : Int32) (j : Nat) : Int32 := near fr 1 mi n 7 (nI j)
/-- a level in 60ths -/
def sLev (fr : FN) (n : Nat) (mi : Int32) (j : Nat) : Int32 :=
  if nL fr n mi j = -1 then (if nR fr n mi j = -1 then 0 else 60 * fr (nR fr n mi j).toNatClampNeg)
  else if nR fr n mi j = -1 then 60 * fr (nL fr n mi j).toNatClampNeg
  else if nL fr n mi j < nR fr n mi j then 60 / (nR fr n mi j - nL fr n mi j) * (fr (nL fr n mi j).toNatClampNeg * (nR fr n mi j - nI j) + fr (nR fr n mi j).toNatClampNeg * (nI j - nL fr n mi j))
  else 60 * fr (nL fr n mi j).toNatClampNeg
def sVol (fr : FN) (n : Nat) (mi : Int32) : Nat → Nat → Int32 → Int32
  | 0, _, x => x
  | m + 1, i, x => sVol fr n mi m (i + 1) (x + sLev fr n mi i)
def sDbt (fr : FN) (n : Nat) (wh : Int32) : Nat → Nat → Int32 → Int32
  | 0, _, x => x
  | m + 1, i, x => sDbt fr n wh m (i + 1) (if fr i = -1 then x else jmax x (jabs (sVol fr n (nI i) n 0 0 - wh)))
theorem i32_subne {x y : Int32} (h : y < x) : ¬ x - y = 0 := by
  intro q
  have h1 : x = y := by
    have h2 : x - y + y = 0 + y := by rw [q]
    rwa [Int32.sub_add_cancel, Int32.zero_add] at h2
  rw [h1] at h
  exact Int32.lt_irrefl h
def zF : FN := fun _ => 0
def mF : FN := fun _ => -1
end
section
/-! plans: a year begins; a weather is played; what plans are worth -/
def bgY (n : Nat) (tf fp : FN) (fz : Int32) (y : Nat) : FN := if y < 3 then (if 0 ≤ fp y ∧ fp y < nI n then upd tf (fp y).toNatClampNeg fz else tf) else tf
/-- m events from i on, in year y -/
def pl (φ ψ ν : Int32 → Int32 → Int32) (n : Nat) (fp : FN) (fz : Int32) (kw vw : FN) : Nat → Nat → Nat → FN → FN → FN → FN → Int32 → Int32 → Int32 → FN × FN × FN × FN × Int32 × Int32 × Int32
  | 0, _, _, th, tg, tf, tk, ts, tb, td => (th, tg, tf, tk, ts, tb, td)
  | m + 1, i, y, th, tg, tf, tk, ts, tb, td =>
    if kw i = 0 then pl φ ψ ν n fp fz kw vw m (i + 1) y (blow φ ψ n th tg tf tk (vw i)).1 tg (blow φ ψ n th tg tf tk (vw i)).2.1 (blow φ ψ n th tg tf tk (vw i)).2.2.1 ts (tb + (blow φ ψ n th tg tf tk (vw i)).2.2.2) td
    else if kw i = 1 then pl φ ψ ν n fp fz kw vw m (i + 1) y (srg (vw i) n 0 th tg tf ts td).2.1 (srg (vw i) n 0 th tg tf ts td).2.2.1 (srg (vw i) n 0 th tg tf ts td).2.2.2.1 tk (srg (vw i) n 0 th tg tf ts td).2.2.2.2.1 tb (srg (vw i) n 0 th tg tf ts td).2.2.2.2.2
    else pl φ ψ ν n fp fz kw vw m (i + 1) (y + 1) th (yE ν n 0 tg tk 0).2.1 (bgY n tf fp fz (y + 1)) (yE ν n 0 tg tk 0).2.2 ts tb td
/-- weather w played from a coast, with the plan fp -/
def plW (φ ψ ν : Int32 → Int32 → Int32) (n : Nat) (fz : Int32) (ct : Nat → Nat) (kd vl : Nat → FN) (fh fg ff fk : FN) (vs vb : Int32) (fp : FN) (w : Nat) : FN × FN × FN × FN × Int32 × Int32 × Int32 :=
  pl φ ψ ν n fp fz (kd w) (vl w) (ct w) 0 0 fh fg (bgY n ff fp fz 0) fk vs vb 0
def crW (φ ψ ν : Int32 → Int32 → Int32) (n : Nat) (fz : Int32) (ct : Nat → Nat) (kd vl : Nat → FN) (fh fg ff fk : FN) (vs vb : Int32) (fp : FN) (w : Nat) : Int32 := gMax (plW φ ψ ν n fz ct kd vl fh fg ff fk vs vb fp w).1 n 0 0
def flW (φ ψ ν : Int32 → Int32 → Int32) (n : Nat) (fz : Int32) (ct : Nat → Nat) (kd vl : Nat → FN) (fh fg ff fk : FN) (vs vb : Int32) (fp : FN) (w : Nat) : Int32 := (plW φ ψ ν n fz ct kd vl fh fg ff fk vs vb fp w).2.2.2.2.2.2
/-- the class's worst crest: -1 at once where houses are flooded or the crest is below the floor -/
def wSt (ct : Nat → Nat) (cr fl : Nat → Int32) (fo : Int32) (w : Nat) (x : Int32) (k : Int32 → Int32) : Int32 := if 0 < ct w then (if 0 < fl w then -1 else if jmin x (cr w) < fo then -1 else k (jmin x (cr w))) else k x
def wCr (ct : Nat → Nat) (cr fl : Nat → Int32) (fo : Int32) : Int32 := wSt ct cr fl fo 0 99 (fun a => wSt ct cr fl fo 1 a (fun b => wSt ct cr fl fo 2 b (fun c => c)))
theorem wSt_0 {ct : Nat → Nat} {cr fl : Nat → Int32} {fo : Int32} {w : Nat} {x : Int32} {k : Int32 → Int32} (h : ct w ≤ 0) : wSt ct cr fl fo w x k = k x := if_neg (Nat.not_lt.mpr h)
theorem wSt_f {ct : Nat → Nat} {cr fl : Nat → Int32} {fo : Int32} {w : Nat} {x : Int32} {k : Int32 → Int32} (h : 0 < ct w) (h2 : 0 < fl w) : wSt ct cr fl fo w x k = -1 := (if_pos h).trans (if_pos h2)
theorem wSt_l {ct : Nat → Nat} {cr fl : Nat → Int32} {fo : Int32} {w : Nat} {x : Int32} {k : Int32 → Int32} (h : 0 < ct w) (h2 : ¬ 0 < fl w) (h3 : ¬ fo ≤ jmin x (cr w)) : wSt ct cr fl fo w x k = -1 := (if_pos h).trans ((if_neg h2).trans (if_pos (Int32.not_le.mp h3)))
theorem wSt_k {ct : Nat → Nat} {cr fl : Nat → Int32} {fo : Int32} {w : Nat} {x : Int32} {k : Int32 → Int32} (h : 0 < ct w) (h2 : ¬ 0 < fl w) (h3 : fo ≤ jmin x (cr w)) : wSt ct cr fl fo w x k = k (jmin x (cr w)) := (if_pos h).trans ((if_neg h2).trans (if_neg (Int32.not_lt.mpr h3)))
def nfs (x : Int32) : Nat := if x = -1 then 0 else 1
def nfen (fp : FN) : Nat := nfs (fp 0) + nfs (fp 1) + nfs (fp 2)
/-- the digits of a plan's code, and the plan -/
def dg (cd y : Nat) : Nat := cd / 8 ^ (2 - y) % 8
def dcd (cd : Nat) : FN := fun y => if dg cd y = 7 then -1 else nI (dg cd y)
def okY (n ly cd y : Nat) : Prop := dg cd y = 7 ∨ (dg cd y < n ∧ y ≤ ly)
def okP (n ly cd : Nat) : Prop := okY n ly cd 0 ∧ okY n ly cd 1 ∧ okY n ly cd 2
def okYd (n ly cd y : Nat) : Decidable (okY n ly cd y) := by unfold okY; exact inferInstance
def okPd (n ly cd : Nat) : Decidable (okP n ly cd) := by unfold okP okY; exact inferInstance
/-- the class's search: the first code of the fewest fences -/
def FPost (P : Nat → Nat → Prop) (r : Int32) (fp : FN) : Prop := (r = 1 ∧ ∃ w cd, w ≤ 3 ∧ cd < 512 ∧ P w cd ∧ (∀ w' c', c' < 512 → w' < w ∨ (w' = w ∧ c' < cd) → ¬ P w' c') ∧ fp = dcd cd) ∨ (r = 0 ∧ ∀ w' c', w' ≤ 3 → c' < 512 → ¬ P w' c')
def gdP (n ly : Nat) (ct : Nat → Nat) (cr fl : FN → Nat → Int32) (aim : Int32) (w cd : Nat) : Prop := okP n ly cd ∧ nfen (dcd cd) = w ∧ aim ≤ wCr ct (cr (dcd cd)) (fl (dcd cd)) aim
/-- the class's greatest aim -/
noncomputable def mo (n ly : Nat) (ct : Nat → Nat) (cr fl : FN → Nat → Int32) : Nat → Nat → Int32 → Int32
  | 0, _, x => x
  | m + 1, cd, x => mo n ly ct cr fl m (cd + 1) (@ite _ (okP n ly cd) (okPd n ly cd) (jmax x (wCr ct (cr (dcd cd)) (fl (dcd cd)) (x + 1))) x)
/-- one part of a number of 60ths, cleared -/
def clr (x wt : Int32) : Nat → Int32
  | 0 => if wt = 0 then x else 60
  | 1 => if wt = 0 then x else 60
  | d + 2 => if 60 - 60 / nI (d + 2) * nI (d + 2) = 0 then (if x - x / nI (d + 2) * nI (d + 2) = 0 then (if wt = 0 then x / nI (d + 2) else 60 / nI (d + 2)) else clr x wt (d + 1)) else clr x wt (d + 1)
def mostV (x : Int32) : Int32 := if x = 0 then 99 else if x = 1 then 9 else 20
def isEv (k v : Int32) : Prop := (k = 0 ∧ 1 ≤ v ∧ v ≤ 9) ∨ (k = 1 ∧ 1 ≤ v ∧ v ≤ 99) ∨ k = 2
def isEvd (k v : Int32) : Decidable (isEv k v) := by unfold isEv; exact inferInstance
def ceN (n : Nat) (x : Int32) : Prop := x = -1 ∨ (0 ≤ x ∧ x < nI n)
def ceNd (n : Nat) (x : Int32) : Decidable (ceN n x) := by unfold ceN; exact inferInstance
/-- three cells as a plan -/
def p3 (a b c : Int32) : FN := fun y => match y with
  | 0 => a
  | 1 => b
  | _ => c
def tryOk (n : Nat) (x a b c : Int32) : Prop := (0 ≤ x ∧ x ≤ 2) ∧ ceN n a ∧ ceN n b ∧ ceN n c
def tryOkd (n : Nat) (x a b c : Int32) : Decidable (tryOk n x a b c) := by unfold tryOk ceN; exact inferInstance
/-- truth as 0 or 1, by a decision that is given -/
noncomputable def bj (P : Prop) : Int32 := @ite _ P (Classical.propDecidable P) 1 0
theorem bj_t {P : Prop} (h : P) : bj P = 1 := by unfold bj; rw [if_pos h]
theorem bj_f {P : Prop} (h : ¬ P) : bj P = 0 := by unfold bj; rw [if_neg h]
theorem bj_1 {P : Prop} (h : ¬ bj P = 0) : P := Classical.byContradiction (fun q => h (bj_f q))
theorem bj_0 {P : Prop} (h : bj P = 0) : ¬ P := fun q => absurd ((bj_t q).symm.trans h) (by decide)
theorem bi_bj {P P' : Prop} [Decidable P] (h : P ↔ P') : bi P = bj P' := by
  by_cases hp : P
  · rw [← bi_t hp, bj_t (h.mp hp)]
  · rw [← bi_f hp, bj_f (fun q => hp (h.mpr q))]
theorem bj_nar (P : Prop) : narrow .boolean (.int (bj P)) = .int (bj P) := by
  by_cases h : P
  · rw [bj_t h]; rfl
  · rw [bj_f h]; rfl
theorem nI_dec {d : Nat} (h : 1 ≤ d) : nI d + Int32.ofInt (-1) = nI (d - 1) := by
  obtain ⟨k, rfl⟩ : ∃ k, d = k + 1 := ⟨d - 1, by omega⟩
  rw [ra_dec, nI_pred]
  rfl
theorem dg_lt (cd y : Nat) : dg cd y < 8 := Nat.mod_lt _ (by omega)
theorem dg_0 {cd : Nat} (h : cd < 512) : nI cd >>> ((6 : Int32) &&& 31) &&& 7 = nI (dg cd 0) := by
  rw [pk_shrN (n := cd) (by omega) (6 &&& 31) 6 (by decide), pk_andN (by omega) 3 (by decide)]
  rfl
theorem dg_1 {cd : Nat} (h : cd < 512) : nI cd >>> ((3 : Int32) &&& 31) &&& 7 = nI (dg cd 1) := by
  rw [pk_shrN (n := cd) (by omega) (3 &&& 31) 3 (by decide), pk_andN (by omega) 3 (by decide)]
  rfl
theorem dg_2 {cd : Nat} (h : cd < 512) : nI cd >>> ((0 : Int32) &&& 31) &&& 7 = nI (dg cd 2) := by
  rw [sb_shr0, pk_andN (by omega) 3 (by decide)]
  unfold dg
  rw [show 8 ^ (2 - 2) = 1 from rfl, Nat.div_one]
theorem i32_nat3 {x : Int32} (h : 0 ≤ x ∧ x ≤ 2) : ∃ j : Nat, j < 3 ∧ x = nI j := by
  obtain ⟨j, hj, rfl⟩ := nI_of (Int32.not_lt.mpr h.1)
  exact ⟨j, by have := (nq_le j 2 hj (by omega)).mp h.2; omega, rfl⟩
theorem i32_natn {x : Int32} {n : Nat} (h : 0 ≤ x ∧ x < nI n) (hn : n ≤ 7) : ∃ j : Nat, j < n ∧ x = nI j := by
  obtain ⟨j, hj, rfl⟩ := nI_of (Int32.not_lt.mpr h.1)
  exact ⟨j, (nq_lt j n hj (by omega)).mp h.2, rfl⟩
theorem up3 (f : FN) (a b c : Int32) : ∀ j, j < 3 → upd (upd (upd f 0 a) 1 b) 2 c j = p3 a b c j := by
  intro j hj
  rcases (show j = 0 ∨ j = 1 ∨ j = 2 by omega) with rfl | rfl | rfl <;> rfl
end
section
set_option maxHeartbeats 4000000 in
set_option maxRecDepth 100000 in
theorem c_X3_isWithin (l : Launch) (v a b : Int32)  : Met l yX3_isWithin wsX3_isWithin (rm 0) (kS [.int v, .int a, .int b]) (QcRead (bi (a ≤ v ∧ v ≤ b))) 0 0 (fun _ => False) := by
  refine ra_metS (cc := cX3_isWithin) (maxL := 3) (by decide) rfl (Nat.le_of_ble_eq_true rfl) ?_
  intro p e s m below meth c args Q hQ hx hb hr hlocks hml hts hown hN ls hl
  have hl : lv_has ls 3 [(0, .int v), (1, .int a), (2, .int b)] := hl
  have hown : s.vm.findClass RX3 = some m.cls := hown
  refine lv_iload_n hx hb dX3_isWithin_0 rfl (lv_at hl 0 rfl) ?_
  refine lv_iload_n hx hb dX3_isWithin_1 rfl (lv_at hl 1 rfl) ?_
  refine lv_icmp_lt (tgt := 14) hx hb dX3_isWithin_2 (by decide) (fun c_2 => ?_) (fun c_2 => ?_)
  · ---- to 14
    refine lv_iconst (v := 0) hx hb dX3_isWithin_14 (by decide) ?_
    rw [hQ]
    exact ra_iretR hx hb hr hlocks rfl (bi_f (by simp only [fa_lt, fa_le, fa_eq, i32_m9, i32_m3, i32_m2, i32_m1, i32_0, i32_1, i32_2, i32_3, i32_4, i32_5, i32_7, i32_9, i32_10, i32_12, i32_20, i32_30, i32_60, i32_99] at c_2 ⊢; omega)) dX3_isWithin_15
  · ---- on
    refine lv_iload_n hx hb dX3_isWithin_5 rfl (lv_at hl 0 rfl) ?_
    refine lv_iload_n hx hb dX3_isWithin_6 rfl (lv_at hl 2 rfl) ?_
    refine lv_icmp_gt (tgt := 14) hx hb dX3_isWithin_7 (by decide) (fun c_7 => ?_) (fun c_7 => ?_)
    · ---- to 14
      refine lv_iconst (v := 0) hx hb dX3_isWithin_14 (by decide) ?_
      rw [hQ]
      exact ra_iretR hx hb hr hlocks rfl (bi_f (by simp only [fa_lt, fa_le, fa_eq, i32_m9, i32_m3, i32_m2, i32_m1, i32_0, i32_1, i32_2, i32_3, i32_4, i32_5, i32_7, i32_9, i32_10, i32_12, i32_20, i32_30, i32_60, i32_99] at c_2 c_7 ⊢; omega)) dX3_isWithin_15
    · ---- on
      refine lv_iconst (v := 1) hx hb dX3_isWithin_10 (by decide) ?_
      refine lv_goto (tgt := 15) hx hb dX3_isWithin_11 (by decide) ?_
      rw [hQ]
      exact ra_iretR hx hb hr hlocks rfl (bi_t (by simp only [fa_lt, fa_le, fa_eq, i32_m9, i32_m3, i32_m2, i32_m1, i32_0, i32_1, i32_2, i32_3, i32_4, i32_5, i32_7, i32_9, i32_10, i32_12, i32_20, i32_30, i32_60, i32_99] at c_2 c_7 ⊢; omega)) dX3_isWithin_15

set_option maxHeartbeats 4000000 in
set_option maxRecDepth 100000 in
theorem c_X0_has (l : Launch) (dC : Nat → ClassId) (dI : Nat → Nat → Nat) (cyI cyA : ClassId) (a0 a1 a2 a3 a4 n : Nat) (fh fg ff fk : FN) (vs vb vd : Int32) (v : Int32)  : Met l yX0_has wsX0_has (rm 0) (kR dC dI cyI cyA [.ref a0, .int v] [ob a0 0 [.int (nI n), .ref a1, .ref a2, .ref a3, .ref a4, .int vs, .int vb, .int vd], ai a1 cyI 7 fh, ai a2 cyI 7 fg, ai a3 cyI 7 ff, ai a4 cyI 7 fk]) (QcRead (bi (0 ≤ v ∧ v < nI n))) 0 0 (fun _ => False) := by
  refine ra_metR (cc := cX0_has) (maxL := 2) (by decide) rfl (Nat.le_of_ble_eq_true rfl) ?_
  intro p e s m below meth c args Q hQ hx hb hr hlocks hml hts hown hK hN hP ls hl
  have hl : lv_has ls 2 [(0, .ref a0), (1, .int v)] := hl
  have hown : s.vm.findClass RX0 = some m.cls := hown
  have hw_1 := hts (.fieldLink RX0 28 "DuneBench$Coast" "cells" "I") (by decide +kernel)
  have hin_X0 : ∀ w ∈ u_ws RX0 TX0 8, w ∈ wsX0_has := by decide +kernel
  refine lv_iload_n hx hb dX0_has_0 rfl (lv_at hl 1 rfl) ?_
  refine lv_if_lt (tgt := 16) hx hb dX0_has_1 (by decide) (fun c_1 => ?_) (fun c_1 => ?_)
  · ---- to 16
    refine lv_iconst (v := 0) hx hb dX0_has_16 (by decide) ?_
    rw [hQ]
    exact ra_iretR hx hb hr hlocks rfl (bi_f (by simp only [fa_lt, fa_le, fa_eq, i32_m9, i32_m3, i32_m2, i32_m1, i32_0, i32_1, i32_2, i32_3, i32_4, i32_5, i32_7, i32_9, i32_10, i32_12, i32_20, i32_30, i32_60, i32_99] at c_1 ⊢; omega)) dX0_has_17
  · ---- on
    refine lv_iload_n hx hb dX0_has_4 rfl (lv_at hl 1 rfl) ?_
    refine lv_aload_n hx hb dX0_has_5 rfl (lv_at hl 0 rfl) ?_
    refine va_get (D := (dC, dI)) (ci := 0) (v := .int (nI n)) (C := RX0) (T := TX0) (N := 8) hx hb hts hin_X0 hown hK hP 0 rfl rfl 0 (by decide) hw_1 (fun _ h9 => h9) rfl dX0_has_6 ?_
    refine lv_icmp_ge (tgt := 16) hx hb dX0_has_9 (by decide) (fun c_9 => ?_) (fun c_9 => ?_)
    · ---- to 16
      refine lv_iconst (v := 0) hx hb dX0_has_16 (by decide) ?_
      rw [hQ]
      exact ra_iretR hx hb hr hlocks rfl (bi_f (by simp only [fa_lt, fa_le, fa_eq, i32_m9, i32_m3, i32_m2, i32_m1, i32_0, i32_1, i32_2, i32_3, i32_4, i32_5, i32_7, i32_9, i32_10, i32_12, i32_20, i32_30, i32_60, i32_99] at c_1 c_9 ⊢; omega)) dX0_has_17
    · ---- on
      refine lv_iconst (v := 1) hx hb dX0_has_12 (by decide) ?_
      refine lv_goto (tgt := 17) hx hb dX0_has_13 (by decide) ?_
      rw [hQ]
      exact ra_iretR hx hb hr hlocks rfl (bi_t (by simp only [fa_lt, fa_le, fa_eq, i32_m9, i32_m3, i32_m2, i32_m1, i32_0, i32_1, i32_2, i32_3, i32_4, i32_5, i32_7, i32_9, i32_10, i32_12, i32_20, i32_30, i32_60, i32_99] at c_1 c_9 ⊢; omega)) dX0_has_17

set_option maxHeartbeats 4000000 in
set_option maxRecDepth 100000 in
theorem c_X0_hold (l : Launch) (dC : Nat → ClassId) (dI : Nat → Nat → Nat) (cyI cyA : ClassId) (a0 a1 a2 a3 a4 n : Nat) (fh fg ff fk : FN) (vs vb vd : Int32) (j : Nat) (x : Int32) (hj : j < 7) (sz : Nat) : Met l yX0_hold wsX0_hold (rm 1) (kW dC dI cyI cyA [.ref a0, .int (nI j), .int x] sz [ob a0 0 [.int (nI n), .ref a1, .ref a2, .ref a3, .ref a4, .int vs, .int vb, .int vd], ai a1 cyI 7 fh, ai a2 cyI 7 fg, ai a3 cyI 7 ff, ai a4 cyI 7 fk]) (qI dC dI cyI cyA (fun (r : Int32) (_ : Unit) => r = heldv fh fg ff j x) (va_A [ob a0 0 [.int (nI n), .ref a1, .ref a2, .ref a3, .ref a4, .int vs, .int vb, .int vd], ai a1 cyI 7 fh, ai a2 cyI 7 fg, ai a3 cyI 7 ff, ai a4 cyI 7 fk] sz) (fun _ => [ob a0 0 [.int (nI n), .ref a1, .ref a2, .ref a3, .ref a4, .int vs, .int vb, .int vd], ai a1 cyI 7 (upd fh j (fh j + heldv fh fg ff j x)), ai a2 cyI 7 fg, ai a3 cyI 7 (upd ff j (ff j - phc (heldv fh fg ff j x) (1 + 2 * fg j))), ai a4 cyI 7 (upd fk j (fk j + heldv fh fg ff j x))])) 0 0 (va_A [ob a0 0 [.int (nI n), .ref a1, .ref a2, .ref a3, .ref a4, .int vs, .int vb, .int vd], ai a1 cyI 7 fh, ai a2 cyI 7 fg, ai a3 cyI 7 ff, ai a4 cyI 7 fk] sz) := by
  refine ra_metW (cc := cX0_hold) (maxL := 5) (Qc := fun A => qI dC dI cyI cyA (fun (r : Int32) (_ : Unit) => r = heldv fh fg ff j x) A (fun _ => [ob a0 0 [.int (nI n), .ref a1, .ref a2, .ref a3, .ref a4, .int vs, .int vb, .int vd], ai a1 cyI 7 (upd fh j (fh j + heldv fh fg ff j x)), ai a2 cyI 7 fg, ai a3 cyI 7 (upd ff j (ff j - phc (heldv fh fg ff j x) (1 + 2 * fg j))), ai a4 cyI 7 (upd fk j (fk j + heldv fh fg ff j x))])) (by decide) rfl (Nat.le_of_ble_eq_true rfl) ?_
  intro p e s m below meth c A args Q hQ hx hb hr hlocks hml hts hown hnm hK hN hP hD hA hS ls hl
  have hl : lv_has ls 5 [(0, .ref a0), (1, .int (nI j)), (2, .int x)] := hl
  have hown : s.vm.findClass RX0 = some m.cls := hown
  have hw_1 := hts (.fieldLink RX0 15 "DuneBench$Coast" "grass" "[I") (by decide +kernel)
  have hin_X0 : ∀ w ∈ u_ws RX0 TX0 8, w ∈ wsX0_hold := by decide +kernel
  have hw_3 := hts (.fieldLink RX0 18 "DuneBench$Coast" "fence" "[I") (by decide +kernel)
  have hw_4 := hts (.fieldLink RX0 9 "DuneBench$Coast" "height" "[I") (by decide +kernel)
  have hw_5 := hts (.methodLink RX0 47 Lib.Math.min.name) (by decide +kernel)
  have hw_6 := hts (.static Lib.Math.min.name) (by decide +kernel)
  have hw_7 := hts (.initialized "java/lang/Math") (by decide +kernel)
  have hw_8 := hts (.code Lib.Math.min.name Lib.Math.min.code 2 (some .int)) (by decide +kernel)
  have hw_9 := hts (.methodLink RX0 41 Lib.Math.max.name) (by decide +kernel)
  have hw_10 := hts (.static Lib.Math.max.name) (by decide +kernel)
  have hw_11 := hts (.code Lib.Math.max.name Lib.Math.max.code 2 (some .int)) (by decide +kernel)
  have hw_12 := hts (.fieldLink RX0 21 "DuneBench$Coast" "kept" "[I") (by decide +kernel)
  obtain ⟨H, hHe⟩ : ∃ H, H = s.heap := ⟨_, rfl⟩
  obtain ⟨locs, hLe⟩ : ∃ locs : List Loc, locs = [] := ⟨_, rfl⟩
  have hP : va_P (dC, dI) vwCl [ob a0 0 [.int (nI n), .ref a1, .ref a2, .ref a3, .ref a4, .int vs, .int vb, .int vd], ai a1 cyI 7 fh, ai a2 cyI 7 fg, ai a3 cyI 7 ff, ai a4 cyI 7 fk] H := by rw [hHe]; exact hP
  have hS : va_S A s.heap H locs := by rw [hHe, hLe]; exact hS
  suffices hgo : W p l e (rm 1) s m args below meth c H locs 0 0 Q (F0 m 0 ls []) by rw [hHe, hLe] at hgo; exact hgo
  refine lv_iconst (v := 1) hx hb dX0_hold_0 (by decide) ?_
  refine lv_iconst (v := 2) hx hb dX0_hold_1 (by decide) ?_
  refine lv_aload_n hx hb dX0_hold_2 rfl (lv_at hl 0 rfl) ?_
  refine va_get (D := (dC, dI)) (ci := 0) (v := .ref a2) (C := RX0) (T := TX0) (N := 8) hx hb hts hin_X0 hown hK hP 0 rfl rfl 2 (by decide) hw_1 (fun _ h9 => h9) rfl dX0_hold_3 ?_
  refine lv_iload_n hx hb dX0_hold_6 rfl (lv_at hl 1 rfl) ?_
  refine ra_iald hx hb hK hP 2 rfl j rfl (by omega) (Nat.le_of_ble_eq_true rfl) dX0_hold_7 ?_
  refine lv_imul hx hb dX0_hold_8 ?_
  refine lv_iadd hx hb dX0_hold_9 ?_
  refine lv_istore_n (lv' := [(3, .int (1 + (2 * (fg j)))), (0, .ref a0), (1, .int (nI j)), (2, .int x)]) hx hb dX0_hold_10 rfl hl (by decide) rfl (fun ls hl => ?_)
  refine lv_iload_n hx hb dX0_hold_11 rfl (lv_at hl 3 rfl) ?_
  refine lv_iload_n hx hb dX0_hold_12 rfl (lv_at hl 0 rfl) ?_
  refine lv_aload_n hx hb dX0_hold_13 rfl (lv_at hl 1 rfl) ?_
  refine va_get (D := (dC, dI)) (ci := 0) (v := .ref a3) (C := RX0) (T := TX0) (N := 8) hx hb hts hin_X0 hown hK hP 0 rfl rfl 3 (by decide) hw_3 (fun _ h9 => h9) rfl dX0_hold_14 ?_
  refine lv_iload_n hx hb dX0_hold_17 rfl (lv_at hl 2 rfl) ?_
  refine ra_iald hx hb hK hP 3 rfl j rfl (by omega) (Nat.le_of_ble_eq_true rfl) dX0_hold_18 ?_
  refine lv_iadd hx hb dX0_hold_19 ?_
  refine lv_bipush (v := 99) hx hb dX0_hold_20 (by decide) ?_
  refine lv_aload_n hx hb dX0_hold_22 rfl (lv_at hl 1 rfl) ?_
  refine va_get (D := (dC, dI)) (ci := 0) (v := .ref a1) (C := RX0) (T := TX0) (N := 8) hx hb hts hin_X0 hown hK hP 0 rfl rfl 1 (by decide) hw_4 (fun _ h9 => h9) rfl dX0_hold_23 ?_
  refine lv_iload_n hx hb dX0_hold_26 rfl (lv_at hl 2 rfl) ?_
  refine ra_iald hx hb hK hP 1 rfl j rfl (by omega) (Nat.le_of_ble_eq_true rfl) dX0_hold_27 ?_
  refine lv_isub hx hb dX0_hold_28 ?_
  refine va_mmin hx hb (hml.trans hl.1.symm) hown hw_5 hw_6 hw_7 hw_8 (Nat.le_of_ble_eq_true rfl) (Nat.le_of_ble_eq_true rfl) (Nat.le_of_ble_eq_true rfl) (Nat.le_of_ble_eq_true rfl) dX0_hold_29 ?_
  refine ra_top (jmin ((1 + (2 * (fg j))) + (ff j)) (99 - (fh j))) rfl ?_
  refine va_mmin hx hb (hml.trans hl.1.symm) hown hw_5 hw_6 hw_7 hw_8 (Nat.le_of_ble_eq_true rfl) (Nat.le_of_ble_eq_true rfl) (Nat.le_of_ble_eq_true rfl) (Nat.le_of_ble_eq_true rfl) dX0_hold_32 ?_
  refine ra_top (jmin x (jmin ((1 + (2 * (fg j))) + (ff j)) (99 - (fh j)))) rfl ?_
  refine lv_istore (lv' := [(4, .int (jmin x (jmin ((1 + (2 * (fg j))) + (ff j)) (99 - (fh j))))), (3, .int (1 + (2 * (fg j)))), (0, .ref a0), (1, .int (nI j)), (2, .int x)]) hx hb dX0_hold_35 hl (by decide) rfl (fun ls hl => ?_)
  refine lv_aload_n hx hb dX0_hold_37 rfl (lv_at hl 2 rfl) ?_
  refine va_get (D := (dC, dI)) (ci := 0) (v := .ref a3) (C := RX0) (T := TX0) (N := 8) hx hb hts hin_X0 hown hK hP 0 rfl rfl 3 (by decide) hw_3 (fun _ h9 => h9) rfl dX0_hold_38 ?_
  refine lv_iload_n hx hb dX0_hold_41 rfl (lv_at hl 3 rfl) ?_
  refine lv_dup2_11 hx hb dX0_hold_42 rfl rfl ?_
  refine ra_iald hx hb hK hP 3 rfl j rfl (by omega) (Nat.le_of_ble_eq_true rfl) dX0_hold_43 ?_
  refine lv_iconst (v := 0) hx hb dX0_hold_44 (by decide) ?_
  refine lv_iload hx hb dX0_hold_45 (lv_at hl 0 rfl) ?_
  refine lv_iload_n hx hb dX0_hold_47 rfl (lv_at hl 1 rfl) ?_
  refine lv_isub hx hb dX0_hold_48 ?_
  refine va_mmax hx hb (hml.trans hl.1.symm) hown hw_9 hw_10 hw_7 hw_11 (Nat.le_of_ble_eq_true rfl) (Nat.le_of_ble_eq_true rfl) (Nat.le_of_ble_eq_true rfl) (Nat.le_of_ble_eq_true rfl) dX0_hold_49 ?_
  refine ra_top (jmax 0 ((jmin x (jmin ((1 + (2 * (fg j))) + (ff j)) (99 - (fh j)))) - (1 + (2 * (fg j))))) rfl ?_
  refine lv_isub hx hb dX0_hold_52 ?_
  refine ra_iast hx hb hK hP hD hS 3 rfl j rfl (by omega) (Nat.le_of_ble_eq_true rfl) dX0_hold_53 (fun H locs hP hD hS => ?_)
  have hP : va_P (dC, dI) vwCl [ob a0 0 [.int (nI n), .ref a1, .ref a2, .ref a3, .ref a4, .int vs, .int vb, .int vd], ai a1 cyI 7 fh, ai a2 cyI 7 fg, ai a3 cyI 7 (upd ff j ((ff j) - (jmax 0 ((jmin x (jmin ((1 + (2 * (fg j))) + (ff j)) (99 - (fh j)))) - (1 + (2 * (fg j))))))), ai a4 cyI 7 fk] H := hP
  have hD : va_D A [ob a0 0 [.int (nI n), .ref a1, .ref a2, .ref a3, .ref a4, .int vs, .int vb, .int vd], ai a1 cyI 7 fh, ai a2 cyI 7 fg, ai a3 cyI 7 (upd ff j ((ff j) - (jmax 0 ((jmin x (jmin ((1 + (2 * (fg j))) + (ff j)) (99 - (fh j)))) - (1 + (2 * (fg j))))))), ai a4 cyI 7 fk] := hD
  refine lv_aload_n hx hb dX0_hold_54 rfl (lv_at hl 2 rfl) ?_
  refine va_get (D := (dC, dI)) (ci := 0) (v := .ref a1) (C := RX0) (T := TX0) (N := 8) hx hb hts hin_X0 hown hK hP 0 rfl rfl 1 (by decide) hw_4 (fun _ h9 => h9) rfl dX0_hold_55 ?_
  refine lv_iload_n hx hb dX0_hold_58 rfl (lv_at hl 3 rfl) ?_
  refine lv_dup2_11 hx hb dX0_hold_59 rfl rfl ?_
  refine ra_iald hx hb hK hP 1 rfl j rfl (by omega) (Nat.le_of_ble_eq_true rfl) dX0_hold_60 ?_
  refine lv_iload hx hb dX0_hold_61 (lv_at hl 0 rfl) ?_
  refine lv_iadd hx hb dX0_hold_63 ?_
  refine ra_iast hx hb hK hP hD hS 1 rfl j rfl (by omega) (Nat.le_of_ble_eq_true rfl) dX0_hold_64 (fun H locs hP hD hS => ?_)
  have hP : va_P (dC, dI) vwCl [ob a0 0 [.int (nI n), .ref a1, .ref a2, .ref a3, .ref a4, .int vs, .int vb, .int vd], ai a1 cyI 7 (upd fh j ((fh j) + (jmin x (jmin ((1 + (2 * (fg j))) + (ff j)) (99 - (fh j)))))), ai a2 cyI 7 fg, ai a3 cyI 7 (upd ff j ((ff j) - (jmax 0 ((jmin x (jmin ((1 + (2 * (fg j))) + (ff j)) (99 - (fh j)))) - (1 + (2 * (fg j))))))), ai a4 cyI 7 fk] H := hP
  have hD : va_D A [ob a0 0 [.int (nI n), .ref a1, .ref a2, .ref a3, .ref a4, .int vs, .int vb, .int vd], ai a1 cyI 7 (upd fh j ((fh j) + (jmin x (jmin ((1 + (2 * (fg j))) + (ff j)) (99 - (fh j)))))), ai a2 cyI 7 fg, ai a3 cyI 7 (upd ff j ((ff j) - (jmax 0 ((jmin x (jmin ((1 + (2 * (fg j))) + (ff j)) (99 - (fh j)))) - (1 + (2 * (fg j))))))), ai a4 cyI 7 fk] := hD
  refine lv_aload_n hx hb dX0_hold_65 rfl (lv_at hl 2 rfl) ?_
  refine va_get (D := (dC, dI)) (ci := 0) (v := .ref a4) (C := RX0) (T := TX0) (N := 8) hx hb hts hin_X0 hown hK hP 0 rfl rfl 4 (by decide) hw_12 (fun _ h9 => h9) rfl dX0_hold_66 ?_
  refine lv_iload_n hx hb dX0_hold_69 rfl (lv_at hl 3 rfl) ?_
  refine lv_dup2_11 hx hb dX0_hold_70 rfl rfl ?_
  refine ra_iald hx hb hK hP 4 rfl j rfl (by omega) (Nat.le_of_ble_eq_true rfl) dX0_hold_71 ?_
  refine lv_iload hx hb dX0_hold_72 (lv_at hl 0 rfl) ?_
  refine lv_iadd hx hb dX0_hold_74 ?_
  refine ra_iast hx hb hK hP hD hS 4 rfl j rfl (by omega) (Nat.le_of_ble_eq_true rfl) dX0_hold_75 (fun H locs hP hD hS => ?_)
  have hP : va_P (dC, dI) vwCl [ob a0 0 [.int (nI n), .ref a1, .ref a2, .ref a3, .ref a4, .int vs, .int vb, .int vd], ai a1 cyI 7 (upd fh j ((fh j) + (jmin x (jmin ((1 + (2 * (fg j))) + (ff j)) (99 - (fh j)))))), ai a2 cyI 7 fg, ai a3 cyI 7 (upd ff j ((ff j) - (jmax 0 ((jmin x (jmin ((1 + (2 * (fg j))) + (ff j)) (99 - (fh j)))) - (1 + (2 * (fg j))))))), ai a4 cyI 7 (upd fk j ((fk j) + (jmin x (jmin ((1 + (2 * (fg j))) + (ff j)) (99 - (fh j))))))] H := hP
  have hD : va_D A [ob a0 0 [.int (nI n), .ref a1, .ref a2, .ref a3, .ref a4, .int vs, .int vb, .int vd], ai a1 cyI 7 (upd fh j ((fh j) + (jmin x (jmin ((1 + (2 * (fg j))) + (ff j)) (99 - (fh j)))))), ai a2 cyI 7 fg, ai a3 cyI 7 (upd ff j ((ff j) - (jmax 0 ((jmin x (jmin ((1 + (2 * (fg j))) + (ff j)) (99 - (fh j)))) - (1 + (2 * (fg j))))))), ai a4 cyI 7 (upd fk j ((fk j) + (jmin x (jmin ((1 + (2 * (fg j))) + (ff j)) (99 - (fh j))))))] := hD
  refine lv_iload hx hb dX0_hold_76 (lv_at hl 0 rfl) ?_
  rw [hQ]
  exact ra_iretW () hx hb hr hlocks rfl hK hP hD hS rfl dX0_hold_78

set_option maxHeartbeats 4000000 in
set_option maxRecDepth 100000 in
theorem c_X0_blow (l : Launch) (dC : Nat → ClassId) (dI : Nat → Nat → Nat) (cyI cyA : ClassId) (a0 a1 a2 a3 a4 n : Nat) (fh fg ff fk : FN) (vs vb vd : Int32) (w : Int32) (hn : n ≤ 7) (sz : Nat) : Met l yX0_blow wsX0_blow (rm 2) (kW dC dI cyI cyA [.ref a0, .int w] sz [ob a0 0 [.int (nI n), .ref a1, .ref a2, .ref a3, .ref a4, .int vs, .int vb, .int vd], ai a1 cyI 7 fh, ai a2 cyI 7 fg, ai a3 cyI 7 ff, ai a4 cyI 7 fk]) (qI dC dI cyI cyA (fun (r : Int32) (_ : Unit) => r = (blow phc psc n fh fg ff fk w).2.2.2) (va_A [ob a0 0 [.int (nI n), .ref a1, .ref a2, .ref a3, .ref a4, .int vs, .int vb, .int vd], ai a1 cyI 7 fh, ai a2 cyI 7 fg, ai a3 cyI 7 ff, ai a4 cyI 7 fk] sz) (fun _ => [ob a0 0 [.int (nI n), .ref a1, .ref a2, .ref a3, .ref a4, .int vs, .int (vb + (blow phc psc n fh fg ff fk w).2.2.2), .int vd], ai a1 cyI 7 ((blow phc psc n fh fg ff fk w).1), ai a2 cyI 7 fg, ai a3 cyI 7 ((blow phc psc n fh fg ff fk w).2.1), ai a4 cyI 7 ((blow phc psc n fh fg ff fk w).2.2.1)])) 0 0 (va_A [ob a0 0 [.int (nI n), .ref a1, .ref a2, .ref a3, .ref a4, .int vs, .int vb, .int vd], ai a1 cyI 7 fh, ai a2 cyI 7 fg, ai a3 cyI 7 ff, ai a4 cyI 7 fk] sz) := by
  refine ra_metW (cc := cX0_blow) (maxL := 6) (Qc := fun A => qI dC dI cyI cyA (fun (r : Int32) (_ : Unit) => r = (blow phc psc n fh fg ff fk w).2.2.2) A (fun _ => [ob a0 0 [.int (nI n), .ref a1, .ref a2, .ref a3, .ref a4, .int vs, .int (vb + (blow phc psc n fh fg ff fk w).2.2.2), .int vd], ai a1 cyI 7 ((blow phc psc n fh fg ff fk w).1), ai a2 cyI 7 fg, ai a3 cyI 7 ((blow phc psc n fh fg ff fk w).2.1), ai a4 cyI 7 ((blow phc psc n fh fg ff fk w).2.2.1)])) (by decide) rfl (Nat.le_of_ble_eq_true rfl) ?_
  intro p e s m below meth c A args Q hQ hx hb hr hlocks hml hts hown hnm hK hN hP hD hA hS ls hl
  have hl : lv_has ls 6 [(0, .ref a0), (1, .int w)] := hl
  have hown : s.vm.findClass RX0 = some m.cls := hown
  have hw_1 := hts (.fieldLink RX0 28 "DuneBench$Coast" "cells" "I") (by decide +kernel)
  have hin_X0 : ∀ w ∈ u_ws RX0 TX0 8, w ∈ wsX0_blow := by decide +kernel
  have hw_3 := hts (.fieldLink RX0 35 "DuneBench$Coast" "behind" "I") (by decide +kernel)
  have hw_4 := hts (.fieldLink RX0 9 "DuneBench$Coast" "height" "[I") (by decide +kernel)
  have hw_5 := hts (.fieldLink RX0 15 "DuneBench$Coast" "grass" "[I") (by decide +kernel)
  have hw_6 := hts (.methodLink RX0 41 Lib.Math.max.name) (by decide +kernel)
  have hw_7 := hts (.static Lib.Math.max.name) (by decide +kernel)
  have hw_8 := hts (.initialized "java/lang/Math") (by decide +kernel)
  have hw_9 := hts (.code Lib.Math.max.name Lib.Math.max.code 2 (some .int)) (by decide +kernel)
  have hw_10 := hts (.methodLink RX0 47 Lib.Math.min.name) (by decide +kernel)
  have hw_11 := hts (.static Lib.Math.min.name) (by decide +kernel)
  have hw_12 := hts (.code Lib.Math.min.name Lib.Math.min.code 2 (some .int)) (by decide +kernel)
  obtain ⟨H, hHe⟩ : ∃ H, H = s.heap := ⟨_, rfl⟩
  obtain ⟨locs, hLe⟩ : ∃ locs : List Loc, locs = [] := ⟨_, rfl⟩
  have hP : va_P (dC, dI) vwCl [ob a0 0 [.int (nI n), .ref a1, .ref a2, .ref a3, .ref a4, .int vs, .int vb, .int vd], ai a1 cyI 7 fh, ai a2 cyI 7 fg, ai a3 cyI 7 ff, ai a4 cyI 7 fk] H := by rw [hHe]; exact hP
  have hS : va_S A s.heap H locs := by rw [hHe, hLe]; exact hS
  suffices hgo : W p l e (rm 2) s m args below meth c H locs 0 0 Q (F0 m 0 ls []) by rw [hHe, hLe] at hgo; exact hgo
  refine lv_iconst (v := 0) hx hb dX0_blow_0 (by decide) ?_
  refine lv_istore_n (lv' := [(2, .int 0), (0, .ref a0), (1, .int w)]) hx hb dX0_blow_1 rfl hl (by decide) rfl (fun ls hl => ?_)
  refine lv_aload_n hx hb dX0_blow_2 rfl (lv_at hl 1 rfl) ?_
  refine va_get (D := (dC, dI)) (ci := 0) (v := .int (nI n)) (C := RX0) (T := TX0) (N := 8) hx hb hts hin_X0 hown hK hP 0 rfl rfl 0 (by decide) hw_1 (fun _ h9 => h9) rfl dX0_blow_3 ?_
  refine lv_iconst (v := 1) hx hb dX0_blow_6 (by decide) ?_
  refine lv_isub hx hb dX0_blow_7 ?_
  refine lv_istore_n (lv' := [(3, .int ((nI n) - 1)), (2, .int 0), (0, .ref a0), (1, .int w)]) hx hb dX0_blow_8 rfl hl (by decide) rfl (fun ls hl => ?_)
  have L_9 : ∀ (n9 : Nat) (q : Nat) (fh0 : FN) (ff0 : FN) (fk0 : FN) (x : Int32), (q ≤ n) → (bOut phc psc n fg w q fh0 ff0 fk0 x = blow phc psc n fh fg ff fk w) → q < n9 → ∀ (H : Heap) (locs : List Loc), va_P (dC, dI) vwCl [ob a0 0 [.int (nI n), .ref a1, .ref a2, .ref a3, .ref a4, .int vs, .int vb, .int vd], ai a1 cyI 7 fh0, ai a2 cyI 7 fg, ai a3 cyI 7 ff0, ai a4 cyI 7 fk0] H → va_D A [ob a0 0 [.int (nI n), .ref a1, .ref a2, .ref a3, .ref a4, .int vs, .int vb, .int vd], ai a1 cyI 7 fh0, ai a2 cyI 7 fg, ai a3 cyI 7 ff0, ai a4 cyI 7 fk0] → va_S A s.heap H locs → ∀ ls : Array Slot, lv_has ls 6 [(0, .ref a0), (1, .int w), (2, .int x), (3, .int (nI q - 1))] → W p l e (rm 2) s m args below meth c H locs 0 0 Q (F0 m 9 ls []) := by
    intro n9
    induction n9 with
    | zero =>
      intro q fh0 ff0 fk0 x hq he hm9
      exact absurd hm9 (Nat.not_lt_zero _)
    | succ n9 ih_9 =>
      intro q fh0 ff0 fk0 x hq he hm9 H locs hP hD hS ls hl
      rcases q with _ | j
      ·
        have hl : lv_has ls 6 [(0, .ref a0), (1, .int w), (2, .int x), (3, .int (-1))] := by rw [show nI 0 - 1 = (-1 : Int32) by decide] at hl; exact hl
        refine lv_iload_n hx hb dX0_blow_9 rfl (lv_at hl 3 rfl) ?_
        refine lv_if_lt (tgt := 91) hx hb dX0_blow_10 (by decide) (fun c_10 => ?_) (fun c_10 => ?_)
        · ---- to 91
          have he : (fh0, ff0, fk0, x) = blow phc psc n fh fg ff fk w := he
          refine lv_aload_n hx hb dX0_blow_91 rfl (lv_at hl 0 rfl) ?_
          refine lv_dup hx hb dX0_blow_92 rfl ?_
          refine va_get (D := (dC, dI)) (ci := 0) (v := .int vb) (C := RX0) (T := TX0) (N := 8) hx hb hts hin_X0 hown hK hP 0 rfl rfl 6 (by decide) hw_3 (fun _ h9 => h9) rfl dX0_blow_93 ?_
          refine lv_iload_n hx hb dX0_blow_96 rfl (lv_at hl 2 rfl) ?_
          refine lv_iadd hx hb dX0_blow_97 ?_
          refine va_put (D := (dC, dI)) (ci := 0) (v := .int (vb + x)) (ty := .int) (C := RX0) (T := TX0) (N := 8) hx hb hts hin_X0 tyX0 tyX0_ok nmX0 hown hK hP hD hS 0 rfl rfl 6 (by decide) hw_3 (fun _ h9 => h9) rfl (by decide +kernel) rfl rfl (Nat.le_of_ble_eq_true rfl) dX0_blow_98 (fun H locs hP hD hS => ?_)
          have hP : va_P (dC, dI) vwCl [ob a0 0 [.int (nI n), .ref a1, .ref a2, .ref a3, .ref a4, .int vs, .int (vb + x), .int vd], ai a1 cyI 7 fh0, ai a2 cyI 7 fg, ai a3 cyI 7 ff0, ai a4 cyI 7 fk0] H := hP
          have hD : va_D A [ob a0 0 [.int (nI n), .ref a1, .ref a2, .ref a3, .ref a4, .int vs, .int (vb + x), .int vd], ai a1 cyI 7 fh0, ai a2 cyI 7 fg, ai a3 cyI 7 ff0, ai a4 cyI 7 fk0] := hD
          refine lv_iload_n hx hb dX0_blow_101 rfl (lv_at hl 2 rfl) ?_
          rw [hQ]
          rw [← he]
          exact ra_iretW () hx hb hr hlocks rfl hK hP hD hS rfl dX0_blow_102
        · ---- on
          exact absurd c_10 (by decide)
      ·
        have hl : lv_has ls 6 [(0, .ref a0), (1, .int w), (2, .int x), (3, .int (nI j))] := by rw [nI_pred] at hl; exact hl
        refine lv_iload_n hx hb dX0_blow_9 rfl (lv_at hl 3 rfl) ?_
        refine lv_if_lt (tgt := 91) hx hb dX0_blow_10 (by decide) (fun c_10 => ?_) (fun c_10 => ?_)
        · ---- to 91
          exact absurd c_10 (nI_pos (by omega))
        · ---- on
          have n_10 := (nq_lt_n j 0 (by omega) (by omega)).mp c_10
          refine lv_aload_n hx hb dX0_blow_13 rfl (lv_at hl 0 rfl) ?_
          refine va_get (D := (dC, dI)) (ci := 0) (v := .ref a1) (C := RX0) (T := TX0) (N := 8) hx hb hts hin_X0 hown hK hP 0 rfl rfl 1 (by decide) hw_4 (fun _ h9 => h9) rfl dX0_blow_14 ?_
          refine lv_iload_n hx hb dX0_blow_17 rfl (lv_at hl 3 rfl) ?_
          refine ra_iald hx hb hK hP 1 rfl j rfl (by omega) (Nat.le_of_ble_eq_true rfl) dX0_blow_18 ?_
          refine lv_iconst (v := 0) hx hb dX0_blow_19 (by decide) ?_
          refine lv_iload_n hx hb dX0_blow_20 rfl (lv_at hl 1 rfl) ?_
          refine lv_aload_n hx hb dX0_blow_21 rfl (lv_at hl 0 rfl) ?_
          refine va_get (D := (dC, dI)) (ci := 0) (v := .ref a2) (C := RX0) (T := TX0) (N := 8) hx hb hts hin_X0 hown hK hP 0 rfl rfl 2 (by decide) hw_5 (fun _ h9 => h9) rfl dX0_blow_22 ?_
          refine lv_iload_n hx hb dX0_blow_25 rfl (lv_at hl 3 rfl) ?_
          refine ra_iald hx hb hK hP 2 rfl j rfl (by omega) (Nat.le_of_ble_eq_true rfl) dX0_blow_26 ?_
          refine lv_isub hx hb dX0_blow_27 ?_
          refine va_mmax hx hb (hml.trans hl.1.symm) hown hw_6 hw_7 hw_8 hw_9 (Nat.le_of_ble_eq_true rfl) (Nat.le_of_ble_eq_true rfl) (Nat.le_of_ble_eq_true rfl) (Nat.le_of_ble_eq_true rfl) dX0_blow_28 ?_
          refine ra_top (jmax 0 (w - (fg j))) rfl ?_
          refine va_mmin hx hb (hml.trans hl.1.symm) hown hw_10 hw_11 hw_8 hw_12 (Nat.le_of_ble_eq_true rfl) (Nat.le_of_ble_eq_true rfl) (Nat.le_of_ble_eq_true rfl) (Nat.le_of_ble_eq_true rfl) dX0_blow_31 ?_
          refine ra_top (jmin (fh0 j) (jmax 0 (w - (fg j)))) rfl ?_
          refine lv_istore (lv' := [(4, .int (jmin (fh0 j) (jmax 0 (w - (fg j))))), (0, .ref a0), (1, .int w), (2, .int x), (3, .int (nI j))]) hx hb dX0_blow_34 hl (by decide) rfl (fun ls hl => ?_)
          refine lv_aload_n hx hb dX0_blow_36 rfl (lv_at hl 1 rfl) ?_
          refine va_get (D := (dC, dI)) (ci := 0) (v := .ref a1) (C := RX0) (T := TX0) (N := 8) hx hb hts hin_X0 hown hK hP 0 rfl rfl 1 (by decide) hw_4 (fun _ h9 => h9) rfl dX0_blow_37 ?_
          refine lv_iload_n hx hb dX0_blow_40 rfl (lv_at hl 4 rfl) ?_
          refine lv_dup2_11 hx hb dX0_blow_41 rfl rfl ?_
          refine ra_iald hx hb hK hP 1 rfl j rfl (by omega) (Nat.le_of_ble_eq_true rfl) dX0_blow_42 ?_
          refine lv_iload hx hb dX0_blow_43 (lv_at hl 0 rfl) ?_
          refine lv_isub hx hb dX0_blow_45 ?_
          refine ra_iast hx hb hK hP hD hS 1 rfl j rfl (by omega) (Nat.le_of_ble_eq_true rfl) dX0_blow_46 (fun H locs hP hD hS => ?_)
          have hP : va_P (dC, dI) vwCl [ob a0 0 [.int (nI n), .ref a1, .ref a2, .ref a3, .ref a4, .int vs, .int vb, .int vd], ai a1 cyI 7 (upd fh0 j ((fh0 j) - (jmin (fh0 j) (jmax 0 (w - (fg j)))))), ai a2 cyI 7 fg, ai a3 cyI 7 ff0, ai a4 cyI 7 fk0] H := hP
          have hD : va_D A [ob a0 0 [.int (nI n), .ref a1, .ref a2, .ref a3, .ref a4, .int vs, .int vb, .int vd], ai a1 cyI 7 (upd fh0 j ((fh0 j) - (jmin (fh0 j) (jmax 0 (w - (fg j)))))), ai a2 cyI 7 fg, ai a3 cyI 7 ff0, ai a4 cyI 7 fk0] := hD
          refine lv_iload_n hx hb dX0_blow_47 rfl (lv_at hl 4 rfl) ?_
          refine lv_iconst (v := 1) hx hb dX0_blow_48 (by decide) ?_
          refine lv_iadd hx hb dX0_blow_49 ?_
          refine ra_top (nI (j + 1)) (nI_add j 1) ?_
          refine lv_istore (lv' := [(5, .int (nI (j + 1))), (4, .int (jmin (fh0 j) (jmax 0 (w - (fg j))))), (0, .ref a0), (1, .int w), (2, .int x), (3, .int (nI j))]) hx hb dX0_blow_50 hl (by decide) rfl (fun ls hl => ?_)
          have L_52 : ∀ (n9 : Nat) (j2 : Nat) (fh1 : FN) (ff1 : FN) (fk1 : FN) (z : Int32), (j2 ≤ n) → (bIn phc fg (n - j2) j2 fh1 ff1 fk1 z = bIn phc fg (n - (j + 1)) (j + 1) (upd fh0 j (fh0 j - jmin (fh0 j) (psc w (fg j)))) ff0 fk0 (jmin (fh0 j) (psc w (fg j)))) → (n - j2) < n9 → ∀ (H : Heap) (locs : List Loc), va_P (dC, dI) vwCl [ob a0 0 [.int (nI n), .ref a1, .ref a2, .ref a3, .ref a4, .int vs, .int vb, .int vd], ai a1 cyI 7 fh1, ai a2 cyI 7 fg, ai a3 cyI 7 ff1, ai a4 cyI 7 fk1] H → va_D A [ob a0 0 [.int (nI n), .ref a1, .ref a2, .ref a3, .ref a4, .int vs, .int vb, .int vd], ai a1 cyI 7 fh1, ai a2 cyI 7 fg, ai a3 cyI 7 ff1, ai a4 cyI 7 fk1] → va_S A s.heap H locs → ∀ ls : Array Slot, lv_has ls 6 [(0, .ref a0), (1, .int w), (2, .int x), (3, .int (nI j)), (4, .int z), (5, .int (nI j2))] → W p l e (rm 2) s m args below meth c H locs 0 0 Q (F0 m 52 ls []) := by
            intro n9
            induction n9 with
            | zero =>
              intro j2 fh1 ff1 fk1 z hj2 he2 hm9
              exact absurd hm9 (Nat.not_lt_zero _)
            | succ n9 ih_52 =>
              intro j2 fh1 ff1 fk1 z hj2 he2 hm9 H locs hP hD hS ls hl
              refine lv_iload hx hb dX0_blow_52 (lv_at hl 5 rfl) ?_
              refine lv_aload_n hx hb dX0_blow_54 rfl (lv_at hl 0 rfl) ?_
              refine va_get (D := (dC, dI)) (ci := 0) (v := .int (nI n)) (C := RX0) (T := TX0) (N := 8) hx hb hts hin_X0 hown hK hP 0 rfl rfl 0 (by decide) hw_1 (fun _ h9 => h9) rfl dX0_blow_55 ?_
              refine lv_icmp_ge (tgt := 80) hx hb dX0_blow_58 (by decide) (fun c_58 => ?_) (fun c_58 => ?_)
              · ---- to 80
                have n_58 := (nq_le n j2 (by omega) (by omega)).mp c_58
                have he2 : (fh1, ff1, fk1, z) = bIn phc fg (n - (j + 1)) (j + 1) (upd fh0 j (fh0 j - jmin (fh0 j) (psc w (fg j)))) ff0 fk0 (jmin (fh0 j) (psc w (fg j))) := by rw [← he2, show n - j2 = 0 by omega]; rfl
                refine lv_iload_n hx hb dX0_blow_80 rfl (lv_at hl 2 rfl) ?_
                refine lv_iload hx hb dX0_blow_81 (lv_at hl 4 rfl) ?_
                refine lv_iadd hx hb dX0_blow_83 ?_
                refine lv_istore_n (lv' := [(2, .int (x + z)), (0, .ref a0), (1, .int w), (3, .int (nI j)), (4, .int z), (5, .int (nI j2))]) hx hb dX0_blow_84 rfl hl (by decide) rfl (fun ls hl => ?_)
                refine lv_iinc (v := nI j - 1) (lv' := [(3, .int (nI j - 1)), (2, .int (x + z)), (0, .ref a0), (1, .int w), (4, .int z), (5, .int (nI j2))]) hx hb dX0_blow_85 hl (k := 3) rfl (ra_dec _) (by decide) rfl (fun ls hl => ?_)
                refine lv_goto (tgt := 9) hx hb dX0_blow_88 (by decide) ?_
                exact ih_9 j fh1 ff1 fk1 (x + z) (by omega) (by rw [← he]; show _ = bOut phc psc n fg w j (bIn phc fg (n - (j + 1)) (j + 1) (upd fh0 j (fh0 j - jmin (fh0 j) (psc w (fg j)))) ff0 fk0 (jmin (fh0 j) (psc w (fg j)))).1 (bIn phc fg (n - (j + 1)) (j + 1) (upd fh0 j (fh0 j - jmin (fh0 j) (psc w (fg j)))) ff0 fk0 (jmin (fh0 j) (psc w (fg j)))).2.1 (bIn phc fg (n - (j + 1)) (j + 1) (upd fh0 j (fh0 j - jmin (fh0 j) (psc w (fg j)))) ff0 fk0 (jmin (fh0 j) (psc w (fg j)))).2.2.1 (x + (bIn phc fg (n - (j + 1)) (j + 1) (upd fh0 j (fh0 j - jmin (fh0 j) (psc w (fg j)))) ff0 fk0 (jmin (fh0 j) (psc w (fg j)))).2.2.2); rw [← he2]) (by omega) H locs hP hD hS ls (lv_sub hl [2, 3, 1, 0] rfl)
              · ---- on
                have n_58 := (nq_le_n n j2 (by omega) (by omega)).mp c_58
                refine lv_iload hx hb dX0_blow_61 (lv_at hl 4 rfl) ?_
                refine lv_aload_n hx hb dX0_blow_63 rfl (lv_at hl 0 rfl) ?_
                refine lv_iload hx hb dX0_blow_64 (lv_at hl 5 rfl) ?_
                refine lv_iload hx hb dX0_blow_66 (lv_at hl 4 rfl) ?_
                refine ra_cI (q := (RX0, TX0, 8)) (ci := 0) (As := [.int (nI j2), .int z]) (rest := [.int z]) (wc := [ob a0 0 [.int (nI n), .ref a1, .ref a2, .ref a3, .ref a4, .int vs, .int vb, .int vd], ai a1 cyI 7 fh1, ai a2 cyI 7 fg, ai a3 cyI 7 ff1, ai a4 cyI 7 fk1]) (wr := []) ⟨hx, hb, hml, hown, hts⟩ (c_X0_hold l dC dI cyI cyA a0 a1 a2 a3 a4 n fh1 fg ff1 fk1 vs vb vd j2 z (by omega) H.size) (cwV 2 hts gX0_blow_X0_hold rfl rfl rfl (by decide +kernel) ⟨Nat.le_of_ble_eq_true rfl, Nat.le_of_ble_eq_true rfl⟩) hK hN hP hD hA hS [0, 1, 2, 3, 4] [] rfl rfl (by decide) (by decide) (by decide) rfl rfl rfl hl.1 rfl (Nat.le_of_ble_eq_true rfl) dX0_blow_68 ⟨Nat.le_of_ble_eq_true rfl, Nat.le_of_ble_eq_true rfl⟩ (fun r_1 u_1 hw_c1 H locs hP hD hS => ?_)
                subst hw_c1
                have hP : va_P (dC, dI) vwCl [ob a0 0 [.int (nI n), .ref a1, .ref a2, .ref a3, .ref a4, .int vs, .int vb, .int vd], ai a1 cyI 7 (upd fh1 j2 (fh1 j2 + heldv fh1 fg ff1 j2 z)), ai a2 cyI 7 fg, ai a3 cyI 7 (upd ff1 j2 (ff1 j2 - phc (heldv fh1 fg ff1 j2 z) (1 + 2 * fg j2))), ai a4 cyI 7 (upd fk1 j2 (fk1 j2 + heldv fh1 fg ff1 j2 z))] H := hP
                have hD : va_D A [ob a0 0 [.int (nI n), .ref a1, .ref a2, .ref a3, .ref a4, .int vs, .int vb, .int vd], ai a1 cyI 7 (upd fh1 j2 (fh1 j2 + heldv fh1 fg ff1 j2 z)), ai a2 cyI 7 fg, ai a3 cyI 7 (upd ff1 j2 (ff1 j2 - phc (heldv fh1 fg ff1 j2 z) (1 + 2 * fg j2))), ai a4 cyI 7 (upd fk1 j2 (fk1 j2 + heldv fh1 fg ff1 j2 z))] := hD
                refine lv_isub hx hb dX0_blow_71 ?_
                refine lv_istore (lv' := [(4, .int (z - (heldv fh1 fg ff1 j2 z))), (0, .ref a0), (1, .int w), (2, .int x), (3, .int (nI j)), (5, .int (nI j2))]) hx hb dX0_blow_72 hl (by decide) rfl (fun ls hl => ?_)
                refine lv_iinc (v := nI (j2 + 1)) (lv' := [(5, .int (nI (j2 + 1))), (4, .int (z - (heldv fh1 fg ff1 j2 z))), (0, .ref a0), (1, .int w), (2, .int x), (3, .int (nI j))]) hx hb dX0_blow_74 hl (k := 5) rfl (ra_inc1 _) (by decide) rfl (fun ls hl => ?_)
                refine lv_goto (tgt := 52) hx hb dX0_blow_77 (by decide) ?_
                exact ih_52 (j2 + 1) (upd fh1 j2 (fh1 j2 + heldv fh1 fg ff1 j2 z)) (upd ff1 j2 (ff1 j2 - phc (heldv fh1 fg ff1 j2 z) (1 + 2 * fg j2))) (upd fk1 j2 (fk1 j2 + heldv fh1 fg ff1 j2 z)) (z - (heldv fh1 fg ff1 j2 z)) (by omega) (by rw [← he2, show n - j2 = n - (j2 + 1) + 1 by omega]; rfl) (by omega) H locs hP hD hS ls (lv_sub hl [2, 3, 4, 5, 1, 0] rfl)
          exact L_52 _ (j + 1) (upd fh0 j ((fh0 j) - (jmin (fh0 j) (jmax 0 (w - (fg j)))))) ff0 fk0 (jmin (fh0 j) (jmax 0 (w - (fg j)))) (by omega) rfl (Nat.lt_succ_self _) H locs hP hD hS ls (lv_sub hl [2, 3, 4, 5, 1, 0] rfl)
  exact L_9 _ n fh ff fk 0 (Nat.le_refl _) rfl (Nat.lt_succ_self _) H locs hP hD hS ls (lv_sub hl [2, 3, 1, 0] rfl)

set_option maxHeartbeats 4000000 in
set_option maxRecDepth 100000 in
theorem c_X0_greatestHeight (l : Launch) (dC : Nat → ClassId) (dI : Nat → Nat → Nat) (cyI cyA : ClassId) (a0 a1 a2 a3 a4 n : Nat) (fh fg ff fk : FN) (vs vb vd : Int32) (hn : n ≤ 7) : Met l yX0_greatestHeight wsX0_greatestHeight (rm 1) (kR dC dI cyI cyA [.ref a0] [ob a0 0 [.int (nI n), .ref a1, .ref a2, .ref a3, .ref a4, .int vs, .int vb, .int vd], ai a1 cyI 7 fh, ai a2 cyI 7 fg, ai a3 cyI 7 ff, ai a4 cyI 7 fk]) (QcRead (gMax fh n 0 0)) 0 0 (fun _ => False) := by
  refine ra_metR (cc := cX0_greatestHeight) (maxL := 3) (by decide) rfl (Nat.le_of_ble_eq_true rfl) ?_
  intro p e s m below meth c args Q hQ hx hb hr hlocks hml hts hown hK hN hP ls hl
  have hl : lv_has ls 3 [(0, .ref a0)] := hl
  have hown : s.vm.findClass RX0 = some m.cls := hown
  have hw_1 := hts (.fieldLink RX0 28 "DuneBench$Coast" "cells" "I") (by decide +kernel)
  have hin_X0 : ∀ w ∈ u_ws RX0 TX0 8, w ∈ wsX0_greatestHeight := by decide +kernel
  have hw_3 := hts (.fieldLink RX0 9 "DuneBench$Coast" "height" "[I") (by decide +kernel)
  have hw_4 := hts (.methodLink RX0 41 Lib.Math.max.name) (by decide +kernel)
  have hw_5 := hts (.static Lib.Math.max.name) (by decide +kernel)
  have hw_6 := hts (.initialized "java/lang/Math") (by decide +kernel)
  have hw_7 := hts (.code Lib.Math.max.name Lib.Math.max.code 2 (some .int)) (by decide +kernel)
  refine lv_iconst (v := 0) hx hb dX0_greatestHeight_0 (by decide) ?_
  refine lv_istore_n (lv' := [(1, .int 0), (0, .ref a0)]) hx hb dX0_greatestHeight_1 rfl hl (by decide) rfl (fun ls hl => ?_)
  refine lv_iconst (v := 0) hx hb dX0_greatestHeight_2 (by decide) ?_
  refine lv_istore_n (lv' := [(2, .int 0), (1, .int 0), (0, .ref a0)]) hx hb dX0_greatestHeight_3 rfl hl (by decide) rfl (fun ls hl => ?_)
  have L_4 : ∀ (n9 : Nat) (i : Nat) (x : Int32), (i ≤ n) → (gMax fh (n - i) i x = gMax fh n 0 0) → (n - i) < n9 → ∀ ls : Array Slot, lv_has ls 3 [(0, .ref a0), (1, .int x), (2, .int (nI i))] → W p l e (rm 1) s m args below meth c s.heap [] 0 0 Q (F0 m 4 ls []) := by
    intro n9
    induction n9 with
    | zero =>
      intro i x hi he hm9
      exact absurd hm9 (Nat.not_lt_zero _)
    | succ n9 ih_4 =>
      intro i x hi he hm9 ls hl
      refine lv_iload_n hx hb dX0_greatestHeight_4 rfl (lv_at hl 2 rfl) ?_
      refine lv_aload_n hx hb dX0_greatestHeight_5 rfl (lv_at hl 0 rfl) ?_
      refine va_get (D := (dC, dI)) (ci := 0) (v := .int (nI n)) (C := RX0) (T := TX0) (N := 8) hx hb hts hin_X0 hown hK hP 0 rfl rfl 0 (by decide) hw_1 (fun _ h9 => h9) rfl dX0_greatestHeight_6 ?_
      refine lv_icmp_ge (tgt := 29) hx hb dX0_greatestHeight_9 (by decide) (fun c_9 => ?_) (fun c_9 => ?_)
      · ---- to 29
        have n_9 := (nq_le n i (by omega) (by omega)).mp c_9
        refine lv_iload_n hx hb dX0_greatestHeight_29 rfl (lv_at hl 1 rfl) ?_
        rw [hQ]
        exact ra_iretR hx hb hr hlocks rfl (by rw [← he, show n - i = 0 by omega]; rfl) dX0_greatestHeight_30
      · ---- on
        have n_9 := (nq_le_n n i (by omega) (by omega)).mp c_9
        refine lv_iload_n hx hb dX0_greatestHeight_12 rfl (lv_at hl 1 rfl) ?_
        refine lv_aload_n hx hb dX0_greatestHeight_13 rfl (lv_at hl 0 rfl) ?_
        refine va_get (D := (dC, dI)) (ci := 0) (v := .ref a1) (C := RX0) (T := TX0) (N := 8) hx hb hts hin_X0 hown hK hP 0 rfl rfl 1 (by decide) hw_3 (fun _ h9 => h9) rfl dX0_greatestHeight_14 ?_
        refine lv_iload_n hx hb dX0_greatestHeight_17 rfl (lv_at hl 2 rfl) ?_
        refine ra_iald hx hb hK hP 1 rfl i rfl (by omega) (Nat.le_of_ble_eq_true rfl) dX0_greatestHeight_18 ?_
        refine va_mmax hx hb (hml.trans hl.1.symm) hown hw_4 hw_5 hw_6 hw_7 (Nat.le_of_ble_eq_true rfl) (Nat.le_of_ble_eq_true rfl) (Nat.le_of_ble_eq_true rfl) (Nat.le_of_ble_eq_true rfl) dX0_greatestHeight_19 ?_
        refine ra_top (jmax x (fh i)) rfl ?_
        refine lv_istore_n (lv' := [(1, .int (jmax x (fh i))), (0, .ref a0), (2, .int (nI i))]) hx hb dX0_greatestHeight_22 rfl hl (by decide) rfl (fun ls hl => ?_)
        refine lv_iinc (v := nI (i + 1)) (lv' := [(2, .int (nI (i + 1))), (1, .int (jmax x (fh i))), (0, .ref a0)]) hx hb dX0_greatestHeight_23 hl (k := 2) rfl (ra_inc1 _) (by decide) rfl (fun ls hl => ?_)
        refine lv_goto (tgt := 4) hx hb dX0_greatestHeight_26 (by decide) ?_
        exact ih_4 (i + 1) (jmax x (fh i)) (by omega) (by rw [← he, show n - i = n - (i + 1) + 1 by omega]; rfl) (by omega) ls (lv_sub hl [2, 1, 0] rfl)
  exact L_4 _ 0 0 (by omega) rfl (Nat.lt_succ_self _) ls (lv_sub hl [2, 1, 0] rfl)
end
section
set_option maxHeartbeats 4000000 in
set_option maxRecDepth 100000 in
theorem c_X0_washOut (l : Launch) (dC : Nat → ClassId) (dI : Nat → Nat → Nat) (cyI cyA : ClassId) (a0 a1 a2 a3 a4 n : Nat) (fh fg ff fk : FN) (vs vb vd : Int32) (j : Nat) (x : Int32) (hj : j < 7) (sz : Nat) : Met l yX0_washOut wsX0_washOut (rm 0) (kW dC dI cyI cyA [.ref a0, .int (nI j), .int x] sz [ob a0 0 [.int (nI n), .ref a1, .ref a2, .ref a3, .ref a4, .int vs, .int vb, .int vd], ai a1 cyI 7 fh, ai a2 cyI 7 fg, ai a3 cyI 7 ff, ai a4 cyI 7 fk]) (qV dC dI cyI cyA (fun (_ : Unit) => True) (va_A [ob a0 0 [.int (nI n), .ref a1, .ref a2, .ref a3, .ref a4, .int vs, .int vb, .int vd], ai a1 cyI 7 fh, ai a2 cyI 7 fg, ai a3 cyI 7 ff, ai a4 cyI 7 fk] sz) (fun _ => [ob a0 0 [.int (nI n), .ref a1, .ref a2, .ref a3, .ref a4, .int (vs + x), .int vb, .int vd], ai a1 cyI 7 (upd fh j (fh j - x)), ai a2 cyI 7 fg, ai a3 cyI 7 ff, ai a4 cyI 7 fk])) 0 0 (va_A [ob a0 0 [.int (nI n), .ref a1, .ref a2, .ref a3, .ref a4, .int vs, .int vb, .int vd], ai a1 cyI 7 fh, ai a2 cyI 7 fg, ai a3 cyI 7 ff, ai a4 cyI 7 fk] sz) := by
  refine ra_metW (cc := cX0_washOut) (maxL := 3) (Qc := fun A => qV dC dI cyI cyA (fun (_ : Unit) => True) A (fun _ => [ob a0 0 [.int (nI n), .ref a1, .ref a2, .ref a3, .ref a4, .int (vs + x), .int vb, .int vd], ai a1 cyI 7 (upd fh j (fh j - x)), ai a2 cyI 7 fg, ai a3 cyI 7 ff, ai a4 cyI 7 fk])) (by decide) rfl (Nat.le_of_ble_eq_true rfl) ?_
  intro p e s m below meth c A args Q hQ hx hb hr hlocks hml hts hown hnm hK hN hP hD hA hS ls hl
  have hl : lv_has ls 3 [(0, .ref a0), (1, .int (nI j)), (2, .int x)] := hl
  have hown : s.vm.findClass RX0 = some m.cls := hown
  have hw_1 := hts (.fieldLink RX0 9 "DuneBench$Coast" "height" "[I") (by decide +kernel)
  have hin_X0 : ∀ w ∈ u_ws RX0 TX0 8, w ∈ wsX0_washOut := by decide +kernel
  have hw_3 := hts (.fieldLink RX0 32 "DuneBench$Coast" "sea" "I") (by decide +kernel)
  obtain ⟨H, hHe⟩ : ∃ H, H = s.heap := ⟨_, rfl⟩
  obtain ⟨locs, hLe⟩ : ∃ locs : List Loc, locs = [] := ⟨_, rfl⟩
  have hP : va_P (dC, dI) vwCl [ob a0 0 [.int (nI n), .ref a1, .ref a2, .ref a3, .ref a4, .int vs, .int vb, .int vd], ai a1 cyI 7 fh, ai a2 cyI 7 fg, ai a3 cyI 7 ff, ai a4 cyI 7 fk] H := by rw [hHe]; exact hP
  have hS : va_S A s.heap H locs := by rw [hHe, hLe]; exact hS
  suffices hgo : W p l e (rm 0) s m args below meth c H locs 0 0 Q (F0 m 0 ls []) by rw [hHe, hLe] at hgo; exact hgo
  refine lv_aload_n hx hb dX0_washOut_0 rfl (lv_at hl 0 rfl) ?_
  refine va_get (D := (dC, dI)) (ci := 0) (v := .ref a1) (C := RX0) (T := TX0) (N := 8) hx hb hts hin_X0 hown hK hP 0 rfl rfl 1 (by decide) hw_1 (fun _ h9 => h9) rfl dX0_washOut_1 ?_
  refine lv_iload_n hx hb dX0_washOut_4 rfl (lv_at hl 1 rfl) ?_
  refine lv_dup2_11 hx hb dX0_washOut_5 rfl rfl ?_
  refine ra_iald hx hb hK hP 1 rfl j rfl (by omega) (Nat.le_of_ble_eq_true rfl) dX0_washOut_6 ?_
  refine lv_iload_n hx hb dX0_washOut_7 rfl (lv_at hl 2 rfl) ?_
  refine lv_isub hx hb dX0_washOut_8 ?_
  refine ra_iast hx hb hK hP hD hS 1 rfl j rfl (by omega) (Nat.le_of_ble_eq_true rfl) dX0_washOut_9 (fun H locs hP hD hS => ?_)
  have hP : va_P (dC, dI) vwCl [ob a0 0 [.int (nI n), .ref a1, .ref a2, .ref a3, .ref a4, .int vs, .int vb, .int vd], ai a1 cyI 7 (upd fh j ((fh j) - x)), ai a2 cyI 7 fg, ai a3 cyI 7 ff, ai a4 cyI 7 fk] H := hP
  have hD : va_D A [ob a0 0 [.int (nI n), .ref a1, .ref a2, .ref a3, .ref a4, .int vs, .int vb, .int vd], ai a1 cyI 7 (upd fh j ((fh j) - x)), ai a2 cyI 7 fg, ai a3 cyI 7 ff, ai a4 cyI 7 fk] := hD
  refine lv_aload_n hx hb dX0_washOut_10 rfl (lv_at hl 0 rfl) ?_
  refine lv_dup hx hb dX0_washOut_11 rfl ?_
  refine va_get (D := (dC, dI)) (ci := 0) (v := .int vs) (C := RX0) (T := TX0) (N := 8) hx hb hts hin_X0 hown hK hP 0 rfl rfl 5 (by decide) hw_3 (fun _ h9 => h9) rfl dX0_washOut_12 ?_
  refine lv_iload_n hx hb dX0_washOut_15 rfl (lv_at hl 2 rfl) ?_
  refine lv_iadd hx hb dX0_washOut_16 ?_
  refine va_put (D := (dC, dI)) (ci := 0) (v := .int (vs + x)) (ty := .int) (C := RX0) (T := TX0) (N := 8) hx hb hts hin_X0 tyX0 tyX0_ok nmX0 hown hK hP hD hS 0 rfl rfl 5 (by decide) hw_3 (fun _ h9 => h9) rfl (by decide +kernel) rfl rfl (Nat.le_of_ble_eq_true rfl) dX0_washOut_17 (fun H locs hP hD hS => ?_)
  have hP : va_P (dC, dI) vwCl [ob a0 0 [.int (nI n), .ref a1, .ref a2, .ref a3, .ref a4, .int (vs + x), .int vb, .int vd], ai a1 cyI 7 (upd fh j ((fh j) - x)), ai a2 cyI 7 fg, ai a3 cyI 7 ff, ai a4 cyI 7 fk] H := hP
  have hD : va_D A [ob a0 0 [.int (nI n), .ref a1, .ref a2, .ref a3, .ref a4, .int (vs + x), .int vb, .int vd], ai a1 cyI 7 (upd fh j ((fh j) - x)), ai a2 cyI 7 fg, ai a3 cyI 7 ff, ai a4 cyI 7 fk] := hD
  rw [hQ]
  exact ra_vretW () hx hb hr hlocks hK hP hD hS trivial dX0_washOut_20

set_option maxHeartbeats 4000000 in
set_option maxRecDepth 100000 in
theorem c_X0_surge (l : Launch) (dC : Nat → ClassId) (dI : Nat → Nat → Nat) (cyI cyA : ClassId) (a0 a1 a2 a3 a4 n : Nat) (fh fg ff fk : FN) (vs vb vd : Int32) (w : Int32) (hn : n ≤ 7) (sz : Nat) : Met l yX0_surge wsX0_surge (rm 1) (kW dC dI cyI cyA [.ref a0, .int w] sz [ob a0 0 [.int (nI n), .ref a1, .ref a2, .ref a3, .ref a4, .int vs, .int vb, .int vd], ai a1 cyI 7 fh, ai a2 cyI 7 fg, ai a3 cyI 7 ff, ai a4 cyI 7 fk]) (qI dC dI cyI cyA (fun (r : Int32) (_ : Unit) => r = (srg w n 0 fh fg ff vs vd).1) (va_A [ob a0 0 [.int (nI n), .ref a1, .ref a2, .ref a3, .ref a4, .int vs, .int vb, .int vd], ai a1 cyI 7 fh, ai a2 cyI 7 fg, ai a3 cyI 7 ff, ai a4 cyI 7 fk] sz) (fun _ => [ob a0 0 [.int (nI n), .ref a1, .ref a2, .ref a3, .ref a4, .int ((srg w n 0 fh fg ff vs vd).2.2.2.2.1), .int vb, .int ((srg w n 0 fh fg ff vs vd).2.2.2.2.2)], ai a1 cyI 7 ((srg w n 0 fh fg ff vs vd).2.1), ai a2 cyI 7 ((srg w n 0 fh fg ff vs vd).2.2.1), ai a3 cyI 7 ((srg w n 0 fh fg ff vs vd).2.2.2.1), ai a4 cyI 7 fk])) 0 0 (va_A [ob a0 0 [.int (nI n), .ref a1, .ref a2, .ref a3, .ref a4, .int vs, .int vb, .int vd], ai a1 cyI 7 fh, ai a2 cyI 7 fg, ai a3 cyI 7 ff, ai a4 cyI 7 fk] sz) := by
  refine ra_metW (cc := cX0_surge) (maxL := 3) (Qc := fun A => qI dC dI cyI cyA (fun (r : Int32) (_ : Unit) => r = (srg w n 0 fh fg ff vs vd).1) A (fun _ => [ob a0 0 [.int (nI n), .ref a1, .ref a2, .ref a3, .ref a4, .int ((srg w n 0 fh fg ff vs vd).2.2.2.2.1), .int vb, .int ((srg w n 0 fh fg ff vs vd).2.2.2.2.2)], ai a1 cyI 7 ((srg w n 0 fh fg ff vs vd).2.1), ai a2 cyI 7 ((srg w n 0 fh fg ff vs vd).2.2.1), ai a3 cyI 7 ((srg w n 0 fh fg ff vs vd).2.2.2.1), ai a4 cyI 7 fk])) (by decide) rfl (Nat.le_of_ble_eq_true rfl) ?_
  intro p e s m below meth c A args Q hQ hx hb hr hlocks hml hts hown hnm hK hN hP hD hA hS ls hl
  have hl : lv_has ls 3 [(0, .ref a0), (1, .int w)] := hl
  have hown : s.vm.findClass RX0 = some m.cls := hown
  have hw_1 := hts (.fieldLink RX0 28 "DuneBench$Coast" "cells" "I") (by decide +kernel)
  have hin_X0 : ∀ w ∈ u_ws RX0 TX0 8, w ∈ wsX0_surge := by decide +kernel
  have hw_3 := hts (.fieldLink RX0 38 "DuneBench$Coast" "flooded" "I") (by decide +kernel)
  have hw_4 := hts (.fieldLink RX0 9 "DuneBench$Coast" "height" "[I") (by decide +kernel)
  have hw_5 := hts (.fieldLink RX0 15 "DuneBench$Coast" "grass" "[I") (by decide +kernel)
  have hw_6 := hts (.fieldLink RX0 18 "DuneBench$Coast" "fence" "[I") (by decide +kernel)
  obtain ⟨H, hHe⟩ : ∃ H, H = s.heap := ⟨_, rfl⟩
  obtain ⟨locs, hLe⟩ : ∃ locs : List Loc, locs = [] := ⟨_, rfl⟩
  have hP : va_P (dC, dI) vwCl [ob a0 0 [.int (nI n), .ref a1, .ref a2, .ref a3, .ref a4, .int vs, .int vb, .int vd], ai a1 cyI 7 fh, ai a2 cyI 7 fg, ai a3 cyI 7 ff, ai a4 cyI 7 fk] H := by rw [hHe]; exact hP
  have hS : va_S A s.heap H locs := by rw [hHe, hLe]; exact hS
  suffices hgo : W p l e (rm 1) s m args below meth c H locs 0 0 Q (F0 m 0 ls []) by rw [hHe, hLe] at hgo; exact hgo
  refine lv_iconst (v := 0) hx hb dX0_surge_0 (by decide) ?_
  refine lv_istore_n (lv' := [(2, .int 0), (0, .ref a0), (1, .int w)]) hx hb dX0_surge_1 rfl hl (by decide) rfl (fun ls hl => ?_)
  have L_2 : ∀ (n9 : Nat) (i : Nat) (fh0 : FN) (fg0 : FN) (ff0 : FN) (vs0 : Int32), (i ≤ n) → (srg w (n - i) i fh0 fg0 ff0 vs0 vd = srg w n 0 fh fg ff vs vd) → (n - i) < n9 → ∀ (H : Heap) (locs : List Loc), va_P (dC, dI) vwCl [ob a0 0 [.int (nI n), .ref a1, .ref a2, .ref a3, .ref a4, .int vs0, .int vb, .int vd], ai a1 cyI 7 fh0, ai a2 cyI 7 fg0, ai a3 cyI 7 ff0, ai a4 cyI 7 fk] H → va_D A [ob a0 0 [.int (nI n), .ref a1, .ref a2, .ref a3, .ref a4, .int vs0, .int vb, .int vd], ai a1 cyI 7 fh0, ai a2 cyI 7 fg0, ai a3 cyI 7 ff0, ai a4 cyI 7 fk] → va_S A s.heap H locs → ∀ ls : Array Slot, lv_has ls 3 [(0, .ref a0), (1, .int w), (2, .int (nI i))] → W p l e (rm 1) s m args below meth c H locs 0 0 Q (F0 m 2 ls []) := by
    intro n9
    induction n9 with
    | zero =>
      intro i fh0 fg0 ff0 vs0 hi he hm9
      exact absurd hm9 (Nat.not_lt_zero _)
    | succ n9 ih_2 =>
      intro i fh0 fg0 ff0 vs0 hi he hm9 H locs hP hD hS ls hl
      refine lv_iload_n hx hb dX0_surge_2 rfl (lv_at hl 2 rfl) ?_
      refine lv_aload_n hx hb dX0_surge_3 rfl (lv_at hl 0 rfl) ?_
      refine va_get (D := (dC, dI)) (ci := 0) (v := .int (nI n)) (C := RX0) (T := TX0) (N := 8) hx hb hts hin_X0 hown hK hP 0 rfl rfl 0 (by decide) hw_1 (fun _ h9 => h9) rfl dX0_surge_4 ?_
      refine lv_icmp_ge (tgt := 63) hx hb dX0_surge_7 (by decide) (fun c_7 => ?_) (fun c_7 => ?_)
      · ---- to 63
        have n_7 := (nq_le n i (by omega) (by omega)).mp c_7
        have he : (nI n, fh0, fg0, ff0, vs0, vd + 1) = srg w n 0 fh fg ff vs vd := by rw [← he, show n - i = 0 by omega, show i = n by omega]; rfl
        refine lv_aload_n hx hb dX0_surge_63 rfl (lv_at hl 0 rfl) ?_
        refine lv_dup hx hb dX0_surge_64 rfl ?_
        refine va_get (D := (dC, dI)) (ci := 0) (v := .int vd) (C := RX0) (T := TX0) (N := 8) hx hb hts hin_X0 hown hK hP 0 rfl rfl 7 (by decide) hw_3 (fun _ h9 => h9) rfl dX0_surge_65 ?_
        refine lv_iconst (v := 1) hx hb dX0_surge_68 (by decide) ?_
        refine lv_iadd hx hb dX0_surge_69 ?_
        refine va_put (D := (dC, dI)) (ci := 0) (v := .int (vd + 1)) (ty := .int) (C := RX0) (T := TX0) (N := 8) hx hb hts hin_X0 tyX0 tyX0_ok nmX0 hown hK hP hD hS 0 rfl rfl 7 (by decide) hw_3 (fun _ h9 => h9) rfl (by decide +kernel) rfl rfl (Nat.le_of_ble_eq_true rfl) dX0_surge_70 (fun H locs hP hD hS => ?_)
        have hP : va_P (dC, dI) vwCl [ob a0 0 [.int (nI n), .ref a1, .ref a2, .ref a3, .ref a4, .int vs0, .int vb, .int (vd + 1)], ai a1 cyI 7 fh0, ai a2 cyI 7 fg0, ai a3 cyI 7 ff0, ai a4 cyI 7 fk] H := hP
        have hD : va_D A [ob a0 0 [.int (nI n), .ref a1, .ref a2, .ref a3, .ref a4, .int vs0, .int vb, .int (vd + 1)], ai a1 cyI 7 fh0, ai a2 cyI 7 fg0, ai a3 cyI 7 ff0, ai a4 cyI 7 fk] := hD
        refine lv_aload_n hx hb dX0_surge_73 rfl (lv_at hl 0 rfl) ?_
        refine va_get (D := (dC, dI)) (ci := 0) (v := .int (nI n)) (C := RX0) (T := TX0) (N := 8) hx hb hts hin_X0 hown hK hP 0 rfl rfl 0 (by decide) hw_1 (fun _ h9 => h9) rfl dX0_surge_74 ?_
        rw [hQ]
        rw [← he]
        exact ra_iretW () hx hb hr hlocks rfl hK hP hD hS rfl dX0_surge_77
      · ---- on
        have n_7 := (nq_le_n n i (by omega) (by omega)).mp c_7
        refine lv_aload_n hx hb dX0_surge_10 rfl (lv_at hl 0 rfl) ?_
        refine va_get (D := (dC, dI)) (ci := 0) (v := .ref a1) (C := RX0) (T := TX0) (N := 8) hx hb hts hin_X0 hown hK hP 0 rfl rfl 1 (by decide) hw_4 (fun _ h9 => h9) rfl dX0_surge_11 ?_
        refine lv_iload_n hx hb dX0_surge_14 rfl (lv_at hl 2 rfl) ?_
        refine ra_iald hx hb hK hP 1 rfl i rfl (by omega) (Nat.le_of_ble_eq_true rfl) dX0_surge_15 ?_
        refine lv_iload_n hx hb dX0_surge_16 rfl (lv_at hl 1 rfl) ?_
        refine lv_icmp_lt (tgt := 30) hx hb dX0_surge_17 (by decide) (fun c_17 => ?_) (fun c_17 => ?_)
        · ---- to 30
          refine lv_aload_n hx hb dX0_surge_30 rfl (lv_at hl 0 rfl) ?_
          refine lv_iload_n hx hb dX0_surge_31 rfl (lv_at hl 2 rfl) ?_
          refine lv_aload_n hx hb dX0_surge_32 rfl (lv_at hl 0 rfl) ?_
          refine va_get (D := (dC, dI)) (ci := 0) (v := .ref a1) (C := RX0) (T := TX0) (N := 8) hx hb hts hin_X0 hown hK hP 0 rfl rfl 1 (by decide) hw_4 (fun _ h9 => h9) rfl dX0_surge_33 ?_
          refine lv_iload_n hx hb dX0_surge_36 rfl (lv_at hl 2 rfl) ?_
          refine ra_iald hx hb hK hP 1 rfl i rfl (by omega) (Nat.le_of_ble_eq_true rfl) dX0_surge_37 ?_
          refine lv_iconst (v := 2) hx hb dX0_surge_38 (by decide) ?_
          refine lv_idiv hx hb dX0_surge_39 (by decide) ?_
          refine ra_cV (q := (RX0, TX0, 8)) (ci := 0) (As := [.int (nI i), .int ((fh0 i) / 2)]) (rest := []) (wc := [ob a0 0 [.int (nI n), .ref a1, .ref a2, .ref a3, .ref a4, .int vs0, .int vb, .int vd], ai a1 cyI 7 fh0, ai a2 cyI 7 fg0, ai a3 cyI 7 ff0, ai a4 cyI 7 fk]) (wr := []) ⟨hx, hb, hml, hown, hts⟩ (c_X0_washOut l dC dI cyI cyA a0 a1 a2 a3 a4 n fh0 fg0 ff0 fk vs0 vb vd i ((fh0 i) / 2) (by omega) H.size) (cwV 2 hts gX0_surge_X0_washOut rfl rfl rfl (by decide +kernel) ⟨Nat.le_of_ble_eq_true rfl, Nat.le_of_ble_eq_true rfl⟩) hK hN hP hD hA hS [0, 1, 2, 3, 4] [] rfl rfl (by decide) (by decide) (by decide) rfl rfl rfl hl.1 rfl (Nat.le_of_ble_eq_true rfl) dX0_surge_40 ⟨Nat.le_of_ble_eq_true rfl, Nat.le_of_ble_eq_true rfl⟩ (fun u_1 hw_c1 H locs hP hD hS => ?_)
          have hP : va_P (dC, dI) vwCl [ob a0 0 [.int (nI n), .ref a1, .ref a2, .ref a3, .ref a4, .int (vs0 + ((fh0 i) / 2)), .int vb, .int vd], ai a1 cyI 7 (upd fh0 i (fh0 i - ((fh0 i) / 2))), ai a2 cyI 7 fg0, ai a3 cyI 7 ff0, ai a4 cyI 7 fk] H := hP
          have hD : va_D A [ob a0 0 [.int (nI n), .ref a1, .ref a2, .ref a3, .ref a4, .int (vs0 + ((fh0 i) / 2)), .int vb, .int vd], ai a1 cyI 7 (upd fh0 i (fh0 i - ((fh0 i) / 2))), ai a2 cyI 7 fg0, ai a3 cyI 7 ff0, ai a4 cyI 7 fk] := hD
          refine lv_aload_n hx hb dX0_surge_43 rfl (lv_at hl 0 rfl) ?_
          refine va_get (D := (dC, dI)) (ci := 0) (v := .ref a2) (C := RX0) (T := TX0) (N := 8) hx hb hts hin_X0 hown hK hP 0 rfl rfl 2 (by decide) hw_5 (fun _ h9 => h9) rfl dX0_surge_44 ?_
          refine lv_iload_n hx hb dX0_surge_47 rfl (lv_at hl 2 rfl) ?_
          refine lv_iconst (v := 0) hx hb dX0_surge_48 (by decide) ?_
          refine ra_iast hx hb hK hP hD hS 2 rfl i rfl (by omega) (Nat.le_of_ble_eq_true rfl) dX0_surge_49 (fun H locs hP hD hS => ?_)
          have hP : va_P (dC, dI) vwCl [ob a0 0 [.int (nI n), .ref a1, .ref a2, .ref a3, .ref a4, .int (vs0 + ((fh0 i) / 2)), .int vb, .int vd], ai a1 cyI 7 (upd fh0 i (fh0 i - ((fh0 i) / 2))), ai a2 cyI 7 (upd fg0 i 0), ai a3 cyI 7 ff0, ai a4 cyI 7 fk] H := hP
          have hD : va_D A [ob a0 0 [.int (nI n), .ref a1, .ref a2, .ref a3, .ref a4, .int (vs0 + ((fh0 i) / 2)), .int vb, .int vd], ai a1 cyI 7 (upd fh0 i (fh0 i - ((fh0 i) / 2))), ai a2 cyI 7 (upd fg0 i 0), ai a3 cyI 7 ff0, ai a4 cyI 7 fk] := hD
          refine lv_aload_n hx hb dX0_surge_50 rfl (lv_at hl 0 rfl) ?_
          refine va_get (D := (dC, dI)) (ci := 0) (v := .ref a3) (C := RX0) (T := TX0) (N := 8) hx hb hts hin_X0 hown hK hP 0 rfl rfl 3 (by decide) hw_6 (fun _ h9 => h9) rfl dX0_surge_51 ?_
          refine lv_iload_n hx hb dX0_surge_54 rfl (lv_at hl 2 rfl) ?_
          refine lv_iconst (v := 0) hx hb dX0_surge_55 (by decide) ?_
          refine ra_iast hx hb hK hP hD hS 3 rfl i rfl (by omega) (Nat.le_of_ble_eq_true rfl) dX0_surge_56 (fun H locs hP hD hS => ?_)
          have hP : va_P (dC, dI) vwCl [ob a0 0 [.int (nI n), .ref a1, .ref a2, .ref a3, .ref a4, .int (vs0 + ((fh0 i) / 2)), .int vb, .int vd], ai a1 cyI 7 (upd fh0 i (fh0 i - ((fh0 i) / 2))), ai a2 cyI 7 (upd fg0 i 0), ai a3 cyI 7 (upd ff0 i 0), ai a4 cyI 7 fk] H := hP
          have hD : va_D A [ob a0 0 [.int (nI n), .ref a1, .ref a2, .ref a3, .ref a4, .int (vs0 + ((fh0 i) / 2)), .int vb, .int vd], ai a1 cyI 7 (upd fh0 i (fh0 i - ((fh0 i) / 2))), ai a2 cyI 7 (upd fg0 i 0), ai a3 cyI 7 (upd ff0 i 0), ai a4 cyI 7 fk] := hD
          refine lv_iinc (v := nI (i + 1)) (lv' := [(2, .int (nI (i + 1))), (0, .ref a0), (1, .int w)]) hx hb dX0_surge_57 hl (k := 2) rfl (ra_inc1 _) (by decide) rfl (fun ls hl => ?_)
          refine lv_goto (tgt := 2) hx hb dX0_surge_60 (by decide) ?_
          exact ih_2 (i + 1) (upd fh0 i (fh0 i - ((fh0 i) / 2))) (upd fg0 i 0) (upd ff0 i 0) (vs0 + ((fh0 i) / 2)) (by omega) (by rw [← he, show n - i = n - (i + 1) + 1 by omega]; exact (if_pos c_17).symm) (by omega) H locs hP hD hS ls (lv_sub hl [1, 2, 0] rfl)
        · ---- on
          have he : (nI i, upd fh0 i (fh0 i - w / 4), fg0, ff0, vs0 + w / 4, vd) = srg w n 0 fh fg ff vs vd := by rw [← he, show n - i = n - (i + 1) + 1 by omega]; exact (if_neg c_17).symm
          refine lv_aload_n hx hb dX0_surge_20 rfl (lv_at hl 0 rfl) ?_
          refine lv_iload_n hx hb dX0_surge_21 rfl (lv_at hl 2 rfl) ?_
          refine lv_iload_n hx hb dX0_surge_22 rfl (lv_at hl 1 rfl) ?_
          refine lv_iconst (v := 4) hx hb dX0_surge_23 (by decide) ?_
          refine lv_idiv hx hb dX0_surge_24 (by decide) ?_
          refine ra_cV (q := (RX0, TX0, 8)) (ci := 0) (As := [.int (nI i), .int (w / 4)]) (rest := []) (wc := [ob a0 0 [.int (nI n), .ref a1, .ref a2, .ref a3, .ref a4, .int vs0, .int vb, .int vd], ai a1 cyI 7 fh0, ai a2 cyI 7 fg0, ai a3 cyI 7 ff0, ai a4 cyI 7 fk]) (wr := []) ⟨hx, hb, hml, hown, hts⟩ (c_X0_washOut l dC dI cyI cyA a0 a1 a2 a3 a4 n fh0 fg0 ff0 fk vs0 vb vd i (w / 4) (by omega) H.size) (cwV 2 hts gX0_surge_X0_washOut rfl rfl rfl (by decide +kernel) ⟨Nat.le_of_ble_eq_true rfl, Nat.le_of_ble_eq_true rfl⟩) hK hN hP hD hA hS [0, 1, 2, 3, 4] [] rfl rfl (by decide) (by decide) (by decide) rfl rfl rfl hl.1 rfl (Nat.le_of_ble_eq_true rfl) dX0_surge_25 ⟨Nat.le_of_ble_eq_true rfl, Nat.le_of_ble_eq_true rfl⟩ (fun u_2 hw_c2 H locs hP hD hS => ?_)
          have hP : va_P (dC, dI) vwCl [ob a0 0 [.int (nI n), .ref a1, .ref a2, .ref a3, .ref a4, .int (vs0 + (w / 4)), .int vb, .int vd], ai a1 cyI 7 (upd fh0 i (fh0 i - (w / 4))), ai a2 cyI 7 fg0, ai a3 cyI 7 ff0, ai a4 cyI 7 fk] H := hP
          have hD : va_D A [ob a0 0 [.int (nI n), .ref a1, .ref a2, .ref a3, .ref a4, .int (vs0 + (w / 4)), .int vb, .int vd], ai a1 cyI 7 (upd fh0 i (fh0 i - (w / 4))), ai a2 cyI 7 fg0, ai a3 cyI 7 ff0, ai a4 cyI 7 fk] := hD
          refine lv_iload_n hx hb dX0_surge_28 rfl (lv_at hl 2 rfl) ?_
          rw [hQ]
          rw [← he]
          exact ra_iretW () hx hb hr hlocks rfl hK hP hD hS rfl dX0_surge_29
  exact L_2 _ 0 fh fg ff vs (by omega) rfl (Nat.lt_succ_self _) H locs hP hD hS ls (lv_sub hl [1, 2, 0] rfl)

set_option maxHeartbeats 4000000 in
set_option maxRecDepth 100000 in
theorem c_X0_nextGrass (l : Launch) (g k : Int32)  : Met l yX0_nextGrass wsX0_nextGrass (rm 1) (kS [.int g, .int k]) (QcRead (nuc g k)) 0 0 (fun _ => False) := by
  refine ra_metS (cc := cX0_nextGrass) (maxL := 2) (by decide) rfl (Nat.le_of_ble_eq_true rfl) ?_
  intro p e s m below meth c args Q hQ hx hb hr hlocks hml hts hown hN ls hl
  have hl : lv_has ls 2 [(0, .int g), (1, .int k)] := hl
  have hown : s.vm.findClass RX0 = some m.cls := hown
  have hw_1 := hts (.static yX3_isWithin) (by decide +kernel)
  have hw_2 := hts (.initialized RX3) (by decide +kernel)
  have hw_3 := hts (.methodLink RX0 47 Lib.Math.min.name) (by decide +kernel)
  have hw_4 := hts (.static Lib.Math.min.name) (by decide +kernel)
  have hw_5 := hts (.initialized "java/lang/Math") (by decide +kernel)
  have hw_6 := hts (.code Lib.Math.min.name Lib.Math.min.code 2 (some .int)) (by decide +kernel)
  refine lv_iload_n hx hb dX0_nextGrass_0 rfl (lv_at hl 0 rfl) ?_
  refine lv_if_eq (tgt := 10) hx hb dX0_nextGrass_1 (by decide) (fun c_1 => ?_) (fun c_1 => ?_)
  · ---- to 10
    refine lv_iconst (v := 0) hx hb dX0_nextGrass_10 (by decide) ?_
    rw [hQ]
    exact ra_iretR hx hb hr hlocks rfl (by unfold nuc; first | (rw [if_pos (Or.inl c_1)]; done) | (rw [if_pos (Or.inr (i32_nle c_7))]; done) | (rw [if_neg (show ¬ (g = 0 ∨ 30 < k) from fun q => q.elim c_1 (fun q => i32_nlt c_7 q)), if_pos c_19]; done) | (rw [if_neg (show ¬ (g = 0 ∨ 30 < k) from fun q => q.elim c_1 (fun q => i32_nlt c_7 q)), if_neg c_19]; done)) dX0_nextGrass_11
  · ---- on
    refine lv_iload_n hx hb dX0_nextGrass_4 rfl (lv_at hl 1 rfl) ?_
    refine lv_bipush (v := 30) hx hb dX0_nextGrass_5 (by decide) ?_
    refine lv_icmp_le (tgt := 12) hx hb dX0_nextGrass_7 (by decide) (fun c_7 => ?_) (fun c_7 => ?_)
    · ---- to 12
      refine lv_iload_n hx hb dX0_nextGrass_12 rfl (lv_at hl 1 rfl) ?_
      refine lv_iconst (v := 1) hx hb dX0_nextGrass_13 (by decide) ?_
      refine lv_bipush (v := 9) hx hb dX0_nextGrass_14 (by decide) ?_
      refine ra_cSN (As := [.int k, .int 1, .int 9]) (rest := []) ⟨hx, hb, hml, hown, hts⟩ (c_X3_isWithin l k 1 9 ) ⟨va_cnB 3 hts gX0_nextGrass_X3_isWithin_n60 rfl rfl rfl hN hw_2 (by decide +kernel) ⟨Nat.le_of_ble_eq_true rfl, Nat.le_of_ble_eq_true rfl⟩, hw_1, trivial⟩ hN rfl hl.1 rfl (Nat.le_of_ble_eq_true rfl) dX0_nextGrass_16 ⟨Nat.le_of_ble_eq_true rfl, Nat.le_of_ble_eq_true rfl⟩ ?_
      refine lv_if_eq (tgt := 33) hx hb dX0_nextGrass_19 (by decide) (fun c_19 => ?_) (fun c_19 => ?_)
      · ---- to 33
        have c_19 := bi_0 c_19
        refine lv_iload_n hx hb dX0_nextGrass_33 rfl (lv_at hl 0 rfl) ?_
        rw [hQ]
        exact ra_iretR hx hb hr hlocks rfl (by unfold nuc; first | (rw [if_pos (Or.inl c_1)]; done) | (rw [if_pos (Or.inr (i32_nle c_7))]; done) | (rw [if_neg (show ¬ (g = 0 ∨ 30 < k) from fun q => q.elim c_1 (fun q => i32_nlt c_7 q)), if_pos c_19]; done) | (rw [if_neg (show ¬ (g = 0 ∨ 30 < k) from fun q => q.elim c_1 (fun q => i32_nlt c_7 q)), if_neg c_19]; done)) dX0_nextGrass_34
      · ---- on
        have c_19 := bi_1 c_19
        refine lv_bipush (v := 9) hx hb dX0_nextGrass_22 (by decide) ?_
        refine lv_iload_n hx hb dX0_nextGrass_24 rfl (lv_at hl 0 rfl) ?_
        refine lv_iconst (v := 1) hx hb dX0_nextGrass_25 (by decide) ?_
        refine lv_iadd hx hb dX0_nextGrass_26 ?_
        refine va_mmin hx hb (hml.trans hl.1.symm) hown hw_3 hw_4 hw_5 hw_6 (Nat.le_of_ble_eq_true rfl) (Nat.le_of_ble_eq_true rfl) (Nat.le_of_ble_eq_true rfl) (Nat.le_of_ble_eq_true rfl) dX0_nextGrass_27 ?_
        refine ra_top (jmin 9 (g + 1)) rfl ?_
        refine lv_goto (tgt := 34) hx hb dX0_nextGrass_30 (by decide) ?_
        rw [hQ]
        exact ra_iretR hx hb hr hlocks rfl (by unfold nuc; first | (rw [if_pos (Or.inl c_1)]; done) | (rw [if_pos (Or.inr (i32_nle c_7))]; done) | (rw [if_neg (show ¬ (g = 0 ∨ 30 < k) from fun q => q.elim c_1 (fun q => i32_nlt c_7 q)), if_pos c_19]; done) | (rw [if_neg (show ¬ (g = 0 ∨ 30 < k) from fun q => q.elim c_1 (fun q => i32_nlt c_7 q)), if_neg c_19]; done)) dX0_nextGrass_34
    · ---- on
      refine lv_iconst (v := 0) hx hb dX0_nextGrass_10 (by decide) ?_
      rw [hQ]
      exact ra_iretR hx hb hr hlocks rfl (by unfold nuc; first | (rw [if_pos (Or.inl c_1)]; done) | (rw [if_pos (Or.inr (i32_nle c_7))]; done) | (rw [if_neg (show ¬ (g = 0 ∨ 30 < k) from fun q => q.elim c_1 (fun q => i32_nlt c_7 q)), if_pos c_19]; done) | (rw [if_neg (show ¬ (g = 0 ∨ 30 < k) from fun q => q.elim c_1 (fun q => i32_nlt c_7 q)), if_neg c_19]; done)) dX0_nextGrass_11

set_option maxHeartbeats 4000000 in
set_option maxRecDepth 100000 in
theorem c_X0_endYear (l : Launch) (dC : Nat → ClassId) (dI : Nat → Nat → Nat) (cyI cyA : ClassId) (a0 a1 a2 a3 a4 n : Nat) (fh fg ff fk : FN) (vs vb vd : Int32) (hn : n ≤ 7) (sz : Nat) : Met l yX0_endYear wsX0_endYear (rm 2) (kW dC dI cyI cyA [.ref a0] sz [ob a0 0 [.int (nI n), .ref a1, .ref a2, .ref a3, .ref a4, .int vs, .int vb, .int vd], ai a1 cyI 7 fh, ai a2 cyI 7 fg, ai a3 cyI 7 ff, ai a4 cyI 7 fk]) (qI dC dI cyI cyA (fun (r : Int32) (_ : Unit) => r = (yE nuc n 0 fg fk 0).1) (va_A [ob a0 0 [.int (nI n), .ref a1, .ref a2, .ref a3, .ref a4, .int vs, .int vb, .int vd], ai a1 cyI 7 fh, ai a2 cyI 7 fg, ai a3 cyI 7 ff, ai a4 cyI 7 fk] sz) (fun _ => [ob a0 0 [.int (nI n), .ref a1, .ref a2, .ref a3, .ref a4, .int vs, .int vb, .int vd], ai a1 cyI 7 fh, ai a2 cyI 7 ((yE nuc n 0 fg fk 0).2.1), ai a3 cyI 7 ff, ai a4 cyI 7 ((yE nuc n 0 fg fk 0).2.2)])) 0 0 (va_A [ob a0 0 [.int (nI n), .ref a1, .ref a2, .ref a3, .ref a4, .int vs, .int vb, .int vd], ai a1 cyI 7 fh, ai a2 cyI 7 fg, ai a3 cyI 7 ff, ai a4 cyI 7 fk] sz) := by
  refine ra_metW (cc := cX0_endYear) (maxL := 4) (Qc := fun A => qI dC dI cyI cyA (fun (r : Int32) (_ : Unit) => r = (yE nuc n 0 fg fk 0).1) A (fun _ => [ob a0 0 [.int (nI n), .ref a1, .ref a2, .ref a3, .ref a4, .int vs, .int vb, .int vd], ai a1 cyI 7 fh, ai a2 cyI 7 ((yE nuc n 0 fg fk 0).2.1), ai a3 cyI 7 ff, ai a4 cyI 7 ((yE nuc n 0 fg fk 0).2.2)])) (by decide) rfl (Nat.le_of_ble_eq_true rfl) ?_
  intro p e s m below meth c A args Q hQ hx hb hr hlocks hml hts hown hnm hK hN hP hD hA hS ls hl
  have hl : lv_has ls 4 [(0, .ref a0)] := hl
  have hown : s.vm.findClass RX0 = some m.cls := hown
  have hw_1 := hts (.fieldLink RX0 28 "DuneBench$Coast" "cells" "I") (by decide +kernel)
  have hin_X0 : ∀ w ∈ u_ws RX0 TX0 8, w ∈ wsX0_endYear := by decide +kernel
  have hw_3 := hts (.fieldLink RX0 15 "DuneBench$Coast" "grass" "[I") (by decide +kernel)
  have hw_4 := hts (.fieldLink RX0 21 "DuneBench$Coast" "kept" "[I") (by decide +kernel)
  obtain ⟨H, hHe⟩ : ∃ H, H = s.heap := ⟨_, rfl⟩
  obtain ⟨locs, hLe⟩ : ∃ locs : List Loc, locs = [] := ⟨_, rfl⟩
  have hP : va_P (dC, dI) vwCl [ob a0 0 [.int (nI n), .ref a1, .ref a2, .ref a3, .ref a4, .int vs, .int vb, .int vd], ai a1 cyI 7 fh, ai a2 cyI 7 fg, ai a3 cyI 7 ff, ai a4 cyI 7 fk] H := by rw [hHe]; exact hP
  have hS : va_S A s.heap H locs := by rw [hHe, hLe]; exact hS
  suffices hgo : W p l e (rm 2) s m args below meth c H locs 0 0 Q (F0 m 0 ls []) by rw [hHe, hLe] at hgo; exact hgo
  refine lv_iconst (v := 0) hx hb dX0_endYear_0 (by decide) ?_
  refine lv_istore_n (lv' := [(1, .int 0), (0, .ref a0)]) hx hb dX0_endYear_1 rfl hl (by decide) rfl (fun ls hl => ?_)
  refine lv_iconst (v := 0) hx hb dX0_endYear_2 (by decide) ?_
  refine lv_istore_n (lv' := [(2, .int 0), (1, .int 0), (0, .ref a0)]) hx hb dX0_endYear_3 rfl hl (by decide) rfl (fun ls hl => ?_)
  have L_4 : ∀ (n9 : Nat) (i : Nat) (fg0 : FN) (fk0 : FN) (x : Int32), (i ≤ n) → (yE nuc (n - i) i fg0 fk0 x = yE nuc n 0 fg fk 0) → (n - i) < n9 → ∀ (H : Heap) (locs : List Loc), va_P (dC, dI) vwCl [ob a0 0 [.int (nI n), .ref a1, .ref a2, .ref a3, .ref a4, .int vs, .int vb, .int vd], ai a1 cyI 7 fh, ai a2 cyI 7 fg0, ai a3 cyI 7 ff, ai a4 cyI 7 fk0] H → va_D A [ob a0 0 [.int (nI n), .ref a1, .ref a2, .ref a3, .ref a4, .int vs, .int vb, .int vd], ai a1 cyI 7 fh, ai a2 cyI 7 fg0, ai a3 cyI 7 ff, ai a4 cyI 7 fk0] → va_S A s.heap H locs → ∀ ls : Array Slot, lv_has ls 4 [(0, .ref a0), (1, .int x), (2, .int (nI i))] → W p l e (rm 2) s m args below meth c H locs 0 0 Q (F0 m 4 ls []) := by
    intro n9
    induction n9 with
    | zero =>
      intro i fg0 fk0 x hi he hm9
      exact absurd hm9 (Nat.not_lt_zero _)
    | succ n9 ih_4 =>
      intro i fg0 fk0 x hi he hm9 H locs hP hD hS ls hl
      refine lv_iload_n hx hb dX0_endYear_4 rfl (lv_at hl 2 rfl) ?_
      refine lv_aload_n hx hb dX0_endYear_5 rfl (lv_at hl 0 rfl) ?_
      refine va_get (D := (dC, dI)) (ci := 0) (v := .int (nI n)) (C := RX0) (T := TX0) (N := 8) hx hb hts hin_X0 hown hK hP 0 rfl rfl 0 (by decide) hw_1 (fun _ h9 => h9) rfl dX0_endYear_6 ?_
      refine lv_icmp_ge (tgt := 61) hx hb dX0_endYear_9 (by decide) (fun c_9 => ?_) (fun c_9 => ?_)
      · ---- to 61
        have n_9 := (nq_le n i (by omega) (by omega)).mp c_9
        have he : (x, fg0, fk0) = yE nuc n 0 fg fk 0 := by rw [← he, show n - i = 0 by omega]; rfl
        refine lv_iload_n hx hb dX0_endYear_61 rfl (lv_at hl 1 rfl) ?_
        rw [hQ]
        rw [← he]
        exact ra_iretW () hx hb hr hlocks rfl hK hP hD hS rfl dX0_endYear_62
      · ---- on
        have n_9 := (nq_le_n n i (by omega) (by omega)).mp c_9
        refine lv_aload_n hx hb dX0_endYear_12 rfl (lv_at hl 0 rfl) ?_
        refine va_get (D := (dC, dI)) (ci := 0) (v := .ref a2) (C := RX0) (T := TX0) (N := 8) hx hb hts hin_X0 hown hK hP 0 rfl rfl 2 (by decide) hw_3 (fun _ h9 => h9) rfl dX0_endYear_13 ?_
        refine lv_iload_n hx hb dX0_endYear_16 rfl (lv_at hl 2 rfl) ?_
        refine ra_iald hx hb hK hP 2 rfl i rfl (by omega) (Nat.le_of_ble_eq_true rfl) dX0_endYear_17 ?_
        refine lv_aload_n hx hb dX0_endYear_18 rfl (lv_at hl 0 rfl) ?_
        refine va_get (D := (dC, dI)) (ci := 0) (v := .ref a4) (C := RX0) (T := TX0) (N := 8) hx hb hts hin_X0 hown hK hP 0 rfl rfl 4 (by decide) hw_4 (fun _ h9 => h9) rfl dX0_endYear_19 ?_
        refine lv_iload_n hx hb dX0_endYear_22 rfl (lv_at hl 2 rfl) ?_
        refine ra_iald hx hb hK hP 4 rfl i rfl (by omega) (Nat.le_of_ble_eq_true rfl) dX0_endYear_23 ?_
        refine ra_cS (As := [.int (fg0 i), .int (fk0 i)]) (rest := []) ⟨hx, hb, hml, hown, hts⟩ (c_X0_nextGrass l (fg0 i) (fk0 i) ) (va_cwS 2 hts gX0_endYear_X0_nextGrass rfl rfl rfl (by decide +kernel) ⟨Nat.le_of_ble_eq_true rfl, Nat.le_of_ble_eq_true rfl⟩) hN rfl hl.1 rfl (Nat.le_of_ble_eq_true rfl) dX0_endYear_24 ⟨Nat.le_of_ble_eq_true rfl, Nat.le_of_ble_eq_true rfl⟩ ?_
        refine lv_istore_n (lv' := [(3, .int (nuc (fg0 i) (fk0 i))), (0, .ref a0), (1, .int x), (2, .int (nI i))]) hx hb dX0_endYear_27 rfl hl (by decide) rfl (fun ls hl => ?_)
        refine lv_iload_n hx hb dX0_endYear_28 rfl (lv_at hl 0 rfl) ?_
        refine lv_aload_n hx hb dX0_endYear_29 rfl (lv_at hl 1 rfl) ?_
        refine va_get (D := (dC, dI)) (ci := 0) (v := .ref a2) (C := RX0) (T := TX0) (N := 8) hx hb hts hin_X0 hown hK hP 0 rfl rfl 2 (by decide) hw_3 (fun _ h9 => h9) rfl dX0_endYear_30 ?_
        refine lv_iload_n hx hb dX0_endYear_33 rfl (lv_at hl 3 rfl) ?_
        refine ra_iald hx hb hK hP 2 rfl i rfl (by omega) (Nat.le_of_ble_eq_true rfl) dX0_endYear_34 ?_
        refine lv_icmp_eq (tgt := 41) hx hb dX0_endYear_35 (by decide) (fun c_35 => ?_) (fun c_35 => ?_)
        · ---- to 41
          refine lv_aload_n hx hb dX0_endYear_41 rfl (lv_at hl 1 rfl) ?_
          refine va_get (D := (dC, dI)) (ci := 0) (v := .ref a2) (C := RX0) (T := TX0) (N := 8) hx hb hts hin_X0 hown hK hP 0 rfl rfl 2 (by decide) hw_3 (fun _ h9 => h9) rfl dX0_endYear_42 ?_
          refine lv_iload_n hx hb dX0_endYear_45 rfl (lv_at hl 3 rfl) ?_
          refine lv_iload_n hx hb dX0_endYear_46 rfl (lv_at hl 0 rfl) ?_
          refine ra_iast hx hb hK hP hD hS 2 rfl i rfl (by omega) (Nat.le_of_ble_eq_true rfl) dX0_endYear_47 (fun H locs hP hD hS => ?_)
          have hP : va_P (dC, dI) vwCl [ob a0 0 [.int (nI n), .ref a1, .ref a2, .ref a3, .ref a4, .int vs, .int vb, .int vd], ai a1 cyI 7 fh, ai a2 cyI 7 (upd fg0 i (nuc (fg0 i) (fk0 i))), ai a3 cyI 7 ff, ai a4 cyI 7 fk0] H := hP
          have hD : va_D A [ob a0 0 [.int (nI n), .ref a1, .ref a2, .ref a3, .ref a4, .int vs, .int vb, .int vd], ai a1 cyI 7 fh, ai a2 cyI 7 (upd fg0 i (nuc (fg0 i) (fk0 i))), ai a3 cyI 7 ff, ai a4 cyI 7 fk0] := hD
          refine lv_aload_n hx hb dX0_endYear_48 rfl (lv_at hl 1 rfl) ?_
          refine va_get (D := (dC, dI)) (ci := 0) (v := .ref a4) (C := RX0) (T := TX0) (N := 8) hx hb hts hin_X0 hown hK hP 0 rfl rfl 4 (by decide) hw_4 (fun _ h9 => h9) rfl dX0_endYear_49 ?_
          refine lv_iload_n hx hb dX0_endYear_52 rfl (lv_at hl 3 rfl) ?_
          refine lv_iconst (v := 0) hx hb dX0_endYear_53 (by decide) ?_
          refine ra_iast hx hb hK hP hD hS 4 rfl i rfl (by omega) (Nat.le_of_ble_eq_true rfl) dX0_endYear_54 (fun H locs hP hD hS => ?_)
          have hP : va_P (dC, dI) vwCl [ob a0 0 [.int (nI n), .ref a1, .ref a2, .ref a3, .ref a4, .int vs, .int vb, .int vd], ai a1 cyI 7 fh, ai a2 cyI 7 (upd fg0 i (nuc (fg0 i) (fk0 i))), ai a3 cyI 7 ff, ai a4 cyI 7 (upd fk0 i 0)] H := hP
          have hD : va_D A [ob a0 0 [.int (nI n), .ref a1, .ref a2, .ref a3, .ref a4, .int vs, .int vb, .int vd], ai a1 cyI 7 fh, ai a2 cyI 7 (upd fg0 i (nuc (fg0 i) (fk0 i))), ai a3 cyI 7 ff, ai a4 cyI 7 (upd fk0 i 0)] := hD
          refine lv_iinc (v := nI (i + 1)) (lv' := [(2, .int (nI (i + 1))), (3, .int (nuc (fg0 i) (fk0 i))), (0, .ref a0), (1, .int x)]) hx hb dX0_endYear_55 hl (k := 3) rfl (ra_inc1 _) (by decide) rfl (fun ls hl => ?_)
          refine lv_goto (tgt := 4) hx hb dX0_endYear_58 (by decide) ?_
          exact ih_4 (i + 1) (upd fg0 i (nuc (fg0 i) (fk0 i))) (upd fk0 i 0) x (by omega) (by rw [← he, show n - i = n - (i + 1) + 1 by omega]; show _ = yE nuc _ _ _ _ (if _ then _ else _); first | rw [if_pos c_35] | rw [if_neg c_35]) (by omega) H locs hP hD hS ls (lv_sub hl [2, 3, 0] rfl)
        · ---- on
          refine lv_iinc (v := x + 1) (lv' := [(1, .int (x + 1)), (3, .int (nuc (fg0 i) (fk0 i))), (0, .ref a0), (2, .int (nI i))]) hx hb dX0_endYear_38 hl (k := 2) rfl (by rfl) (by decide) rfl (fun ls hl => ?_)
          refine lv_aload_n hx hb dX0_endYear_41 rfl (lv_at hl 2 rfl) ?_
          refine va_get (D := (dC, dI)) (ci := 0) (v := .ref a2) (C := RX0) (T := TX0) (N := 8) hx hb hts hin_X0 hown hK hP 0 rfl rfl 2 (by decide) hw_3 (fun _ h9 => h9) rfl dX0_endYear_42 ?_
          refine lv_iload_n hx hb dX0_endYear_45 rfl (lv_at hl 3 rfl) ?_
          refine lv_iload_n hx hb dX0_endYear_46 rfl (lv_at hl 1 rfl) ?_
          refine ra_iast hx hb hK hP hD hS 2 rfl i rfl (by omega) (Nat.le_of_ble_eq_true rfl) dX0_endYear_47 (fun H locs hP hD hS => ?_)
          have hP : va_P (dC, dI) vwCl [ob a0 0 [.int (nI n), .ref a1, .ref a2, .ref a3, .ref a4, .int vs, .int vb, .int vd], ai a1 cyI 7 fh, ai a2 cyI 7 (upd fg0 i (nuc (fg0 i) (fk0 i))), ai a3 cyI 7 ff, ai a4 cyI 7 fk0] H := hP
          have hD : va_D A [ob a0 0 [.int (nI n), .ref a1, .ref a2, .ref a3, .ref a4, .int vs, .int vb, .int vd], ai a1 cyI 7 fh, ai a2 cyI 7 (upd fg0 i (nuc (fg0 i) (fk0 i))), ai a3 cyI 7 ff, ai a4 cyI 7 fk0] := hD
          refine lv_aload_n hx hb dX0_endYear_48 rfl (lv_at hl 2 rfl) ?_
          refine va_get (D := (dC, dI)) (ci := 0) (v := .ref a4) (C := RX0) (T := TX0) (N := 8) hx hb hts hin_X0 hown hK hP 0 rfl rfl 4 (by decide) hw_4 (fun _ h9 => h9) rfl dX0_endYear_49 ?_
          refine lv_iload_n hx hb dX0_endYear_52 rfl (lv_at hl 3 rfl) ?_
          refine lv_iconst (v := 0) hx hb dX0_endYear_53 (by decide) ?_
          refine ra_iast hx hb hK hP hD hS 4 rfl i rfl (by omega) (Nat.le_of_ble_eq_true rfl) dX0_endYear_54 (fun H locs hP hD hS => ?_)
          have hP : va_P (dC, dI) vwCl [ob a0 0 [.int (nI n), .ref a1, .ref a2, .ref a3, .ref a4, .int vs, .int vb, .int vd], ai a1 cyI 7 fh, ai a2 cyI 7 (upd fg0 i (nuc (fg0 i) (fk0 i))), ai a3 cyI 7 ff, ai a4 cyI 7 (upd fk0 i 0)] H := hP
          have hD : va_D A [ob a0 0 [.int (nI n), .ref a1, .ref a2, .ref a3, .ref a4, .int vs, .int vb, .int vd], ai a1 cyI 7 fh, ai a2 cyI 7 (upd fg0 i (nuc (fg0 i) (fk0 i))), ai a3 cyI 7 ff, ai a4 cyI 7 (upd fk0 i 0)] := hD
          refine lv_iinc (v := nI (i + 1)) (lv' := [(2, .int (nI (i + 1))), (1, .int (x + 1)), (3, .int (nuc (fg0 i) (fk0 i))), (0, .ref a0)]) hx hb dX0_endYear_55 hl (k := 3) rfl (ra_inc1 _) (by decide) rfl (fun ls hl => ?_)
          refine lv_goto (tgt := 4) hx hb dX0_endYear_58 (by decide) ?_
          exact ih_4 (i + 1) (upd fg0 i (nuc (fg0 i) (fk0 i))) (upd fk0 i 0) (x + 1) (by omega) (by rw [← he, show n - i = n - (i + 1) + 1 by omega]; show _ = yE nuc _ _ _ _ (if _ then _ else _); first | rw [if_pos c_35] | rw [if_neg c_35]) (by omega) H locs hP hD hS ls (lv_sub hl [3, 1, 0] rfl)
  exact L_4 _ 0 fg fk 0 (by omega) rfl (Nat.lt_succ_self _) H locs hP hD hS ls (lv_sub hl [2, 1, 0] rfl)

set_option maxHeartbeats 4000000 in
set_option maxRecDepth 100000 in
theorem c_X0_addSand (l : Launch) (dC : Nat → ClassId) (dI : Nat → Nat → Nat) (cyI cyA : ClassId) (a0 a1 a2 a3 a4 n : Nat) (fh fg ff fk : FN) (vs vb vd : Int32) (x : Int32)  (sz : Nat) : Met l yX0_addSand wsX0_addSand (rm 1) (kW dC dI cyI cyA [.ref a0, .int x] sz [ob a0 0 [.int (nI n), .ref a1, .ref a2, .ref a3, .ref a4, .int vs, .int vb, .int vd], ai a1 cyI 7 fh, ai a2 cyI 7 fg, ai a3 cyI 7 ff, ai a4 cyI 7 fk]) (qI dC dI cyI cyA (fun (r : Int32) (_ : Unit) => r = jmin x (99 - fh 0)) (va_A [ob a0 0 [.int (nI n), .ref a1, .ref a2, .ref a3, .ref a4, .int vs, .int vb, .int vd], ai a1 cyI 7 fh, ai a2 cyI 7 fg, ai a3 cyI 7 ff, ai a4 cyI 7 fk] sz) (fun _ => [ob a0 0 [.int (nI n), .ref a1, .ref a2, .ref a3, .ref a4, .int vs, .int vb, .int vd], ai a1 cyI 7 (upd fh 0 (fh 0 + jmin x (99 - fh 0))), ai a2 cyI 7 fg, ai a3 cyI 7 ff, ai a4 cyI 7 fk])) 0 0 (va_A [ob a0 0 [.int (nI n), .ref a1, .ref a2, .ref a3, .ref a4, .int vs, .int vb, .int vd], ai a1 cyI 7 fh, ai a2 cyI 7 fg, ai a3 cyI 7 ff, ai a4 cyI 7 fk] sz) := by
  refine ra_metW (cc := cX0_addSand) (maxL := 3) (Qc := fun A => qI dC dI cyI cyA (fun (r : Int32) (_ : Unit) => r = jmin x (99 - fh 0)) A (fun _ => [ob a0 0 [.int (nI n), .ref a1, .ref a2, .ref a3, .ref a4, .int vs, .int vb, .int vd], ai a1 cyI 7 (upd fh 0 (fh 0 + jmin x (99 - fh 0))), ai a2 cyI 7 fg, ai a3 cyI 7 ff, ai a4 cyI 7 fk])) (by decide) rfl (Nat.le_of_ble_eq_true rfl) ?_
  intro p e s m below meth c A args Q hQ hx hb hr hlocks hml hts hown hnm hK hN hP hD hA hS ls hl
  have hl : lv_has ls 3 [(0, .ref a0), (1, .int x)] := hl
  have hown : s.vm.findClass RX0 = some m.cls := hown
  have hw_1 := hts (.fieldLink RX0 9 "DuneBench$Coast" "height" "[I") (by decide +kernel)
  have hin_X0 : ∀ w ∈ u_ws RX0 TX0 8, w ∈ wsX0_addSand := by decide +kernel
  have hw_3 := hts (.methodLink RX0 47 Lib.Math.min.name) (by decide +kernel)
  have hw_4 := hts (.static Lib.Math.min.name) (by decide +kernel)
  have hw_5 := hts (.initialized "java/lang/Math") (by decide +kernel)
  have hw_6 := hts (.code Lib.Math.min.name Lib.Math.min.code 2 (some .int)) (by decide +kernel)
  obtain ⟨H, hHe⟩ : ∃ H, H = s.heap := ⟨_, rfl⟩
  obtain ⟨locs, hLe⟩ : ∃ locs : List Loc, locs = [] := ⟨_, rfl⟩
  have hP : va_P (dC, dI) vwCl [ob a0 0 [.int (nI n), .ref a1, .ref a2, .ref a3, .ref a4, .int vs, .int vb, .int vd], ai a1 cyI 7 fh, ai a2 cyI 7 fg, ai a3 cyI 7 ff, ai a4 cyI 7 fk] H := by rw [hHe]; exact hP
  have hS : va_S A s.heap H locs := by rw [hHe, hLe]; exact hS
  suffices hgo : W p l e (rm 1) s m args below meth c H locs 0 0 Q (F0 m 0 ls []) by rw [hHe, hLe] at hgo; exact hgo
  refine lv_iload_n hx hb dX0_addSand_0 rfl (lv_at hl 1 rfl) ?_
  refine lv_bipush (v := 99) hx hb dX0_addSand_1 (by decide) ?_
  refine lv_aload_n hx hb dX0_addSand_3 rfl (lv_at hl 0 rfl) ?_
  refine va_get (D := (dC, dI)) (ci := 0) (v := .ref a1) (C := RX0) (T := TX0) (N := 8) hx hb hts hin_X0 hown hK hP 0 rfl rfl 1 (by decide) hw_1 (fun _ h9 => h9) rfl dX0_addSand_4 ?_
  refine lv_iconst (v := 0) hx hb dX0_addSand_7 (by decide) ?_
  refine ra_iald hx hb hK hP 1 rfl 0 rfl (by omega) (Nat.le_of_ble_eq_true rfl) dX0_addSand_8 ?_
  refine lv_isub hx hb dX0_addSand_9 ?_
  refine va_mmin hx hb (hml.trans hl.1.symm) hown hw_3 hw_4 hw_5 hw_6 (Nat.le_of_ble_eq_true rfl) (Nat.le_of_ble_eq_true rfl) (Nat.le_of_ble_eq_true rfl) (Nat.le_of_ble_eq_true rfl) dX0_addSand_10 ?_
  refine ra_top (jmin x (99 - (fh 0))) rfl ?_
  refine lv_istore_n (lv' := [(2, .int (jmin x (99 - (fh 0)))), (0, .ref a0), (1, .int x)]) hx hb dX0_addSand_13 rfl hl (by decide) rfl (fun ls hl => ?_)
  refine lv_aload_n hx hb dX0_addSand_14 rfl (lv_at hl 1 rfl) ?_
  refine va_get (D := (dC, dI)) (ci := 0) (v := .ref a1) (C := RX0) (T := TX0) (N := 8) hx hb hts hin_X0 hown hK hP 0 rfl rfl 1 (by decide) hw_1 (fun _ h9 => h9) rfl dX0_addSand_15 ?_
  refine lv_iconst (v := 0) hx hb dX0_addSand_18 (by decide) ?_
  refine lv_dup2_11 hx hb dX0_addSand_19 rfl rfl ?_
  refine ra_iald hx hb hK hP 1 rfl 0 rfl (by omega) (Nat.le_of_ble_eq_true rfl) dX0_addSand_20 ?_
  refine lv_iload_n hx hb dX0_addSand_21 rfl (lv_at hl 0 rfl) ?_
  refine lv_iadd hx hb dX0_addSand_22 ?_
  refine ra_iast hx hb hK hP hD hS 1 rfl 0 rfl (by omega) (Nat.le_of_ble_eq_true rfl) dX0_addSand_23 (fun H locs hP hD hS => ?_)
  have hP : va_P (dC, dI) vwCl [ob a0 0 [.int (nI n), .ref a1, .ref a2, .ref a3, .ref a4, .int vs, .int vb, .int vd], ai a1 cyI 7 (upd fh 0 ((fh 0) + (jmin x (99 - (fh 0))))), ai a2 cyI 7 fg, ai a3 cyI 7 ff, ai a4 cyI 7 fk] H := hP
  have hD : va_D A [ob a0 0 [.int (nI n), .ref a1, .ref a2, .ref a3, .ref a4, .int vs, .int vb, .int vd], ai a1 cyI 7 (upd fh 0 ((fh 0) + (jmin x (99 - (fh 0))))), ai a2 cyI 7 fg, ai a3 cyI 7 ff, ai a4 cyI 7 fk] := hD
  refine lv_iload_n hx hb dX0_addSand_24 rfl (lv_at hl 0 rfl) ?_
  rw [hQ]
  exact ra_iretW () hx hb hr hlocks rfl hK hP hD hS rfl dX0_addSand_25

set_option maxHeartbeats 4000000 in
set_option maxRecDepth 100000 in
theorem c_X0_heightsTogether (l : Launch) (dC : Nat → ClassId) (dI : Nat → Nat → Nat) (cyI cyA : ClassId) (a0 a1 a2 a3 a4 n : Nat) (fh fg ff fk : FN) (vs vb vd : Int32) (hn : n ≤ 7) : Met l yX0_heightsTogether wsX0_heightsTogether (rm 0) (kR dC dI cyI cyA [.ref a0] [ob a0 0 [.int (nI n), .ref a1, .ref a2, .ref a3, .ref a4, .int vs, .int vb, .int vd], ai a1 cyI 7 fh, ai a2 cyI 7 fg, ai a3 cyI 7 ff, ai a4 cyI 7 fk]) (QcRead (sumH fh n 0 0)) 0 0 (fun _ => False) := by
  refine ra_metR (cc := cX0_heightsTogether) (maxL := 3) (by decide) rfl (Nat.le_of_ble_eq_true rfl) ?_
  intro p e s m below meth c args Q hQ hx hb hr hlocks hml hts hown hK hN hP ls hl
  have hl : lv_has ls 3 [(0, .ref a0)] := hl
  have hown : s.vm.findClass RX0 = some m.cls := hown
  have hw_1 := hts (.fieldLink RX0 28 "DuneBench$Coast" "cells" "I") (by decide +kernel)
  have hin_X0 : ∀ w ∈ u_ws RX0 TX0 8, w ∈ wsX0_heightsTogether := by decide +kernel
  have hw_3 := hts (.fieldLink RX0 9 "DuneBench$Coast" "height" "[I") (by decide +kernel)
  refine lv_iconst (v := 0) hx hb dX0_heightsTogether_0 (by decide) ?_
  refine lv_istore_n (lv' := [(1, .int 0), (0, .ref a0)]) hx hb dX0_heightsTogether_1 rfl hl (by decide) rfl (fun ls hl => ?_)
  refine lv_iconst (v := 0) hx hb dX0_heightsTogether_2 (by decide) ?_
  refine lv_istore_n (lv' := [(2, .int 0), (1, .int 0), (0, .ref a0)]) hx hb dX0_heightsTogether_3 rfl hl (by decide) rfl (fun ls hl => ?_)
  have L_4 : ∀ (n9 : Nat) (i : Nat) (x : Int32), (i ≤ n) → (sumH fh (n - i) i x = sumH fh n 0 0) → (n - i) < n9 → ∀ ls : Array Slot, lv_has ls 3 [(0, .ref a0), (1, .int x), (2, .int (nI i))] → W p l e (rm 0) s m args below meth c s.heap [] 0 0 Q (F0 m 4 ls []) := by
    intro n9
    induction n9 with
    | zero =>
      intro i x hi he hm9
      exact absurd hm9 (Nat.not_lt_zero _)
    | succ n9 ih_4 =>
      intro i x hi he hm9 ls hl
      refine lv_iload_n hx hb dX0_heightsTogether_4 rfl (lv_at hl 2 rfl) ?_
      refine lv_aload_n hx hb dX0_heightsTogether_5 rfl (lv_at hl 0 rfl) ?_
      refine va_get (D := (dC, dI)) (ci := 0) (v := .int (nI n)) (C := RX0) (T := TX0) (N := 8) hx hb hts hin_X0 hown hK hP 0 rfl rfl 0 (by decide) hw_1 (fun _ h9 => h9) rfl dX0_heightsTogether_6 ?_
      refine lv_icmp_ge (tgt := 27) hx hb dX0_heightsTogether_9 (by decide) (fun c_9 => ?_) (fun c_9 => ?_)
      · ---- to 27
        have n_9 := (nq_le n i (by omega) (by omega)).mp c_9
        refine lv_iload_n hx hb dX0_heightsTogether_27 rfl (lv_at hl 1 rfl) ?_
        rw [hQ]
        exact ra_iretR hx hb hr hlocks rfl (by rw [← he, show n - i = 0 by omega]; rfl) dX0_heightsTogether_28
      · ---- on
        have n_9 := (nq_le_n n i (by omega) (by omega)).mp c_9
        refine lv_iload_n hx hb dX0_heightsTogether_12 rfl (lv_at hl 1 rfl) ?_
        refine lv_aload_n hx hb dX0_heightsTogether_13 rfl (lv_at hl 0 rfl) ?_
        refine va_get (D := (dC, dI)) (ci := 0) (v := .ref a1) (C := RX0) (T := TX0) (N := 8) hx hb hts hin_X0 hown hK hP 0 rfl rfl 1 (by decide) hw_3 (fun _ h9 => h9) rfl dX0_heightsTogether_14 ?_
        refine lv_iload_n hx hb dX0_heightsTogether_17 rfl (lv_at hl 2 rfl) ?_
        refine ra_iald hx hb hK hP 1 rfl i rfl (by omega) (Nat.le_of_ble_eq_true rfl) dX0_heightsTogether_18 ?_
        refine lv_iadd hx hb dX0_heightsTogether_19 ?_
        refine lv_istore_n (lv' := [(1, .int (x + (fh i))), (0, .ref a0), (2, .int (nI i))]) hx hb dX0_heightsTogether_20 rfl hl (by decide) rfl (fun ls hl => ?_)
        refine lv_iinc (v := nI (i + 1)) (lv' := [(2, .int (nI (i + 1))), (1, .int (x + (fh i))), (0, .ref a0)]) hx hb dX0_heightsTogether_21 hl (k := 2) rfl (ra_inc1 _) (by decide) rfl (fun ls hl => ?_)
        refine lv_goto (tgt := 4) hx hb dX0_heightsTogether_24 (by decide) ?_
        exact ih_4 (i + 1) (x + (fh i)) (by omega) (by rw [← he, show n - i = n - (i + 1) + 1 by omega]; rfl) (by omega) ls (lv_sub hl [2, 1, 0] rfl)
  exact L_4 _ 0 0 (by omega) rfl (Nat.lt_succ_self _) ls (lv_sub hl [2, 1, 0] rfl)

set_option maxHeartbeats 4000000 in
set_option maxRecDepth 100000 in
theorem c_X0_renew (l : Launch) (dC : Nat → ClassId) (dI : Nat → Nat → Nat) (cyI cyA : ClassId) (a0 a1 a2 a3 a4 : Nat) (x0 : Int32) (fh fg ff fk : FN) (vs vb vd : Int32) (q : Int32)  (sz : Nat) : Met l yX0_renew wsX0_renew (rm 0) (kW dC dI cyI cyA [.ref a0, .int q] sz [ob a0 0 [.int x0, .ref a1, .ref a2, .ref a3, .ref a4, .int vs, .int vb, .int vd], ai a1 cyI 7 fh, ai a2 cyI 7 fg, ai a3 cyI 7 ff, ai a4 cyI 7 fk]) (qV dC dI cyI cyA (fun (_ : Unit) => True) (va_A [ob a0 0 [.int x0, .ref a1, .ref a2, .ref a3, .ref a4, .int vs, .int vb, .int vd], ai a1 cyI 7 fh, ai a2 cyI 7 fg, ai a3 cyI 7 ff, ai a4 cyI 7 fk] sz) (fun _ => [ob a0 0 [.int q, .ref a1, .ref a2, .ref a3, .ref a4, .int 0, .int 0, .int 0], ai a1 cyI 7 zF, ai a2 cyI 7 zF, ai a3 cyI 7 zF, ai a4 cyI 7 zF])) 0 0 (va_A [ob a0 0 [.int x0, .ref a1, .ref a2, .ref a3, .ref a4, .int vs, .int vb, .int vd], ai a1 cyI 7 fh, ai a2 cyI 7 fg, ai a3 cyI 7 ff, ai a4 cyI 7 fk] sz) := by
  refine ra_metW (cc := cX0_renew) (maxL := 3) (Qc := fun A => qV dC dI cyI cyA (fun (_ : Unit) => True) A (fun _ => [ob a0 0 [.int q, .ref a1, .ref a2, .ref a3, .ref a4, .int 0, .int 0, .int 0], ai a1 cyI 7 zF, ai a2 cyI 7 zF, ai a3 cyI 7 zF, ai a4 cyI 7 zF])) (by decide) rfl (Nat.le_of_ble_eq_true rfl) ?_
  intro p e s m below meth c A args Q hQ hx hb hr hlocks hml hts hown hnm hK hN hP hD hA hS ls hl
  have hl : lv_has ls 3 [(0, .ref a0), (1, .int q)] := hl
  have hown : s.vm.findClass RX0 = some m.cls := hown
  have hw_1 := hts (.fieldLink RX0 28 "DuneBench$Coast" "cells" "I") (by decide +kernel)
  have hin_X0 : ∀ w ∈ u_ws RX0 TX0 8, w ∈ wsX0_renew := by decide +kernel
  have hw_3 := hts (.fieldLink RX0 32 "DuneBench$Coast" "sea" "I") (by decide +kernel)
  have hw_4 := hts (.fieldLink RX0 35 "DuneBench$Coast" "behind" "I") (by decide +kernel)
  have hw_5 := hts (.fieldLink RX0 38 "DuneBench$Coast" "flooded" "I") (by decide +kernel)
  have hw_6 := hts (.fieldLink RX0 9 "DuneBench$Coast" "height" "[I") (by decide +kernel)
  have hw_7 := hts (.fieldLink RX0 15 "DuneBench$Coast" "grass" "[I") (by decide +kernel)
  have hw_8 := hts (.fieldLink RX0 18 "DuneBench$Coast" "fence" "[I") (by decide +kernel)
  have hw_9 := hts (.fieldLink RX0 21 "DuneBench$Coast" "kept" "[I") (by decide +kernel)
  obtain ⟨H, hHe⟩ : ∃ H, H = s.heap := ⟨_, rfl⟩
  obtain ⟨locs, hLe⟩ : ∃ locs : List Loc, locs = [] := ⟨_, rfl⟩
  have hP : va_P (dC, dI) vwCl [ob a0 0 [.int x0, .ref a1, .ref a2, .ref a3, .ref a4, .int vs, .int vb, .int vd], ai a1 cyI 7 fh, ai a2 cyI 7 fg, ai a3 cyI 7 ff, ai a4 cyI 7 fk] H := by rw [hHe]; exact hP
  have hS : va_S A s.heap H locs := by rw [hHe, hLe]; exact hS
  suffices hgo : W p l e (rm 0) s m args below meth c H locs 0 0 Q (F0 m 0 ls []) by rw [hHe, hLe] at hgo; exact hgo
  refine lv_aload_n hx hb dX0_renew_0 rfl (lv_at hl 0 rfl) ?_
  refine lv_iload_n hx hb dX0_renew_1 rfl (lv_at hl 1 rfl) ?_
  refine va_put (D := (dC, dI)) (ci := 0) (v := .int q) (ty := .int) (C := RX0) (T := TX0) (N := 8) hx hb hts hin_X0 tyX0 tyX0_ok nmX0 hown hK hP hD hS 0 rfl rfl 0 (by decide) hw_1 (fun _ h9 => h9) rfl (by decide +kernel) rfl rfl (Nat.le_of_ble_eq_true rfl) dX0_renew_2 (fun H locs hP hD hS => ?_)
  have hP : va_P (dC, dI) vwCl [ob a0 0 [.int q, .ref a1, .ref a2, .ref a3, .ref a4, .int vs, .int vb, .int vd], ai a1 cyI 7 fh, ai a2 cyI 7 fg, ai a3 cyI 7 ff, ai a4 cyI 7 fk] H := hP
  have hD : va_D A [ob a0 0 [.int q, .ref a1, .ref a2, .ref a3, .ref a4, .int vs, .int vb, .int vd], ai a1 cyI 7 fh, ai a2 cyI 7 fg, ai a3 cyI 7 ff, ai a4 cyI 7 fk] := hD
  refine lv_iconst (v := 0) hx hb dX0_renew_5 (by decide) ?_
  refine lv_istore_n (lv' := [(2, .int 0), (0, .ref a0), (1, .int q)]) hx hb dX0_renew_6 rfl hl (by decide) rfl (fun ls hl => ?_)
  have L_7 : ∀ (n9 : Nat) (i : Nat) (fh0 : FN) (fg0 : FN) (ff0 : FN) (fk0 : FN), (i ≤ 7) → (∀ j, j < i → fh0 j = 0 ∧ fg0 j = 0 ∧ ff0 j = 0 ∧ fk0 j = 0) → (7 - i) < n9 → ∀ (H : Heap) (locs : List Loc), va_P (dC, dI) vwCl [ob a0 0 [.int q, .ref a1, .ref a2, .ref a3, .ref a4, .int vs, .int vb, .int vd], ai a1 cyI 7 fh0, ai a2 cyI 7 fg0, ai a3 cyI 7 ff0, ai a4 cyI 7 fk0] H → va_D A [ob a0 0 [.int q, .ref a1, .ref a2, .ref a3, .ref a4, .int vs, .int vb, .int vd], ai a1 cyI 7 fh0, ai a2 cyI 7 fg0, ai a3 cyI 7 ff0, ai a4 cyI 7 fk0] → va_S A s.heap H locs → ∀ ls : Array Slot, lv_has ls 3 [(0, .ref a0), (1, .int q), (2, .int (nI i))] → W p l e (rm 0) s m args below meth c H locs 0 0 Q (F0 m 7 ls []) := by
    intro n9
    induction n9 with
    | zero =>
      intro i fh0 fg0 ff0 fk0 hi hz hm9
      exact absurd hm9 (Nat.not_lt_zero _)
    | succ n9 ih_7 =>
      intro i fh0 fg0 ff0 fk0 hi hz hm9 H locs hP hD hS ls hl
      refine lv_iload_n hx hb dX0_renew_7 rfl (lv_at hl 2 rfl) ?_
      refine lv_bipush (v := 7) hx hb dX0_renew_8 (by decide) ?_
      refine lv_icmp_ge (tgt := 47) hx hb dX0_renew_10 (by decide) (fun c_10 => ?_) (fun c_10 => ?_)
      · ---- to 47
        have n_10 := (nq_le 7 i (by omega) (by omega)).mp c_10
        obtain ⟨hP, hD⟩ := ra_cong hP hD 1 zF rfl (fun j hj => (hz j (by omega)).1)
        obtain ⟨hP, hD⟩ := ra_cong hP hD 2 zF rfl (fun j hj => (hz j (by omega)).2.1)
        obtain ⟨hP, hD⟩ := ra_cong hP hD 3 zF rfl (fun j hj => (hz j (by omega)).2.2.1)
        obtain ⟨hP, hD⟩ := ra_cong hP hD 4 zF rfl (fun j hj => (hz j (by omega)).2.2.2)
        have hP : va_P (dC, dI) vwCl [ob a0 0 [.int q, .ref a1, .ref a2, .ref a3, .ref a4, .int vs, .int vb, .int vd], ai a1 cyI 7 zF, ai a2 cyI 7 zF, ai a3 cyI 7 zF, ai a4 cyI 7 zF] H := hP
        have hD : va_D A [ob a0 0 [.int q, .ref a1, .ref a2, .ref a3, .ref a4, .int vs, .int vb, .int vd], ai a1 cyI 7 zF, ai a2 cyI 7 zF, ai a3 cyI 7 zF, ai a4 cyI 7 zF] := hD
        refine lv_aload_n hx hb dX0_renew_47 rfl (lv_at hl 0 rfl) ?_
        refine lv_iconst (v := 0) hx hb dX0_renew_48 (by decide) ?_
        refine va_put (D := (dC, dI)) (ci := 0) (v := .int 0) (ty := .int) (C := RX0) (T := TX0) (N := 8) hx hb hts hin_X0 tyX0 tyX0_ok nmX0 hown hK hP hD hS 0 rfl rfl 5 (by decide) hw_3 (fun _ h9 => h9) rfl (by decide +kernel) rfl rfl (Nat.le_of_ble_eq_true rfl) dX0_renew_49 (fun H locs hP hD hS => ?_)
        have hP : va_P (dC, dI) vwCl [ob a0 0 [.int q, .ref a1, .ref a2, .ref a3, .ref a4, .int 0, .int vb, .int vd], ai a1 cyI 7 zF, ai a2 cyI 7 zF, ai a3 cyI 7 zF, ai a4 cyI 7 zF] H := hP
        have hD : va_D A [ob a0 0 [.int q, .ref a1, .ref a2, .ref a3, .ref a4, .int 0, .int vb, .int vd], ai a1 cyI 7 zF, ai a2 cyI 7 zF, ai a3 cyI 7 zF, ai a4 cyI 7 zF] := hD
        refine lv_aload_n hx hb dX0_renew_52 rfl (lv_at hl 0 rfl) ?_
        refine lv_iconst (v := 0) hx hb dX0_renew_53 (by decide) ?_
        refine va_put (D := (dC, dI)) (ci := 0) (v := .int 0) (ty := .int) (C := RX0) (T := TX0) (N := 8) hx hb hts hin_X0 tyX0 tyX0_ok nmX0 hown hK hP hD hS 0 rfl rfl 6 (by decide) hw_4 (fun _ h9 => h9) rfl (by decide +kernel) rfl rfl (Nat.le_of_ble_eq_true rfl) dX0_renew_54 (fun H locs hP hD hS => ?_)
        have hP : va_P (dC, dI) vwCl [ob a0 0 [.int q, .ref a1, .ref a2, .ref a3, .ref a4, .int 0, .int 0, .int vd], ai a1 cyI 7 zF, ai a2 cyI 7 zF, ai a3 cyI 7 zF, ai a4 cyI 7 zF] H := hP
        have hD : va_D A [ob a0 0 [.int q, .ref a1, .ref a2, .ref a3, .ref a4, .int 0, .int 0, .int vd], ai a1 cyI 7 zF, ai a2 cyI 7 zF, ai a3 cyI 7 zF, ai a4 cyI 7 zF] := hD
        refine lv_aload_n hx hb dX0_renew_57 rfl (lv_at hl 0 rfl) ?_
        refine lv_iconst (v := 0) hx hb dX0_renew_58 (by decide) ?_
        refine va_put (D := (dC, dI)) (ci := 0) (v := .int 0) (ty := .int) (C := RX0) (T := TX0) (N := 8) hx hb hts hin_X0 tyX0 tyX0_ok nmX0 hown hK hP hD hS 0 rfl rfl 7 (by decide) hw_5 (fun _ h9 => h9) rfl (by decide +kernel) rfl rfl (Nat.le_of_ble_eq_true rfl) dX0_renew_59 (fun H locs hP hD hS => ?_)
        have hP : va_P (dC, dI) vwCl [ob a0 0 [.int q, .ref a1, .ref a2, .ref a3, .ref a4, .int 0, .int 0, .int 0], ai a1 cyI 7 zF, ai a2 cyI 7 zF, ai a3 cyI 7 zF, ai a4 cyI 7 zF] H := hP
        have hD : va_D A [ob a0 0 [.int q, .ref a1, .ref a2, .ref a3, .ref a4, .int 0, .int 0, .int 0], ai a1 cyI 7 zF, ai a2 cyI 7 zF, ai a3 cyI 7 zF, ai a4 cyI 7 zF] := hD
        rw [hQ]
        exact ra_vretW () hx hb hr hlocks hK hP hD hS trivial dX0_renew_62
      · ---- on
        have n_10 := (nq_le_n 7 i (by omega) (by omega)).mp c_10
        refine lv_aload_n hx hb dX0_renew_13 rfl (lv_at hl 0 rfl) ?_
        refine va_get (D := (dC, dI)) (ci := 0) (v := .ref a1) (C := RX0) (T := TX0) (N := 8) hx hb hts hin_X0 hown hK hP 0 rfl rfl 1 (by decide) hw_6 (fun _ h9 => h9) rfl dX0_renew_14 ?_
        refine lv_iload_n hx hb dX0_renew_17 rfl (lv_at hl 2 rfl) ?_
        refine lv_iconst (v := 0) hx hb dX0_renew_18 (by decide) ?_
        refine ra_iast hx hb hK hP hD hS 1 rfl i rfl (by omega) (Nat.le_of_ble_eq_true rfl) dX0_renew_19 (fun H locs hP hD hS => ?_)
        have hP : va_P (dC, dI) vwCl [ob a0 0 [.int q, .ref a1, .ref a2, .ref a3, .ref a4, .int vs, .int vb, .int vd], ai a1 cyI 7 (upd fh0 i 0), ai a2 cyI 7 fg0, ai a3 cyI 7 ff0, ai a4 cyI 7 fk0] H := hP
        have hD : va_D A [ob a0 0 [.int q, .ref a1, .ref a2, .ref a3, .ref a4, .int vs, .int vb, .int vd], ai a1 cyI 7 (upd fh0 i 0), ai a2 cyI 7 fg0, ai a3 cyI 7 ff0, ai a4 cyI 7 fk0] := hD
        refine lv_aload_n hx hb dX0_renew_20 rfl (lv_at hl 0 rfl) ?_
        refine va_get (D := (dC, dI)) (ci := 0) (v := .ref a2) (C := RX0) (T := TX0) (N := 8) hx hb hts hin_X0 hown hK hP 0 rfl rfl 2 (by decide) hw_7 (fun _ h9 => h9) rfl dX0_renew_21 ?_
        refine lv_iload_n hx hb dX0_renew_24 rfl (lv_at hl 2 rfl) ?_
        refine lv_iconst (v := 0) hx hb dX0_renew_25 (by decide) ?_
        refine ra_iast hx hb hK hP hD hS 2 rfl i rfl (by omega) (Nat.le_of_ble_eq_true rfl) dX0_renew_26 (fun H locs hP hD hS => ?_)
        have hP : va_P (dC, dI) vwCl [ob a0 0 [.int q, .ref a1, .ref a2, .ref a3, .ref a4, .int vs, .int vb, .int vd], ai a1 cyI 7 (upd fh0 i 0), ai a2 cyI 7 (upd fg0 i 0), ai a3 cyI 7 ff0, ai a4 cyI 7 fk0] H := hP
        have hD : va_D A [ob a0 0 [.int q, .ref a1, .ref a2, .ref a3, .ref a4, .int vs, .int vb, .int vd], ai a1 cyI 7 (upd fh0 i 0), ai a2 cyI 7 (upd fg0 i 0), ai a3 cyI 7 ff0, ai a4 cyI 7 fk0] := hD
        refine lv_aload_n hx hb dX0_renew_27 rfl (lv_at hl 0 rfl) ?_
        refine va_get (D := (dC, dI)) (ci := 0) (v := .ref a3) (C := RX0) (T := TX0) (N := 8) hx hb hts hin_X0 hown hK hP 0 rfl rfl 3 (by decide) hw_8 (fun _ h9 => h9) rfl dX0_renew_28 ?_
        refine lv_iload_n hx hb dX0_renew_31 rfl (lv_at hl 2 rfl) ?_
        refine lv_iconst (v := 0) hx hb dX0_renew_32 (by decide) ?_
        refine ra_iast hx hb hK hP hD hS 3 rfl i rfl (by omega) (Nat.le_of_ble_eq_true rfl) dX0_renew_33 (fun H locs hP hD hS => ?_)
        have hP : va_P (dC, dI) vwCl [ob a0 0 [.int q, .ref a1, .ref a2, .ref a3, .ref a4, .int vs, .int vb, .int vd], ai a1 cyI 7 (upd fh0 i 0), ai a2 cyI 7 (upd fg0 i 0), ai a3 cyI 7 (upd ff0 i 0), ai a4 cyI 7 fk0] H := hP
        have hD : va_D A [ob a0 0 [.int q, .ref a1, .ref a2, .ref a3, .ref a4, .int vs, .int vb, .int vd], ai a1 cyI 7 (upd fh0 i 0), ai a2 cyI 7 (upd fg0 i 0), ai a3 cyI 7 (upd ff0 i 0), ai a4 cyI 7 fk0] := hD
        refine lv_aload_n hx hb dX0_renew_34 rfl (lv_at hl 0 rfl) ?_
        refine va_get (D := (dC, dI)) (ci := 0) (v := .ref a4) (C := RX0) (T := TX0) (N := 8) hx hb hts hin_X0 hown hK hP 0 rfl rfl 4 (by decide) hw_9 (fun _ h9 => h9) rfl dX0_renew_35 ?_
        refine lv_iload_n hx hb dX0_renew_38 rfl (lv_at hl 2 rfl) ?_
        refine lv_iconst (v := 0) hx hb dX0_renew_39 (by decide) ?_
        refine ra_iast hx hb hK hP hD hS 4 rfl i rfl (by omega) (Nat.le_of_ble_eq_true rfl) dX0_renew_40 (fun H locs hP hD hS => ?_)
        have hP : va_P (dC, dI) vwCl [ob a0 0 [.int q, .ref a1, .ref a2, .ref a3, .ref a4, .int vs, .int vb, .int vd], ai a1 cyI 7 (upd fh0 i 0), ai a2 cyI 7 (upd fg0 i 0), ai a3 cyI 7 (upd ff0 i 0), ai a4 cyI 7 (upd fk0 i 0)] H := hP
        have hD : va_D A [ob a0 0 [.int q, .ref a1, .ref a2, .ref a3, .ref a4, .int vs, .int vb, .int vd], ai a1 cyI 7 (upd fh0 i 0), ai a2 cyI 7 (upd fg0 i 0), ai a3 cyI 7 (upd ff0 i 0), ai a4 cyI 7 (upd fk0 i 0)] := hD
        refine lv_iinc (v := nI (i + 1)) (lv' := [(2, .int (nI (i + 1))), (0, .ref a0), (1, .int q)]) hx hb dX0_renew_41 hl (k := 2) rfl (ra_inc1 _) (by decide) rfl (fun ls hl => ?_)
        refine lv_goto (tgt := 7) hx hb dX0_renew_44 (by decide) ?_
        exact ih_7 (i + 1) (upd fh0 i 0) (upd fg0 i 0) (upd ff0 i 0) (upd fk0 i 0) (by omega) (fun j hj => by by_cases h : j = i; (· subst h; simp only [pk_us, and_self]); (· simp only [pk_un h]; exact hz j (by omega))) (by omega) H locs hP hD hS ls (lv_sub hl [1, 2, 0] rfl)
  exact L_7 _ 0 fh fg ff fk (by omega) (fun j hj => absurd hj (Nat.not_lt_zero j)) (Nat.lt_succ_self _) H locs hP hD hS ls (lv_sub hl [1, 2, 0] rfl)

set_option maxHeartbeats 4000000 in
set_option maxRecDepth 100000 in
theorem c_X0_copyFrom (l : Launch) (dC : Nat → ClassId) (dI : Nat → Nat → Nat) (cyI cyA : ClassId) (a0 a1 a2 a3 a4 n : Nat) (fh fg ff fk : FN) (vs vb vd : Int32) (b0 b1 b2 b3 b4 n2 : Nat) (oh og of ok : FN) (os obh od : Int32)  (sz : Nat) : Met l yX0_copyFrom wsX0_copyFrom (rm 0) (kW dC dI cyI cyA [.ref a0, .ref b0] sz [ob a0 0 [.int (nI n), .ref a1, .ref a2, .ref a3, .ref a4, .int vs, .int vb, .int vd], ai a1 cyI 7 fh, ai a2 cyI 7 fg, ai a3 cyI 7 ff, ai a4 cyI 7 fk, ob b0 0 [.int (nI n2), .ref b1, .ref b2, .ref b3, .ref b4, .int os, .int obh, .int od], ai b1 cyI 7 oh, ai b2 cyI 7 og, ai b3 cyI 7 of, ai b4 cyI 7 ok]) (qV dC dI cyI cyA (fun (_ : Unit) => True) (va_A [ob a0 0 [.int (nI n), .ref a1, .ref a2, .ref a3, .ref a4, .int vs, .int vb, .int vd], ai a1 cyI 7 fh, ai a2 cyI 7 fg, ai a3 cyI 7 ff, ai a4 cyI 7 fk, ob b0 0 [.int (nI n2), .ref b1, .ref b2, .ref b3, .ref b4, .int os, .int obh, .int od], ai b1 cyI 7 oh, ai b2 cyI 7 og, ai b3 cyI 7 of, ai b4 cyI 7 ok] sz) (fun _ => [ob a0 0 [.int (nI n2), .ref a1, .ref a2, .ref a3, .ref a4, .int os, .int obh, .int od], ai a1 cyI 7 oh, ai a2 cyI 7 og, ai a3 cyI 7 of, ai a4 cyI 7 ok, ob b0 0 [.int (nI n2), .ref b1, .ref b2, .ref b3, .ref b4, .int os, .int obh, .int od], ai b1 cyI 7 oh, ai b2 cyI 7 og, ai b3 cyI 7 of, ai b4 cyI 7 ok])) 0 0 (va_A [ob a0 0 [.int (nI n), .ref a1, .ref a2, .ref a3, .ref a4, .int vs, .int vb, .int vd], ai a1 cyI 7 fh, ai a2 cyI 7 fg, ai a3 cyI 7 ff, ai a4 cyI 7 fk, ob b0 0 [.int (nI n2), .ref b1, .ref b2, .ref b3, .ref b4, .int os, .int obh, .int od], ai b1 cyI 7 oh, ai b2 cyI 7 og, ai b3 cyI 7 of, ai b4 cyI 7 ok] sz) := by
  refine ra_metW (cc := cX0_copyFrom) (maxL := 3) (Qc := fun A => qV dC dI cyI cyA (fun (_ : Unit) => True) A (fun _ => [ob a0 0 [.int (nI n2), .ref a1, .ref a2, .ref a3, .ref a4, .int os, .int obh, .int od], ai a1 cyI 7 oh, ai a2 cyI 7 og, ai a3 cyI 7 of, ai a4 cyI 7 ok, ob b0 0 [.int (nI n2), .ref b1, .ref b2, .ref b3, .ref b4, .int os, .int obh, .int od], ai b1 cyI 7 oh, ai b2 cyI 7 og, ai b3 cyI 7 of, ai b4 cyI 7 ok])) (by decide) rfl (Nat.le_of_ble_eq_true rfl) ?_
  intro p e s m below meth c A args Q hQ hx hb hr hlocks hml hts hown hnm hK hN hP hD hA hS ls hl
  have hl : lv_has ls 3 [(0, .ref a0), (1, .ref b0)] := hl
  have hown : s.vm.findClass RX0 = some m.cls := hown
  have hw_1 := hts (.fieldLink RX0 28 "DuneBench$Coast" "cells" "I") (by decide +kernel)
  have hin_X0 : ∀ w ∈ u_ws RX0 TX0 8, w ∈ wsX0_copyFrom := by decide +kernel
  have hw_3 := hts (.fieldLink RX0 32 "DuneBench$Coast" "sea" "I") (by decide +kernel)
  have hw_4 := hts (.fieldLink RX0 35 "DuneBench$Coast" "behind" "I") (by decide +kernel)
  have hw_5 := hts (.fieldLink RX0 38 "DuneBench$Coast" "flooded" "I") (by decide +kernel)
  have hw_6 := hts (.fieldLink RX0 9 "DuneBench$Coast" "height" "[I") (by decide +kernel)
  have hw_7 := hts (.fieldLink RX0 15 "DuneBench$Coast" "grass" "[I") (by decide +kernel)
  have hw_8 := hts (.fieldLink RX0 18 "DuneBench$Coast" "fence" "[I") (by decide +kernel)
  have hw_9 := hts (.fieldLink RX0 21 "DuneBench$Coast" "kept" "[I") (by decide +kernel)
  obtain ⟨H, hHe⟩ : ∃ H, H = s.heap := ⟨_, rfl⟩
  obtain ⟨locs, hLe⟩ : ∃ locs : List Loc, locs = [] := ⟨_, rfl⟩
  have hP : va_P (dC, dI) vwCl [ob a0 0 [.int (nI n), .ref a1, .ref a2, .ref a3, .ref a4, .int vs, .int vb, .int vd], ai a1 cyI 7 fh, ai a2 cyI 7 fg, ai a3 cyI 7 ff, ai a4 cyI 7 fk, ob b0 0 [.int (nI n2), .ref b1, .ref b2, .ref b3, .ref b4, .int os, .int obh, .int od], ai b1 cyI 7 oh, ai b2 cyI 7 og, ai b3 cyI 7 of, ai b4 cyI 7 ok] H := by rw [hHe]; exact hP
  have hS : va_S A s.heap H locs := by rw [hHe, hLe]; exact hS
  suffices hgo : W p l e (rm 0) s m args below meth c H locs 0 0 Q (F0 m 0 ls []) by rw [hHe, hLe] at hgo; exact hgo
  refine lv_aload_n hx hb dX0_copyFrom_0 rfl (lv_at hl 0 rfl) ?_
  refine lv_aload_n hx hb dX0_copyFrom_1 rfl (lv_at hl 1 rfl) ?_
  refine va_get (D := (dC, dI)) (ci := 0) (v := .int (nI n2)) (C := RX0) (T := TX0) (N := 8) hx hb hts hin_X0 hown hK hP 5 rfl rfl 0 (by decide) hw_1 (fun _ h9 => h9) rfl dX0_copyFrom_2 ?_
  refine va_put (D := (dC, dI)) (ci := 0) (v := .int (nI n2)) (ty := .int) (C := RX0) (T := TX0) (N := 8) hx hb hts hin_X0 tyX0 tyX0_ok nmX0 hown hK hP hD hS 0 rfl rfl 0 (by decide) hw_1 (fun _ h9 => h9) rfl (by decide +kernel) rfl rfl (Nat.le_of_ble_eq_true rfl) dX0_copyFrom_5 (fun H locs hP hD hS => ?_)
  have hP : va_P (dC, dI) vwCl [ob a0 0 [.int (nI n2), .ref a1, .ref a2, .ref a3, .ref a4, .int vs, .int vb, .int vd], ai a1 cyI 7 fh, ai a2 cyI 7 fg, ai a3 cyI 7 ff, ai a4 cyI 7 fk, ob b0 0 [.int (nI n2), .ref b1, .ref b2, .ref b3, .ref b4, .int os, .int obh, .int od], ai b1 cyI 7 oh, ai b2 cyI 7 og, ai b3 cyI 7 of, ai b4 cyI 7 ok] H := hP
  have hD : va_D A [ob a0 0 [.int (nI n2), .ref a1, .ref a2, .ref a3, .ref a4, .int vs, .int vb, .int vd], ai a1 cyI 7 fh, ai a2 cyI 7 fg, ai a3 cyI 7 ff, ai a4 cyI 7 fk, ob b0 0 [.int (nI n2), .ref b1, .ref b2, .ref b3, .ref b4, .int os, .int obh, .int od], ai b1 cyI 7 oh, ai b2 cyI 7 og, ai b3 cyI 7 of, ai b4 cyI 7 ok] := hD
  refine lv_iconst (v := 0) hx hb dX0_copyFrom_8 (by decide) ?_
  refine lv_istore_n (lv' := [(2, .int 0), (0, .ref a0), (1, .ref b0)]) hx hb dX0_copyFrom_9 rfl hl (by decide) rfl (fun ls hl => ?_)
  have L_10 : ∀ (n9 : Nat) (i : Nat) (fh0 : FN) (fg0 : FN) (ff0 : FN) (fk0 : FN), (i ≤ 7) → (∀ j, j < i → fh0 j = oh j ∧ fg0 j = og j ∧ ff0 j = of j ∧ fk0 j = ok j) → (7 - i) < n9 → ∀ (H : Heap) (locs : List Loc), va_P (dC, dI) vwCl [ob a0 0 [.int (nI n2), .ref a1, .ref a2, .ref a3, .ref a4, .int vs, .int vb, .int vd], ai a1 cyI 7 fh0, ai a2 cyI 7 fg0, ai a3 cyI 7 ff0, ai a4 cyI 7 fk0, ob b0 0 [.int (nI n2), .ref b1, .ref b2, .ref b3, .ref b4, .int os, .int obh, .int od], ai b1 cyI 7 oh, ai b2 cyI 7 og, ai b3 cyI 7 of, ai b4 cyI 7 ok] H → va_D A [ob a0 0 [.int (nI n2), .ref a1, .ref a2, .ref a3, .ref a4, .int vs, .int vb, .int vd], ai a1 cyI 7 fh0, ai a2 cyI 7 fg0, ai a3 cyI 7 ff0, ai a4 cyI 7 fk0, ob b0 0 [.int (nI n2), .ref b1, .ref b2, .ref b3, .ref b4, .int os, .int obh, .int od], ai b1 cyI 7 oh, ai b2 cyI 7 og, ai b3 cyI 7 of, ai b4 cyI 7 ok] → va_S A s.heap H locs → ∀ ls : Array Slot, lv_has ls 3 [(0, .ref a0), (1, .ref b0), (2, .int (nI i))] → W p l e (rm 0) s m args below meth c H locs 0 0 Q (F0 m 10 ls []) := by
    intro n9
    induction n9 with
    | zero =>
      intro i fh0 fg0 ff0 fk0 hi hz hm9
      exact absurd hm9 (Nat.not_lt_zero _)
    | succ n9 ih_10 =>
      intro i fh0 fg0 ff0 fk0 hi hz hm9 H locs hP hD hS ls hl
      refine lv_iload_n hx hb dX0_copyFrom_10 rfl (lv_at hl 2 rfl) ?_
      refine lv_bipush (v := 7) hx hb dX0_copyFrom_11 (by decide) ?_
      refine lv_icmp_ge (tgt := 70) hx hb dX0_copyFrom_13 (by decide) (fun c_13 => ?_) (fun c_13 => ?_)
      · ---- to 70
        have n_13 := (nq_le 7 i (by omega) (by omega)).mp c_13
        obtain ⟨hP, hD⟩ := ra_cong hP hD 1 oh rfl (fun j hj => (hz j (by omega)).1)
        obtain ⟨hP, hD⟩ := ra_cong hP hD 2 og rfl (fun j hj => (hz j (by omega)).2.1)
        obtain ⟨hP, hD⟩ := ra_cong hP hD 3 of rfl (fun j hj => (hz j (by omega)).2.2.1)
        obtain ⟨hP, hD⟩ := ra_cong hP hD 4 ok rfl (fun j hj => (hz j (by omega)).2.2.2)
        have hP : va_P (dC, dI) vwCl [ob a0 0 [.int (nI n2), .ref a1, .ref a2, .ref a3, .ref a4, .int vs, .int vb, .int vd], ai a1 cyI 7 oh, ai a2 cyI 7 og, ai a3 cyI 7 of, ai a4 cyI 7 ok, ob b0 0 [.int (nI n2), .ref b1, .ref b2, .ref b3, .ref b4, .int os, .int obh, .int od], ai b1 cyI 7 oh, ai b2 cyI 7 og, ai b3 cyI 7 of, ai b4 cyI 7 ok] H := hP
        have hD : va_D A [ob a0 0 [.int (nI n2), .ref a1, .ref a2, .ref a3, .ref a4, .int vs, .int vb, .int vd], ai a1 cyI 7 oh, ai a2 cyI 7 og, ai a3 cyI 7 of, ai a4 cyI 7 ok, ob b0 0 [.int (nI n2), .ref b1, .ref b2, .ref b3, .ref b4, .int os, .int obh, .int od], ai b1 cyI 7 oh, ai b2 cyI 7 og, ai b3 cyI 7 of, ai b4 cyI 7 ok] := hD
        refine lv_aload_n hx hb dX0_copyFrom_70 rfl (lv_at hl 0 rfl) ?_
        refine lv_aload_n hx hb dX0_copyFrom_71 rfl (lv_at hl 1 rfl) ?_
        refine va_get (D := (dC, dI)) (ci := 0) (v := .int os) (C := RX0) (T := TX0) (N := 8) hx hb hts hin_X0 hown hK hP 5 rfl rfl 5 (by decide) hw_3 (fun _ h9 => h9) rfl dX0_copyFrom_72 ?_
        refine va_put (D := (dC, dI)) (ci := 0) (v := .int os) (ty := .int) (C := RX0) (T := TX0) (N := 8) hx hb hts hin_X0 tyX0 tyX0_ok nmX0 hown hK hP hD hS 0 rfl rfl 5 (by decide) hw_3 (fun _ h9 => h9) rfl (by decide +kernel) rfl rfl (Nat.le_of_ble_eq_true rfl) dX0_copyFrom_75 (fun H locs hP hD hS => ?_)
        have hP : va_P (dC, dI) vwCl [ob a0 0 [.int (nI n2), .ref a1, .ref a2, .ref a3, .ref a4, .int os, .int vb, .int vd], ai a1 cyI 7 oh, ai a2 cyI 7 og, ai a3 cyI 7 of, ai a4 cyI 7 ok, ob b0 0 [.int (nI n2), .ref b1, .ref b2, .ref b3, .ref b4, .int os, .int obh, .int od], ai b1 cyI 7 oh, ai b2 cyI 7 og, ai b3 cyI 7 of, ai b4 cyI 7 ok] H := hP
        have hD : va_D A [ob a0 0 [.int (nI n2), .ref a1, .ref a2, .ref a3, .ref a4, .int os, .int vb, .int vd], ai a1 cyI 7 oh, ai a2 cyI 7 og, ai a3 cyI 7 of, ai a4 cyI 7 ok, ob b0 0 [.int (nI n2), .ref b1, .ref b2, .ref b3, .ref b4, .int os, .int obh, .int od], ai b1 cyI 7 oh, ai b2 cyI 7 og, ai b3 cyI 7 of, ai b4 cyI 7 ok] := hD
        refine lv_aload_n hx hb dX0_copyFrom_78 rfl (lv_at hl 0 rfl) ?_
        refine lv_aload_n hx hb dX0_copyFrom_79 rfl (lv_at hl 1 rfl) ?_
        refine va_get (D := (dC, dI)) (ci := 0) (v := .int obh) (C := RX0) (T := TX0) (N := 8) hx hb hts hin_X0 hown hK hP 5 rfl rfl 6 (by decide) hw_4 (fun _ h9 => h9) rfl dX0_copyFrom_80 ?_
        refine va_put (D := (dC, dI)) (ci := 0) (v := .int obh) (ty := .int) (C := RX0) (T := TX0) (N := 8) hx hb hts hin_X0 tyX0 tyX0_ok nmX0 hown hK hP hD hS 0 rfl rfl 6 (by decide) hw_4 (fun _ h9 => h9) rfl (by decide +kernel) rfl rfl (Nat.le_of_ble_eq_true rfl) dX0_copyFrom_83 (fun H locs hP hD hS => ?_)
        have hP : va_P (dC, dI) vwCl [ob a0 0 [.int (nI n2), .ref a1, .ref a2, .ref a3, .ref a4, .int os, .int obh, .int vd], ai a1 cyI 7 oh, ai a2 cyI 7 og, ai a3 cyI 7 of, ai a4 cyI 7 ok, ob b0 0 [.int (nI n2), .ref b1, .ref b2, .ref b3, .ref b4, .int os, .int obh, .int od], ai b1 cyI 7 oh, ai b2 cyI 7 og, ai b3 cyI 7 of, ai b4 cyI 7 ok] H := hP
        have hD : va_D A [ob a0 0 [.int (nI n2), .ref a1, .ref a2, .ref a3, .ref a4, .int os, .int obh, .int vd], ai a1 cyI 7 oh, ai a2 cyI 7 og, ai a3 cyI 7 of, ai a4 cyI 7 ok, ob b0 0 [.int (nI n2), .ref b1, .ref b2, .ref b3, .ref b4, .int os, .int obh, .int od], ai b1 cyI 7 oh, ai b2 cyI 7 og, ai b3 cyI 7 of, ai b4 cyI 7 ok] := hD
        refine lv_aload_n hx hb dX0_copyFrom_86 rfl (lv_at hl 0 rfl) ?_
        refine lv_aload_n hx hb dX0_copyFrom_87 rfl (lv_at hl 1 rfl) ?_
        refine va_get (D := (dC, dI)) (ci := 0) (v := .int od) (C := RX0) (T := TX0) (N := 8) hx hb hts hin_X0 hown hK hP 5 rfl rfl 7 (by decide) hw_5 (fun _ h9 => h9) rfl dX0_copyFrom_88 ?_
        refine va_put (D := (dC, dI)) (ci := 0) (v := .int od) (ty := .int) (C := RX0) (T := TX0) (N := 8) hx hb hts hin_X0 tyX0 tyX0_ok nmX0 hown hK hP hD hS 0 rfl rfl 7 (by decide) hw_5 (fun _ h9 => h9) rfl (by decide +kernel) rfl rfl (Nat.le_of_ble_eq_true rfl) dX0_copyFrom_91 (fun H locs hP hD hS => ?_)
        have hP : va_P (dC, dI) vwCl [ob a0 0 [.int (nI n2), .ref a1, .ref a2, .ref a3, .ref a4, .int os, .int obh, .int od], ai a1 cyI 7 oh, ai a2 cyI 7 og, ai a3 cyI 7 of, ai a4 cyI 7 ok, ob b0 0 [.int (nI n2), .ref b1, .ref b2, .ref b3, .ref b4, .int os, .int obh, .int od], ai b1 cyI 7 oh, ai b2 cyI 7 og, ai b3 cyI 7 of, ai b4 cyI 7 ok] H := hP
        have hD : va_D A [ob a0 0 [.int (nI n2), .ref a1, .ref a2, .ref a3, .ref a4, .int os, .int obh, .int od], ai a1 cyI 7 oh, ai a2 cyI 7 og, ai a3 cyI 7 of, ai a4 cyI 7 ok, ob b0 0 [.int (nI n2), .ref b1, .ref b2, .ref b3, .ref b4, .int os, .int obh, .int od], ai b1 cyI 7 oh, ai b2 cyI 7 og, ai b3 cyI 7 of, ai b4 cyI 7 ok] := hD
        rw [hQ]
        exact ra_vretW () hx hb hr hlocks hK hP hD hS trivial dX0_copyFrom_94
      · ---- on
        have n_13 := (nq_le_n 7 i (by omega) (by omega)).mp c_13
        refine lv_aload_n hx hb dX0_copyFrom_16 rfl (lv_at hl 0 rfl) ?_
        refine va_get (D := (dC, dI)) (ci := 0) (v := .ref a1) (C := RX0) (T := TX0) (N := 8) hx hb hts hin_X0 hown hK hP 0 rfl rfl 1 (by decide) hw_6 (fun _ h9 => h9) rfl dX0_copyFrom_17 ?_
        refine lv_iload_n hx hb dX0_copyFrom_20 rfl (lv_at hl 2 rfl) ?_
        refine lv_aload_n hx hb dX0_copyFrom_21 rfl (lv_at hl 1 rfl) ?_
        refine va_get (D := (dC, dI)) (ci := 0) (v := .ref b1) (C := RX0) (T := TX0) (N := 8) hx hb hts hin_X0 hown hK hP 5 rfl rfl 1 (by decide) hw_6 (fun _ h9 => h9) rfl dX0_copyFrom_22 ?_
        refine lv_iload_n hx hb dX0_copyFrom_25 rfl (lv_at hl 2 rfl) ?_
        refine ra_iald hx hb hK hP 6 rfl i rfl (by omega) (Nat.le_of_ble_eq_true rfl) dX0_copyFrom_26 ?_
        refine ra_iast hx hb hK hP hD hS 1 rfl i rfl (by omega) (Nat.le_of_ble_eq_true rfl) dX0_copyFrom_27 (fun H locs hP hD hS => ?_)
        have hP : va_P (dC, dI) vwCl [ob a0 0 [.int (nI n2), .ref a1, .ref a2, .ref a3, .ref a4, .int vs, .int vb, .int vd], ai a1 cyI 7 (upd fh0 i (oh i)), ai a2 cyI 7 fg0, ai a3 cyI 7 ff0, ai a4 cyI 7 fk0, ob b0 0 [.int (nI n2), .ref b1, .ref b2, .ref b3, .ref b4, .int os, .int obh, .int od], ai b1 cyI 7 oh, ai b2 cyI 7 og, ai b3 cyI 7 of, ai b4 cyI 7 ok] H := hP
        have hD : va_D A [ob a0 0 [.int (nI n2), .ref a1, .ref a2, .ref a3, .ref a4, .int vs, .int vb, .int vd], ai a1 cyI 7 (upd fh0 i (oh i)), ai a2 cyI 7 fg0, ai a3 cyI 7 ff0, ai a4 cyI 7 fk0, ob b0 0 [.int (nI n2), .ref b1, .ref b2, .ref b3, .ref b4, .int os, .int obh, .int od], ai b1 cyI 7 oh, ai b2 cyI 7 og, ai b3 cyI 7 of, ai b4 cyI 7 ok] := hD
        refine lv_aload_n hx hb dX0_copyFrom_28 rfl (lv_at hl 0 rfl) ?_
        refine va_get (D := (dC, dI)) (ci := 0) (v := .ref a2) (C := RX0) (T := TX0) (N := 8) hx hb hts hin_X0 hown hK hP 0 rfl rfl 2 (by decide) hw_7 (fun _ h9 => h9) rfl dX0_copyFrom_29 ?_
        refine lv_iload_n hx hb dX0_copyFrom_32 rfl (lv_at hl 2 rfl) ?_
        refine lv_aload_n hx hb dX0_copyFrom_33 rfl (lv_at hl 1 rfl) ?_
        refine va_get (D := (dC, dI)) (ci := 0) (v := .ref b2) (C := RX0) (T := TX0) (N := 8) hx hb hts hin_X0 hown hK hP 5 rfl rfl 2 (by decide) hw_7 (fun _ h9 => h9) rfl dX0_copyFrom_34 ?_
        refine lv_iload_n hx hb dX0_copyFrom_37 rfl (lv_at hl 2 rfl) ?_
        refine ra_iald hx hb hK hP 7 rfl i rfl (by omega) (Nat.le_of_ble_eq_true rfl) dX0_copyFrom_38 ?_
        refine ra_iast hx hb hK hP hD hS 2 rfl i rfl (by omega) (Nat.le_of_ble_eq_true rfl) dX0_copyFrom_39 (fun H locs hP hD hS => ?_)
        have hP : va_P (dC, dI) vwCl [ob a0 0 [.int (nI n2), .ref a1, .ref a2, .ref a3, .ref a4, .int vs, .int vb, .int vd], ai a1 cyI 7 (upd fh0 i (oh i)), ai a2 cyI 7 (upd fg0 i (og i)), ai a3 cyI 7 ff0, ai a4 cyI 7 fk0, ob b0 0 [.int (nI n2), .ref b1, .ref b2, .ref b3, .ref b4, .int os, .int obh, .int od], ai b1 cyI 7 oh, ai b2 cyI 7 og, ai b3 cyI 7 of, ai b4 cyI 7 ok] H := hP
        have hD : va_D A [ob a0 0 [.int (nI n2), .ref a1, .ref a2, .ref a3, .ref a4, .int vs, .int vb, .int vd], ai a1 cyI 7 (upd fh0 i (oh i)), ai a2 cyI 7 (upd fg0 i (og i)), ai a3 cyI 7 ff0, ai a4 cyI 7 fk0, ob b0 0 [.int (nI n2), .ref b1, .ref b2, .ref b3, .ref b4, .int os, .int obh, .int od], ai b1 cyI 7 oh, ai b2 cyI 7 og, ai b3 cyI 7 of, ai b4 cyI 7 ok] := hD
        refine lv_aload_n hx hb dX0_copyFrom_40 rfl (lv_at hl 0 rfl) ?_
        refine va_get (D := (dC, dI)) (ci := 0) (v := .ref a3) (C := RX0) (T := TX0) (N := 8) hx hb hts hin_X0 hown hK hP 0 rfl rfl 3 (by decide) hw_8 (fun _ h9 => h9) rfl dX0_copyFrom_41 ?_
        refine lv_iload_n hx hb dX0_copyFrom_44 rfl (lv_at hl 2 rfl) ?_
        refine lv_aload_n hx hb dX0_copyFrom_45 rfl (lv_at hl 1 rfl) ?_
        refine va_get (D := (dC, dI)) (ci := 0) (v := .ref b3) (C := RX0) (T := TX0) (N := 8) hx hb hts hin_X0 hown hK hP 5 rfl rfl 3 (by decide) hw_8 (fun _ h9 => h9) rfl dX0_copyFrom_46 ?_
        refine lv_iload_n hx hb dX0_copyFrom_49 rfl (lv_at hl 2 rfl) ?_
        refine ra_iald hx hb hK hP 8 rfl i rfl (by omega) (Nat.le_of_ble_eq_true rfl) dX0_copyFrom_50 ?_
        refine ra_iast hx hb hK hP hD hS 3 rfl i rfl (by omega) (Nat.le_of_ble_eq_true rfl) dX0_copyFrom_51 (fun H locs hP hD hS => ?_)
        have hP : va_P (dC, dI) vwCl [ob a0 0 [.int (nI n2), .ref a1, .ref a2, .ref a3, .ref a4, .int vs, .int vb, .int vd], ai a1 cyI 7 (upd fh0 i (oh i)), ai a2 cyI 7 (upd fg0 i (og i)), ai a3 cyI 7 (upd ff0 i (of i)), ai a4 cyI 7 fk0, ob b0 0 [.int (nI n2), .ref b1, .ref b2, .ref b3, .ref b4, .int os, .int obh, .int od], ai b1 cyI 7 oh, ai b2 cyI 7 og, ai b3 cyI 7 of, ai b4 cyI 7 ok] H := hP
        have hD : va_D A [ob a0 0 [.int (nI n2), .ref a1, .ref a2, .ref a3, .ref a4, .int vs, .int vb, .int vd], ai a1 cyI 7 (upd fh0 i (oh i)), ai a2 cyI 7 (upd fg0 i (og i)), ai a3 cyI 7 (upd ff0 i (of i)), ai a4 cyI 7 fk0, ob b0 0 [.int (nI n2), .ref b1, .ref b2, .ref b3, .ref b4, .int os, .int obh, .int od], ai b1 cyI 7 oh, ai b2 cyI 7 og, ai b3 cyI 7 of, ai b4 cyI 7 ok] := hD
        refine lv_aload_n hx hb dX0_copyFrom_52 rfl (lv_at hl 0 rfl) ?_
        refine va_get (D := (dC, dI)) (ci := 0) (v := .ref a4) (C := RX0) (T := TX0) (N := 8) hx hb hts hin_X0 hown hK hP 0 rfl rfl 4 (by decide) hw_9 (fun _ h9 => h9) rfl dX0_copyFrom_53 ?_
        refine lv_iload_n hx hb dX0_copyFrom_56 rfl (lv_at hl 2 rfl) ?_
        refine lv_aload_n hx hb dX0_copyFrom_57 rfl (lv_at hl 1 rfl) ?_
        refine va_get (D := (dC, dI)) (ci := 0) (v := .ref b4) (C := RX0) (T := TX0) (N := 8) hx hb hts hin_X0 hown hK hP 5 rfl rfl 4 (by decide) hw_9 (fun _ h9 => h9) rfl dX0_copyFrom_58 ?_
        refine lv_iload_n hx hb dX0_copyFrom_61 rfl (lv_at hl 2 rfl) ?_
        refine ra_iald hx hb hK hP 9 rfl i rfl (by omega) (Nat.le_of_ble_eq_true rfl) dX0_copyFrom_62 ?_
        refine ra_iast hx hb hK hP hD hS 4 rfl i rfl (by omega) (Nat.le_of_ble_eq_true rfl) dX0_copyFrom_63 (fun H locs hP hD hS => ?_)
        have hP : va_P (dC, dI) vwCl [ob a0 0 [.int (nI n2), .ref a1, .ref a2, .ref a3, .ref a4, .int vs, .int vb, .int vd], ai a1 cyI 7 (upd fh0 i (oh i)), ai a2 cyI 7 (upd fg0 i (og i)), ai a3 cyI 7 (upd ff0 i (of i)), ai a4 cyI 7 (upd fk0 i (ok i)), ob b0 0 [.int (nI n2), .ref b1, .ref b2, .ref b3, .ref b4, .int os, .int obh, .int od], ai b1 cyI 7 oh, ai b2 cyI 7 og, ai b3 cyI 7 of, ai b4 cyI 7 ok] H := hP
        have hD : va_D A [ob a0 0 [.int (nI n2), .ref a1, .ref a2, .ref a3, .ref a4, .int vs, .int vb, .int vd], ai a1 cyI 7 (upd fh0 i (oh i)), ai a2 cyI 7 (upd fg0 i (og i)), ai a3 cyI 7 (upd ff0 i (of i)), ai a4 cyI 7 (upd fk0 i (ok i)), ob b0 0 [.int (nI n2), .ref b1, .ref b2, .ref b3, .ref b4, .int os, .int obh, .int od], ai b1 cyI 7 oh, ai b2 cyI 7 og, ai b3 cyI 7 of, ai b4 cyI 7 ok] := hD
        refine lv_iinc (v := nI (i + 1)) (lv' := [(2, .int (nI (i + 1))), (0, .ref a0), (1, .ref b0)]) hx hb dX0_copyFrom_64 hl (k := 2) rfl (ra_inc1 _) (by decide) rfl (fun ls hl => ?_)
        refine lv_goto (tgt := 10) hx hb dX0_copyFrom_67 (by decide) ?_
        exact ih_10 (i + 1) (upd fh0 i (oh i)) (upd fg0 i (og i)) (upd ff0 i (of i)) (upd fk0 i (ok i)) (by omega) (fun j hj => by by_cases h : j = i; (· subst h; simp only [pk_us, and_self]); (· simp only [pk_un h]; exact hz j (by omega))) (by omega) H locs hP hD hS ls (lv_sub hl [1, 2, 0] rfl)
  exact L_10 _ 0 fh fg ff fk (by omega) (fun j hj => absurd hj (Nat.not_lt_zero j)) (Nat.lt_succ_self _) H locs hP hD hS ls (lv_sub hl [1, 2, 0] rfl)

set_option maxHeartbeats 4000000 in
set_option maxRecDepth 100000 in
theorem c_X0_row0 (l : Launch) (dC : Nat → ClassId) (dI : Nat → Nat → Nat) (cyI cyA : ClassId) (a0 a1 a2 a3 a4 n : Nat) (fh fg ff fk : FN) (vs vb vd : Int32)  : Met l yX0_row wsX0_row (rm 0) (kR dC dI cyI cyA [.ref a0, .int 0] [ob a0 0 [.int (nI n), .ref a1, .ref a2, .ref a3, .ref a4, .int vs, .int vb, .int vd], ai a1 cyI 7 fh, ai a2 cyI 7 fg, ai a3 cyI 7 ff, ai a4 cyI 7 fk]) (QcRef a1) 0 0 (fun _ => False) := by
  refine ra_metRr (cc := cX0_row) (maxL := 2) (by decide) rfl (Nat.le_of_ble_eq_true rfl) ?_
  intro p e s m below meth c args Q hQ hx hb hr hlocks hml hts hown hK hN hP ls hl
  have hl : lv_has ls 2 [(0, .ref a0), (1, .int 0)] := hl
  have hown : s.vm.findClass RX0 = some m.cls := hown
  have hw_1 := hts (.fieldLink RX0 9 "DuneBench$Coast" "height" "[I") (by decide +kernel)
  have hin_X0 : ∀ w ∈ u_ws RX0 TX0 8, w ∈ wsX0_row := by decide +kernel
  refine lv_iload_n hx hb dX0_row_0 rfl (lv_at hl 1 rfl) ?_
  refine lv_tableIn (off := 27) (tgt := 28) hx hb dX0_row_1 (by decide) (by decide) (by decide) (by decide) ?_
  refine lv_aload_n hx hb dX0_row_28 rfl (lv_at hl 0 rfl) ?_
  refine va_get (D := (dC, dI)) (ci := 0) (v := .ref a1) (C := RX0) (T := TX0) (N := 8) hx hb hts hin_X0 hown hK hP 0 rfl rfl 1 (by decide) hw_1 (fun _ h9 => h9) rfl dX0_row_29 ?_
  rw [hQ]
  exact ra_aretR hx hb hr hlocks dX0_row_32

set_option maxHeartbeats 4000000 in
set_option maxRecDepth 100000 in
theorem c_X0_row1 (l : Launch) (dC : Nat → ClassId) (dI : Nat → Nat → Nat) (cyI cyA : ClassId) (a0 a1 a2 a3 a4 n : Nat) (fh fg ff fk : FN) (vs vb vd : Int32)  : Met l yX0_row wsX0_row (rm 0) (kR dC dI cyI cyA [.ref a0, .int 1] [ob a0 0 [.int (nI n), .ref a1, .ref a2, .ref a3, .ref a4, .int vs, .int vb, .int vd], ai a1 cyI 7 fh, ai a2 cyI 7 fg, ai a3 cyI 7 ff, ai a4 cyI 7 fk]) (QcRef a2) 0 0 (fun _ => False) := by
  refine ra_metRr (cc := cX0_row) (maxL := 2) (by decide) rfl (Nat.le_of_ble_eq_true rfl) ?_
  intro p e s m below meth c args Q hQ hx hb hr hlocks hml hts hown hK hN hP ls hl
  have hl : lv_has ls 2 [(0, .ref a0), (1, .int 1)] := hl
  have hown : s.vm.findClass RX0 = some m.cls := hown
  have hw_1 := hts (.fieldLink RX0 15 "DuneBench$Coast" "grass" "[I") (by decide +kernel)
  have hin_X0 : ∀ w ∈ u_ws RX0 TX0 8, w ∈ wsX0_row := by decide +kernel
  refine lv_iload_n hx hb dX0_row_0 rfl (lv_at hl 1 rfl) ?_
  refine lv_tableIn (off := 32) (tgt := 33) hx hb dX0_row_1 (by decide) (by decide) (by decide) (by decide) ?_
  refine lv_aload_n hx hb dX0_row_33 rfl (lv_at hl 0 rfl) ?_
  refine va_get (D := (dC, dI)) (ci := 0) (v := .ref a2) (C := RX0) (T := TX0) (N := 8) hx hb hts hin_X0 hown hK hP 0 rfl rfl 2 (by decide) hw_1 (fun _ h9 => h9) rfl dX0_row_34 ?_
  rw [hQ]
  exact ra_aretR hx hb hr hlocks dX0_row_37

set_option maxHeartbeats 4000000 in
set_option maxRecDepth 100000 in
theorem c_X0_row2 (l : Launch) (dC : Nat → ClassId) (dI : Nat → Nat → Nat) (cyI cyA : ClassId) (a0 a1 a2 a3 a4 n : Nat) (fh fg ff fk : FN) (vs vb vd : Int32)  : Met l yX0_row wsX0_row (rm 0) (kR dC dI cyI cyA [.ref a0, .int 2] [ob a0 0 [.int (nI n), .ref a1, .ref a2, .ref a3, .ref a4, .int vs, .int vb, .int vd], ai a1 cyI 7 fh, ai a2 cyI 7 fg, ai a3 cyI 7 ff, ai a4 cyI 7 fk]) (QcRef a3) 0 0 (fun _ => False) := by
  refine ra_metRr (cc := cX0_row) (maxL := 2) (by decide) rfl (Nat.le_of_ble_eq_true rfl) ?_
  intro p e s m below meth c args Q hQ hx hb hr hlocks hml hts hown hK hN hP ls hl
  have hl : lv_has ls 2 [(0, .ref a0), (1, .int 2)] := hl
  have hown : s.vm.findClass RX0 = some m.cls := hown
  have hw_1 := hts (.fieldLink RX0 18 "DuneBench$Coast" "fence" "[I") (by decide +kernel)
  have hin_X0 : ∀ w ∈ u_ws RX0 TX0 8, w ∈ wsX0_row := by decide +kernel
  refine lv_iload_n hx hb dX0_row_0 rfl (lv_at hl 1 rfl) ?_
  refine lv_tableIn (off := 37) (tgt := 38) hx hb dX0_row_1 (by decide) (by decide) (by decide) (by decide) ?_
  refine lv_aload_n hx hb dX0_row_38 rfl (lv_at hl 0 rfl) ?_
  refine va_get (D := (dC, dI)) (ci := 0) (v := .ref a3) (C := RX0) (T := TX0) (N := 8) hx hb hts hin_X0 hown hK hP 0 rfl rfl 3 (by decide) hw_1 (fun _ h9 => h9) rfl dX0_row_39 ?_
  rw [hQ]
  exact ra_aretR hx hb hr hlocks dX0_row_42

set_option maxHeartbeats 4000000 in
set_option maxRecDepth 100000 in
theorem c_X0_row3 (l : Launch) (dC : Nat → ClassId) (dI : Nat → Nat → Nat) (cyI cyA : ClassId) (a0 a1 a2 a3 a4 n : Nat) (fh fg ff fk : FN) (vs vb vd : Int32)  : Met l yX0_row wsX0_row (rm 0) (kR dC dI cyI cyA [.ref a0, .int 3] [ob a0 0 [.int (nI n), .ref a1, .ref a2, .ref a3, .ref a4, .int vs, .int vb, .int vd], ai a1 cyI 7 fh, ai a2 cyI 7 fg, ai a3 cyI 7 ff, ai a4 cyI 7 fk]) (QcRef a4) 0 0 (fun _ => False) := by
  refine ra_metRr (cc := cX0_row) (maxL := 2) (by decide) rfl (Nat.le_of_ble_eq_true rfl) ?_
  intro p e s m below meth c args Q hQ hx hb hr hlocks hml hts hown hK hN hP ls hl
  have hl : lv_has ls 2 [(0, .ref a0), (1, .int 3)] := hl
  have hown : s.vm.findClass RX0 = some m.cls := hown
  have hw_1 := hts (.fieldLink RX0 21 "DuneBench$Coast" "kept" "[I") (by decide +kernel)
  have hin_X0 : ∀ w ∈ u_ws RX0 TX0 8, w ∈ wsX0_row := by decide +kernel
  refine lv_iload_n hx hb dX0_row_0 rfl (lv_at hl 1 rfl) ?_
  refine lv_tableOut (tgt := 43) hx hb dX0_row_1 (by decide) (by decide) ?_
  refine lv_aload_n hx hb dX0_row_43 rfl (lv_at hl 0 rfl) ?_
  refine va_get (D := (dC, dI)) (ci := 0) (v := .ref a4) (C := RX0) (T := TX0) (N := 8) hx hb hts hin_X0 hown hK hP 0 rfl rfl 4 (by decide) hw_1 (fun _ h9 => h9) rfl dX0_row_44 ?_
  rw [hQ]
  exact ra_aretR hx hb hr hlocks dX0_row_47

set_option maxHeartbeats 4000000 in
set_option maxRecDepth 100000 in
theorem c_X1_forget (l : Launch) (dC : Nat → ClassId) (dI : Nat → Nat → Nat) (cyI cyA : ClassId) (e0 e1 : Nat) (fr : FN)  (sz : Nat) : Met l yX1_forget wsX1_forget (rm 0) (kW dC dI cyI cyA [.ref e0] sz [ob e0 1 [.ref e1], ai e1 cyI 7 fr]) (qV dC dI cyI cyA (fun (_ : Unit) => True) (va_A [ob e0 1 [.ref e1], ai e1 cyI 7 fr] sz) (fun _ => [ob e0 1 [.ref e1], ai e1 cyI 7 mF])) 0 0 (va_A [ob e0 1 [.ref e1], ai e1 cyI 7 fr] sz) := by
  refine ra_metW (cc := cX1_forget) (maxL := 2) (Qc := fun A => qV dC dI cyI cyA (fun (_ : Unit) => True) A (fun _ => [ob e0 1 [.ref e1], ai e1 cyI 7 mF])) (by decide) rfl (Nat.le_of_ble_eq_true rfl) ?_
  intro p e s m below meth c A args Q hQ hx hb hr hlocks hml hts hown hnm hK hN hP hD hA hS ls hl
  have hl : lv_has ls 2 [(0, .ref e0)] := hl
  have hown : s.vm.findClass RX1 = some m.cls := hown
  have hw_1 := hts (.fieldLink RX1 9 "DuneBench$Survey" "reading" "[I") (by decide +kernel)
  have hin_X1 : ∀ w ∈ u_ws RX1 TX1 1, w ∈ wsX1_forget := by decide +kernel
  obtain ⟨H, hHe⟩ : ∃ H, H = s.heap := ⟨_, rfl⟩
  obtain ⟨locs, hLe⟩ : ∃ locs : List Loc, locs = [] := ⟨_, rfl⟩
  have hP : va_P (dC, dI) vwCl [ob e0 1 [.ref e1], ai e1 cyI 7 fr] H := by rw [hHe]; exact hP
  have hS : va_S A s.heap H locs := by rw [hHe, hLe]; exact hS
  suffices hgo : W p l e (rm 0) s m args below meth c H locs 0 0 Q (F0 m 0 ls []) by rw [hHe, hLe] at hgo; exact hgo
  refine lv_iconst (v := 0) hx hb dX1_forget_0 (by decide) ?_
  refine lv_istore_n (lv' := [(1, .int 0), (0, .ref e0)]) hx hb dX1_forget_1 rfl hl (by decide) rfl (fun ls hl => ?_)
  have L_2 : ∀ (n9 : Nat) (i : Nat) (fr0 : FN), (i ≤ 7) → (∀ j, j < i → fr0 j = -1) → (7 - i) < n9 → ∀ (H : Heap) (locs : List Loc), va_P (dC, dI) vwCl [ob e0 1 [.ref e1], ai e1 cyI 7 fr0] H → va_D A [ob e0 1 [.ref e1], ai e1 cyI 7 fr0] → va_S A s.heap H locs → ∀ ls : Array Slot, lv_has ls 2 [(0, .ref e0), (1, .int (nI i))] → W p l e (rm 0) s m args below meth c H locs 0 0 Q (F0 m 2 ls []) := by
    intro n9
    induction n9 with
    | zero =>
      intro i fr0 hi hz hm9
      exact absurd hm9 (Nat.not_lt_zero _)
    | succ n9 ih_2 =>
      intro i fr0 hi hz hm9 H locs hP hD hS ls hl
      refine lv_iload_n hx hb dX1_forget_2 rfl (lv_at hl 1 rfl) ?_
      refine lv_bipush (v := 7) hx hb dX1_forget_3 (by decide) ?_
      refine lv_icmp_ge (tgt := 21) hx hb dX1_forget_5 (by decide) (fun c_5 => ?_) (fun c_5 => ?_)
      · ---- to 21
        have n_5 := (nq_le 7 i (by omega) (by omega)).mp c_5
        obtain ⟨hP, hD⟩ := ra_cong hP hD 1 mF rfl (fun j hj => hz j (by omega))
        have hP : va_P (dC, dI) vwCl [ob e0 1 [.ref e1], ai e1 cyI 7 mF] H := hP
        have hD : va_D A [ob e0 1 [.ref e1], ai e1 cyI 7 mF] := hD
        rw [hQ]
        exact ra_vretW () hx hb hr hlocks hK hP hD hS trivial dX1_forget_21
      · ---- on
        have n_5 := (nq_le_n 7 i (by omega) (by omega)).mp c_5
        refine lv_aload_n hx hb dX1_forget_8 rfl (lv_at hl 0 rfl) ?_
        refine va_get (D := (dC, dI)) (ci := 1) (v := .ref e1) (C := RX1) (T := TX1) (N := 1) hx hb hts hin_X1 hown hK hP 0 rfl rfl 0 (by decide) hw_1 (fun _ h9 => h9) rfl dX1_forget_9 ?_
        refine lv_iload_n hx hb dX1_forget_12 rfl (lv_at hl 1 rfl) ?_
        refine lv_iconst (v := (-1)) hx hb dX1_forget_13 (by decide) ?_
        refine ra_iast hx hb hK hP hD hS 1 rfl i rfl (by omega) (Nat.le_of_ble_eq_true rfl) dX1_forget_14 (fun H locs hP hD hS => ?_)
        have hP : va_P (dC, dI) vwCl [ob e0 1 [.ref e1], ai e1 cyI 7 (upd fr0 i (-1))] H := hP
        have hD : va_D A [ob e0 1 [.ref e1], ai e1 cyI 7 (upd fr0 i (-1))] := hD
        refine lv_iinc (v := nI (i + 1)) (lv' := [(1, .int (nI (i + 1))), (0, .ref e0)]) hx hb dX1_forget_15 hl (k := 1) rfl (ra_inc1 _) (by decide) rfl (fun ls hl => ?_)
        refine lv_goto (tgt := 2) hx hb dX1_forget_18 (by decide) ?_
        exact ih_2 (i + 1) (upd fr0 i (-1)) (by omega) (fun j hj => by by_cases h : j = i; (· subst h; exact pk_us); (· rw [pk_un h]; exact hz j (by omega))) (by omega) H locs hP hD hS ls (lv_sub hl [1, 0] rfl)
  exact L_2 _ 0 fr (by omega) (fun j hj => absurd hj (Nat.not_lt_zero j)) (Nat.lt_succ_self _) H locs hP hD hS ls (lv_sub hl [1, 0] rfl)

set_option maxHeartbeats 4000000 in
set_option maxRecDepth 100000 in
theorem c_X1_put (l : Launch) (dC : Nat → ClassId) (dI : Nat → Nat → Nat) (cyI cyA : ClassId) (e0 e1 : Nat) (fr : FN) (j : Nat) (v : Int32) (hj : j < 7) (sz : Nat) : Met l yX1_put wsX1_put (rm 0) (kW dC dI cyI cyA [.ref e0, .int (nI j), .int v] sz [ob e0 1 [.ref e1], ai e1 cyI 7 fr]) (qI dC dI cyI cyA (fun (r : Int32) (_ : Unit) => r = fr j) (va_A [ob e0 1 [.ref e1], ai e1 cyI 7 fr] sz) (fun _ => [ob e0 1 [.ref e1], ai e1 cyI 7 (upd fr j v)])) 0 0 (va_A [ob e0 1 [.ref e1], ai e1 cyI 7 fr] sz) := by
  refine ra_metW (cc := cX1_put) (maxL := 4) (Qc := fun A => qI dC dI cyI cyA (fun (r : Int32) (_ : Unit) => r = fr j) A (fun _ => [ob e0 1 [.ref e1], ai e1 cyI 7 (upd fr j v)])) (by decide) rfl (Nat.le_of_ble_eq_true rfl) ?_
  intro p e s m below meth c A args Q hQ hx hb hr hlocks hml hts hown hnm hK hN hP hD hA hS ls hl
  have hl : lv_has ls 4 [(0, .ref e0), (1, .int (nI j)), (2, .int v)] := hl
  have hown : s.vm.findClass RX1 = some m.cls := hown
  have hw_1 := hts (.fieldLink RX1 9 "DuneBench$Survey" "reading" "[I") (by decide +kernel)
  have hin_X1 : ∀ w ∈ u_ws RX1 TX1 1, w ∈ wsX1_put := by decide +kernel
  obtain ⟨H, hHe⟩ : ∃ H, H = s.heap := ⟨_, rfl⟩
  obtain ⟨locs, hLe⟩ : ∃ locs : List Loc, locs = [] := ⟨_, rfl⟩
  have hP : va_P (dC, dI) vwCl [ob e0 1 [.ref e1], ai e1 cyI 7 fr] H := by rw [hHe]; exact hP
  have hS : va_S A s.heap H locs := by rw [hHe, hLe]; exact hS
  suffices hgo : W p l e (rm 0) s m args below meth c H locs 0 0 Q (F0 m 0 ls []) by rw [hHe, hLe] at hgo; exact hgo
  refine lv_aload_n hx hb dX1_put_0 rfl (lv_at hl 0 rfl) ?_
  refine va_get (D := (dC, dI)) (ci := 1) (v := .ref e1) (C := RX1) (T := TX1) (N := 1) hx hb hts hin_X1 hown hK hP 0 rfl rfl 0 (by decide) hw_1 (fun _ h9 => h9) rfl dX1_put_1 ?_
  refine lv_iload_n hx hb dX1_put_4 rfl (lv_at hl 1 rfl) ?_
  refine ra_iald hx hb hK hP 1 rfl j rfl (by omega) (Nat.le_of_ble_eq_true rfl) dX1_put_5 ?_
  refine lv_istore_n (lv' := [(3, .int (fr j)), (0, .ref e0), (1, .int (nI j)), (2, .int v)]) hx hb dX1_put_6 rfl hl (by decide) rfl (fun ls hl => ?_)
  refine lv_aload_n hx hb dX1_put_7 rfl (lv_at hl 1 rfl) ?_
  refine va_get (D := (dC, dI)) (ci := 1) (v := .ref e1) (C := RX1) (T := TX1) (N := 1) hx hb hts hin_X1 hown hK hP 0 rfl rfl 0 (by decide) hw_1 (fun _ h9 => h9) rfl dX1_put_8 ?_
  refine lv_iload_n hx hb dX1_put_11 rfl (lv_at hl 2 rfl) ?_
  refine lv_iload_n hx hb dX1_put_12 rfl (lv_at hl 3 rfl) ?_
  refine ra_iast hx hb hK hP hD hS 1 rfl j rfl (by omega) (Nat.le_of_ble_eq_true rfl) dX1_put_13 (fun H locs hP hD hS => ?_)
  have hP : va_P (dC, dI) vwCl [ob e0 1 [.ref e1], ai e1 cyI 7 (upd fr j v)] H := hP
  have hD : va_D A [ob e0 1 [.ref e1], ai e1 cyI 7 (upd fr j v)] := hD
  refine lv_iload_n hx hb dX1_put_14 rfl (lv_at hl 0 rfl) ?_
  rw [hQ]
  exact ra_iretW () hx hb hr hlocks rfl hK hP hD hS rfl dX1_put_15

set_option maxHeartbeats 4000000 in
set_option maxRecDepth 100000 in
theorem c_X1_readings (l : Launch) (dC : Nat → ClassId) (dI : Nat → Nat → Nat) (cyI cyA : ClassId) (e0 e1 : Nat) (fr : FN)  : Met l yX1_readings wsX1_readings (rm 0) (kR dC dI cyI cyA [.ref e0] [ob e0 1 [.ref e1], ai e1 cyI 7 fr]) (QcRead (nI (cntR fr 7 0 0))) 0 0 (fun _ => False) := by
  refine ra_metR (cc := cX1_readings) (maxL := 3) (by decide) rfl (Nat.le_of_ble_eq_true rfl) ?_
  intro p e s m below meth c args Q hQ hx hb hr hlocks hml hts hown hK hN hP ls hl
  have hl : lv_has ls 3 [(0, .ref e0)] := hl
  have hown : s.vm.findClass RX1 = some m.cls := hown
  have hw_1 := hts (.fieldLink RX1 9 "DuneBench$Survey" "reading" "[I") (by decide +kernel)
  have hin_X1 : ∀ w ∈ u_ws RX1 TX1 1, w ∈ wsX1_readings := by decide +kernel
  refine lv_iconst (v := 0) hx hb dX1_readings_0 (by decide) ?_
  refine lv_istore_n (lv' := [(1, .int 0), (0, .ref e0)]) hx hb dX1_readings_1 rfl hl (by decide) rfl (fun ls hl => ?_)
  refine lv_iconst (v := 0) hx hb dX1_readings_2 (by decide) ?_
  refine lv_istore_n (lv' := [(2, .int 0), (1, .int 0), (0, .ref e0)]) hx hb dX1_readings_3 rfl hl (by decide) rfl (fun ls hl => ?_)
  have L_4 : ∀ (n9 : Nat) (i : Nat) (x : Nat), (i ≤ 7) → (cntR fr (7 - i) i x = cntR fr 7 0 0) → (7 - i) < n9 → ∀ ls : Array Slot, lv_has ls 3 [(0, .ref e0), (1, .int (nI x)), (2, .int (nI i))] → W p l e (rm 0) s m args below meth c s.heap [] 0 0 Q (F0 m 4 ls []) := by
    intro n9
    induction n9 with
    | zero =>
      intro i x hi he hm9
      exact absurd hm9 (Nat.not_lt_zero _)
    | succ n9 ih_4 =>
      intro i x hi he hm9 ls hl
      refine lv_iload_n hx hb dX1_readings_4 rfl (lv_at hl 2 rfl) ?_
      refine lv_bipush (v := 7) hx hb dX1_readings_5 (by decide) ?_
      refine lv_icmp_ge (tgt := 29) hx hb dX1_readings_7 (by decide) (fun c_7 => ?_) (fun c_7 => ?_)
      · ---- to 29
        have n_7 := (nq_le 7 i (by omega) (by omega)).mp c_7
        refine lv_iload_n hx hb dX1_readings_29 rfl (lv_at hl 1 rfl) ?_
        rw [hQ]
        exact ra_iretR hx hb hr hlocks rfl (by rw [← he, show 7 - i = 0 by omega]; rfl) dX1_readings_30
      · ---- on
        have n_7 := (nq_le_n 7 i (by omega) (by omega)).mp c_7
        refine lv_aload_n hx hb dX1_readings_10 rfl (lv_at hl 0 rfl) ?_
        refine va_get (D := (dC, dI)) (ci := 1) (v := .ref e1) (C := RX1) (T := TX1) (N := 1) hx hb hts hin_X1 hown hK hP 0 rfl rfl 0 (by decide) hw_1 (fun _ h9 => h9) rfl dX1_readings_11 ?_
        refine lv_iload_n hx hb dX1_readings_14 rfl (lv_at hl 2 rfl) ?_
        refine ra_iald hx hb hK hP 1 rfl i rfl (by omega) (Nat.le_of_ble_eq_true rfl) dX1_readings_15 ?_
        refine lv_iconst (v := (-1)) hx hb dX1_readings_16 (by decide) ?_
        refine lv_icmp_eq (tgt := 23) hx hb dX1_readings_17 (by decide) (fun c_17 => ?_) (fun c_17 => ?_)
        · ---- to 23
          refine lv_iinc (v := nI (i + 1)) (lv' := [(2, .int (nI (i + 1))), (0, .ref e0), (1, .int (nI x))]) hx hb dX1_readings_23 hl (k := 2) rfl (ra_inc1 _) (by decide) rfl (fun ls hl => ?_)
          refine lv_goto (tgt := 4) hx hb dX1_readings_26 (by decide) ?_
          exact ih_4 (i + 1) x (by omega) (by rw [← he, show 7 - i = 7 - (i + 1) + 1 by omega]; show _ = cntR fr _ _ (if _ then _ else _); first | rw [if_pos c_17] | rw [if_neg c_17]) (by omega) ls (lv_sub hl [1, 2, 0] rfl)
        · ---- on
          refine lv_iinc (v := nI (x + 1)) (lv' := [(1, .int (nI (x + 1))), (0, .ref e0), (2, .int (nI i))]) hx hb dX1_readings_20 hl (k := 1) rfl (ra_inc1 _) (by decide) rfl (fun ls hl => ?_)
          refine lv_iinc (v := nI (i + 1)) (lv' := [(2, .int (nI (i + 1))), (1, .int (nI (x + 1))), (0, .ref e0)]) hx hb dX1_readings_23 hl (k := 2) rfl (ra_inc1 _) (by decide) rfl (fun ls hl => ?_)
          refine lv_goto (tgt := 4) hx hb dX1_readings_26 (by decide) ?_
          exact ih_4 (i + 1) (x + 1) (by omega) (by rw [← he, show 7 - i = 7 - (i + 1) + 1 by omega]; show _ = cntR fr _ _ (if _ then _ else _); first | rw [if_pos c_17] | rw [if_neg c_17]) (by omega) ls (lv_sub hl [2, 1, 0] rfl)
  exact L_4 _ 0 0 (by omega) rfl (Nat.lt_succ_self _) ls (lv_sub hl [2, 1, 0] rfl)

set_option maxHeartbeats 4000000 in
set_option maxRecDepth 100000 in
theorem c_X1_nearest (l : Launch) (dC : Nat → ClassId) (dI : Nat → Nat → Nat) (cyI cyA : ClassId) (e0 e1 : Nat) (fr : FN) (a st : Int32) (n : Nat) (mi : Int32) (hn : n ≤ 7) : Met l yX1_nearest wsX1_nearest (rm 0) (kR dC dI cyI cyA [.ref e0, .int a, .int st, .int (nI n), .int mi] [ob e0 1 [.ref e1], ai e1 cyI 7 fr]) (QcRead (near fr st mi n 7 a)) 0 0 (fun _ => False) := by
  refine ra_metR (cc := cX1_nearest) (maxL := 7) (by decide) rfl (Nat.le_of_ble_eq_true rfl) ?_
  intro p e s m below meth c args Q hQ hx hb hr hlocks hml hts hown hK hN hP ls hl
  have hl : lv_has ls 7 [(0, .ref e0), (1, .int a), (2, .int st), (3, .int (nI n)), (4, .int mi)] := hl
  have hown : s.vm.findClass RX1 = some m.cls := hown
  have hw_1 := hts (.fieldLink RX1 9 "DuneBench$Survey" "reading" "[I") (by decide +kernel)
  have hin_X1 : ∀ w ∈ u_ws RX1 TX1 1, w ∈ wsX1_nearest := by decide +kernel
  refine lv_iload_n hx hb dX1_nearest_0 rfl (lv_at hl 1 rfl) ?_
  refine lv_istore (lv' := [(5, .int a), (0, .ref e0), (1, .int a), (2, .int st), (3, .int (nI n)), (4, .int mi)]) hx hb dX1_nearest_1 hl (by decide) rfl (fun ls hl => ?_)
  refine lv_iconst (v := 0) hx hb dX1_nearest_3 (by decide) ?_
  refine lv_istore (lv' := [(6, .int 0), (5, .int a), (0, .ref e0), (1, .int a), (2, .int st), (3, .int (nI n)), (4, .int mi)]) hx hb dX1_nearest_4 hl (by decide) rfl (fun ls hl => ?_)
  have L_6 : ∀ (n9 : Nat) (i : Nat) (x : Int32), (i ≤ 7) → (near fr st mi n (7 - i) x = near fr st mi n 7 a) → (7 - i) < n9 → ∀ ls : Array Slot, lv_has ls 7 [(0, .ref e0), (1, .int a), (2, .int st), (3, .int (nI n)), (4, .int mi), (5, .int x), (6, .int (nI i))] → W p l e (rm 0) s m args below meth c s.heap [] 0 0 Q (F0 m 6 ls []) := by
    intro n9
    induction n9 with
    | zero =>
      intro i x hi he hm9
      exact absurd hm9 (Nat.not_lt_zero _)
    | succ n9 ih_6 =>
      intro i x hi he hm9 ls hl
      refine lv_iload hx hb dX1_nearest_6 (lv_at hl 6 rfl) ?_
      refine lv_bipush (v := 7) hx hb dX1_nearest_8 (by decide) ?_
      refine lv_icmp_ge (tgt := 57) hx hb dX1_nearest_10 (by decide) (fun c_10 => ?_) (fun c_10 => ?_)
      · ---- to 57
        have n_10 := (nq_le 7 i (by omega) (by omega)).mp c_10
        refine lv_iconst (v := (-1)) hx hb dX1_nearest_57 (by decide) ?_
        rw [hQ]
        exact ra_iretR hx hb hr hlocks rfl (by rw [← he]; first | (rw [show 7 - i = 0 by omega]; rfl) | (rw [show 7 - i = 7 - (i + 1) + 1 by omega]; show _ = ite _ _ _; first | (rw [if_pos c_15]; done) | (rw [if_neg c_15, if_pos c_21]; done))) dX1_nearest_58
      · ---- on
        have n_10 := (nq_le_n 7 i (by omega) (by omega)).mp c_10
        refine lv_iload hx hb dX1_nearest_13 (lv_at hl 5 rfl) ?_
        refine lv_if_lt (tgt := 57) hx hb dX1_nearest_15 (by decide) (fun c_15 => ?_) (fun c_15 => ?_)
        · ---- to 57
          refine lv_iconst (v := (-1)) hx hb dX1_nearest_57 (by decide) ?_
          rw [hQ]
          exact ra_iretR hx hb hr hlocks rfl (by rw [← he]; first | (rw [show 7 - i = 0 by omega]; rfl) | (rw [show 7 - i = 7 - (i + 1) + 1 by omega]; show _ = ite _ _ _; first | (rw [if_pos c_15]; done) | (rw [if_neg c_15, if_pos c_21]; done))) dX1_nearest_58
        · ---- on
          refine lv_iload hx hb dX1_nearest_18 (lv_at hl 5 rfl) ?_
          refine lv_iload_n hx hb dX1_nearest_20 rfl (lv_at hl 3 rfl) ?_
          refine lv_icmp_ge (tgt := 57) hx hb dX1_nearest_21 (by decide) (fun c_21 => ?_) (fun c_21 => ?_)
          · ---- to 57
            refine lv_iconst (v := (-1)) hx hb dX1_nearest_57 (by decide) ?_
            rw [hQ]
            exact ra_iretR hx hb hr hlocks rfl (by rw [← he]; first | (rw [show 7 - i = 0 by omega]; rfl) | (rw [show 7 - i = 7 - (i + 1) + 1 by omega]; show _ = ite _ _ _; first | (rw [if_pos c_15]; done) | (rw [if_neg c_15, if_pos c_21]; done))) dX1_nearest_58
          · ---- on
            refine lv_aload_n hx hb dX1_nearest_24 rfl (lv_at hl 0 rfl) ?_
            refine va_get (D := (dC, dI)) (ci := 1) (v := .ref e1) (C := RX1) (T := TX1) (N := 1) hx hb hts hin_X1 hown hK hP 0 rfl rfl 0 (by decide) hw_1 (fun _ h9 => h9) rfl dX1_nearest_25 ?_
            refine lv_iload hx hb dX1_nearest_28 (lv_at hl 5 rfl) ?_
            refine ra_iald hx hb hK hP 1 rfl x.toNatClampNeg (i32_cl c_15) (Nat.lt_of_lt_of_le (i32_cb c_15 c_21 hn) hn) (Nat.le_of_ble_eq_true rfl) dX1_nearest_30 ?_
            refine lv_iconst (v := (-1)) hx hb dX1_nearest_31 (by decide) ?_
            refine lv_icmp_eq (tgt := 45) hx hb dX1_nearest_32 (by decide) (fun c_32 => ?_) (fun c_32 => ?_)
            · ---- to 45
              refine lv_iload hx hb dX1_nearest_45 (lv_at hl 5 rfl) ?_
              refine lv_iload_n hx hb dX1_nearest_47 rfl (lv_at hl 2 rfl) ?_
              refine lv_iadd hx hb dX1_nearest_48 ?_
              refine lv_istore (lv' := [(5, .int (x + st)), (0, .ref e0), (1, .int a), (2, .int st), (3, .int (nI n)), (4, .int mi), (6, .int (nI i))]) hx hb dX1_nearest_49 hl (by decide) rfl (fun ls hl => ?_)
              refine lv_iinc (v := nI (i + 1)) (lv' := [(6, .int (nI (i + 1))), (5, .int (x + st)), (0, .ref e0), (1, .int a), (2, .int st), (3, .int (nI n)), (4, .int mi)]) hx hb dX1_nearest_51 hl (k := 6) rfl (ra_inc1 _) (by decide) rfl (fun ls hl => ?_)
              refine lv_goto (tgt := 6) hx hb dX1_nearest_54 (by decide) ?_
              exact ih_6 (i + 1) (x + st) (by omega) (by rw [← he, show 7 - i = 7 - (i + 1) + 1 by omega]; show _ = ite _ _ _; rw [if_neg c_15, if_neg c_21]; first | (rw [if_pos c_32]; done) | (rw [if_neg c_32, if_pos c_39]; done)) (by omega) ls (lv_sub hl [2, 3, 4, 5, 6, 1, 0] rfl)
            · ---- on
              refine lv_iload hx hb dX1_nearest_35 (lv_at hl 5 rfl) ?_
              refine lv_iload hx hb dX1_nearest_37 (lv_at hl 4 rfl) ?_
              refine lv_icmp_eq (tgt := 45) hx hb dX1_nearest_39 (by decide) (fun c_39 => ?_) (fun c_39 => ?_)
              · ---- to 45
                refine lv_iload hx hb dX1_nearest_45 (lv_at hl 5 rfl) ?_
                refine lv_iload_n hx hb dX1_nearest_47 rfl (lv_at hl 2 rfl) ?_
                refine lv_iadd hx hb dX1_nearest_48 ?_
                refine lv_istore (lv' := [(5, .int (x + st)), (0, .ref e0), (1, .int a), (2, .int st), (3, .int (nI n)), (4, .int mi), (6, .int (nI i))]) hx hb dX1_nearest_49 hl (by decide) rfl (fun ls hl => ?_)
                refine lv_iinc (v := nI (i + 1)) (lv' := [(6, .int (nI (i + 1))), (5, .int (x + st)), (0, .ref e0), (1, .int a), (2, .int st), (3, .int (nI n)), (4, .int mi)]) hx hb dX1_nearest_51 hl (k := 6) rfl (ra_inc1 _) (by decide) rfl (fun ls hl => ?_)
                refine lv_goto (tgt := 6) hx hb dX1_nearest_54 (by decide) ?_
                exact ih_6 (i + 1) (x + st) (by omega) (by rw [← he, show 7 - i = 7 - (i + 1) + 1 by omega]; show _ = ite _ _ _; rw [if_neg c_15, if_neg c_21]; first | (rw [if_pos c_32]; done) | (rw [if_neg c_32, if_pos c_39]; done)) (by omega) ls (lv_sub hl [2, 3, 4, 5, 6, 1, 0] rfl)
              · ---- on
                refine lv_iload hx hb dX1_nearest_42 (lv_at hl 5 rfl) ?_
                rw [hQ]
                exact ra_iretR hx hb hr hlocks rfl (by rw [← he, show 7 - i = 7 - (i + 1) + 1 by omega]; show _ = ite _ _ _; rw [if_neg c_15, if_neg c_21, if_neg c_32, if_neg c_39]) dX1_nearest_44
  exact L_6 _ 0 a (by omega) rfl (Nat.lt_succ_self _) ls (lv_sub hl [2, 3, 4, 5, 6, 1, 0] rfl)

set_option maxHeartbeats 4000000 in
set_option maxRecDepth 100000 in
theorem c_X1_scaledLevel (l : Launch) (dC : Nat → ClassId) (dI : Nat → Nat → Nat) (cyI cyA : ClassId) (e0 e1 : Nat) (fr : FN) (j n : Nat) (mi : Int32) (hn : n ≤ 7) : Met l yX1_scaledLevel wsX1_scaledLevel (rm 1) (kR dC dI cyI cyA [.ref e0, .int (nI j), .int (nI n), .int mi] [ob e0 1 [.ref e1], ai e1 cyI 7 fr]) (QcRead (sLev fr n mi j)) 0 0 (fun _ => False) := by
  refine ra_metR (cc := cX1_scaledLevel) (maxL := 7) (by decide) rfl (Nat.le_of_ble_eq_true rfl) ?_
  intro p e s m below meth c args Q hQ hx hb hr hlocks hml hts hown hK hN hP ls hl
  have hl : lv_has ls 7 [(0, .ref e0), (1, .int (nI j)), (2, .int (nI n)), (3, .int mi)] := hl
  have hown : s.vm.findClass RX1 = some m.cls := hown
  have hw_1 := hts (.fieldLink RX1 9 "DuneBench$Survey" "reading" "[I") (by decide +kernel)
  have hin_X1 : ∀ w ∈ u_ws RX1 TX1 1, w ∈ wsX1_scaledLevel := by decide +kernel
  refine lv_aload_n hx hb dX1_scaledLevel_0 rfl (lv_at hl 0 rfl) ?_
  refine lv_iload_n hx hb dX1_scaledLevel_1 rfl (lv_at hl 1 rfl) ?_
  refine lv_iconst (v := (-1)) hx hb dX1_scaledLevel_2 (by decide) ?_
  refine lv_iload_n hx hb dX1_scaledLevel_3 rfl (lv_at hl 2 rfl) ?_
  refine lv_iload_n hx hb dX1_scaledLevel_4 rfl (lv_at hl 3 rfl) ?_
  refine ra_cR (q := (RX1, TX1, 1)) (ci := 1) (As := [.int (nI j), .int (-1), .int (nI n), .int mi]) (rest := []) (wc := [ob e0 1 [.ref e1], ai e1 cyI 7 fr]) ⟨hx, hb, hml, hown, hts⟩ (c_X1_nearest l dC dI cyI cyA e0 e1 fr (nI j) (-1) n mi (by omega)) (cwV 4 hts gX1_scaledLevel_X1_nearest rfl rfl rfl (by decide +kernel) ⟨Nat.le_of_ble_eq_true rfl, Nat.le_of_ble_eq_true rfl⟩) hK hN hP [0, 1] rfl rfl rfl rfl hl.1 rfl (Nat.le_of_ble_eq_true rfl) dX1_scaledLevel_5 ⟨Nat.le_of_ble_eq_true rfl, Nat.le_of_ble_eq_true rfl⟩ ?_
  refine ra_top (nL fr n mi j) rfl ?_
  refine lv_istore (lv' := [(4, .int (nL fr n mi j)), (0, .ref e0), (1, .int (nI j)), (2, .int (nI n)), (3, .int mi)]) hx hb dX1_scaledLevel_8 hl (by decide) rfl (fun ls hl => ?_)
  refine lv_aload_n hx hb dX1_scaledLevel_10 rfl (lv_at hl 1 rfl) ?_
  refine lv_iload_n hx hb dX1_scaledLevel_11 rfl (lv_at hl 2 rfl) ?_
  refine lv_iconst (v := 1) hx hb dX1_scaledLevel_12 (by decide) ?_
  refine lv_iload_n hx hb dX1_scaledLevel_13 rfl (lv_at hl 3 rfl) ?_
  refine lv_iload_n hx hb dX1_scaledLevel_14 rfl (lv_at hl 4 rfl) ?_
  refine ra_cR (q := (RX1, TX1, 1)) (ci := 1) (As := [.int (nI j), .int 1, .int (nI n), .int mi]) (rest := []) (wc := [ob e0 1 [.ref e1], ai e1 cyI 7 fr]) ⟨hx, hb, hml, hown, hts⟩ (c_X1_nearest l dC dI cyI cyA e0 e1 fr (nI j) 1 n mi (by omega)) (cwV 4 hts gX1_scaledLevel_X1_nearest rfl rfl rfl (by decide +kernel) ⟨Nat.le_of_ble_eq_true rfl, Nat.le_of_ble_eq_true rfl⟩) hK hN hP [0, 1] rfl rfl rfl rfl hl.1 rfl (Nat.le_of_ble_eq_true rfl) dX1_scaledLevel_15 ⟨Nat.le_of_ble_eq_true rfl, Nat.le_of_ble_eq_true rfl⟩ ?_
  refine ra_top (nR fr n mi j) rfl ?_
  refine lv_istore (lv' := [(5, .int (nR fr n mi j)), (4, .int (nL fr n mi j)), (0, .ref e0), (1, .int (nI j)), (2, .int (nI n)), (3, .int mi)]) hx hb dX1_scaledLevel_18 hl (by decide) rfl (fun ls hl => ?_)
  refine lv_iload hx hb dX1_scaledLevel_20 (lv_at hl 1 rfl) ?_
  refine lv_iconst (v := (-1)) hx hb dX1_scaledLevel_22 (by decide) ?_
  refine lv_icmp_ne (tgt := 34) hx hb dX1_scaledLevel_23 (by decide) (fun c_23 => ?_) (fun c_23 => ?_)
  · ---- to 34
    refine lv_iload hx hb dX1_scaledLevel_34 (lv_at hl 1 rfl) ?_
    refine lv_iconst (v := (-1)) hx hb dX1_scaledLevel_36 (by decide) ?_
    refine lv_icmp_ne (tgt := 51) hx hb dX1_scaledLevel_37 (by decide) (fun c_37 => ?_) (fun c_37 => ?_)
    · ---- to 51
      have hl1 := (near_rng fr (-1) mi n 7 (nI j)).resolve_left c_37
      refine lv_iload hx hb dX1_scaledLevel_51 (lv_at hl 0 rfl) ?_
      refine lv_iconst (v := (-1)) hx hb dX1_scaledLevel_53 (by decide) ?_
      refine lv_icmp_eq (tgt := 64) hx hb dX1_scaledLevel_54 (by decide) (fun c_54 => ?_) (fun c_54 => ?_)
      · ---- to 64
        refine lv_bipush (v := 60) hx hb dX1_scaledLevel_64 (by decide) ?_
        refine lv_aload_n hx hb dX1_scaledLevel_66 rfl (lv_at hl 2 rfl) ?_
        refine va_get (D := (dC, dI)) (ci := 1) (v := .ref e1) (C := RX1) (T := TX1) (N := 1) hx hb hts hin_X1 hown hK hP 0 rfl rfl 0 (by decide) hw_1 (fun _ h9 => h9) rfl dX1_scaledLevel_67 ?_
        refine lv_iload hx hb dX1_scaledLevel_70 (lv_at hl 1 rfl) ?_
        refine ra_iald hx hb hK hP 1 rfl ((nL fr n mi j).toNatClampNeg) (i32_cl hl1.1) (Nat.lt_of_lt_of_le (i32_cb hl1.1 hl1.2 hn) hn) (Nat.le_of_ble_eq_true rfl) dX1_scaledLevel_72 ?_
        refine lv_imul hx hb dX1_scaledLevel_73 ?_
        rw [hQ]
        exact ra_iretR hx hb hr hlocks rfl (by unfold sLev; rw [if_neg c_37]; first | (rw [if_pos c_54]; done) | (rw [if_neg c_54, if_neg c_61]; done)) dX1_scaledLevel_74
      · ---- on
        refine lv_iload hx hb dX1_scaledLevel_57 (lv_at hl 0 rfl) ?_
        refine lv_iload hx hb dX1_scaledLevel_59 (lv_at hl 1 rfl) ?_
        refine lv_icmp_gt (tgt := 75) hx hb dX1_scaledLevel_61 (by decide) (fun c_61 => ?_) (fun c_61 => ?_)
        · ---- to 75
          have hr1 := (near_rng fr 1 mi n 7 (nI j)).resolve_left c_54
          refine lv_bipush (v := 60) hx hb dX1_scaledLevel_75 (by decide) ?_
          refine lv_iload hx hb dX1_scaledLevel_77 (lv_at hl 0 rfl) ?_
          refine lv_iload hx hb dX1_scaledLevel_79 (lv_at hl 1 rfl) ?_
          refine lv_isub hx hb dX1_scaledLevel_81 ?_
          refine lv_idiv hx hb dX1_scaledLevel_82 (i32_subne c_61) ?_
          refine lv_istore (lv' := [(6, .int (60 / ((nR fr n mi j) - (nL fr n mi j)))), (5, .int (nR fr n mi j)), (4, .int (nL fr n mi j)), (0, .ref e0), (1, .int (nI j)), (2, .int (nI n)), (3, .int mi)]) hx hb dX1_scaledLevel_83 hl (by decide) rfl (fun ls hl => ?_)
          refine lv_iload hx hb dX1_scaledLevel_85 (lv_at hl 0 rfl) ?_
          refine lv_aload_n hx hb dX1_scaledLevel_87 rfl (lv_at hl 3 rfl) ?_
          refine va_get (D := (dC, dI)) (ci := 1) (v := .ref e1) (C := RX1) (T := TX1) (N := 1) hx hb hts hin_X1 hown hK hP 0 rfl rfl 0 (by decide) hw_1 (fun _ h9 => h9) rfl dX1_scaledLevel_88 ?_
          refine lv_iload hx hb dX1_scaledLevel_91 (lv_at hl 2 rfl) ?_
          refine ra_iald hx hb hK hP 1 rfl ((nL fr n mi j).toNatClampNeg) (i32_cl hl1.1) (Nat.lt_of_lt_of_le (i32_cb hl1.1 hl1.2 hn) hn) (Nat.le_of_ble_eq_true rfl) dX1_scaledLevel_93 ?_
          refine lv_iload hx hb dX1_scaledLevel_94 (lv_at hl 1 rfl) ?_
          refine lv_iload_n hx hb dX1_scaledLevel_96 rfl (lv_at hl 4 rfl) ?_
          refine lv_isub hx hb dX1_scaledLevel_97 ?_
          refine lv_imul hx hb dX1_scaledLevel_98 ?_
          refine lv_aload_n hx hb dX1_scaledLevel_99 rfl (lv_at hl 3 rfl) ?_
          refine va_get (D := (dC, dI)) (ci := 1) (v := .ref e1) (C := RX1) (T := TX1) (N := 1) hx hb hts hin_X1 hown hK hP 0 rfl rfl 0 (by decide) hw_1 (fun _ h9 => h9) rfl dX1_scaledLevel_100 ?_
          refine lv_iload hx hb dX1_scaledLevel_103 (lv_at hl 1 rfl) ?_
          refine ra_iald hx hb hK hP 1 rfl ((nR fr n mi j).toNatClampNeg) (i32_cl hr1.1) (Nat.lt_of_lt_of_le (i32_cb hr1.1 hr1.2 hn) hn) (Nat.le_of_ble_eq_true rfl) dX1_scaledLevel_105 ?_
          refine lv_iload_n hx hb dX1_scaledLevel_106 rfl (lv_at hl 4 rfl) ?_
          refine lv_iload hx hb dX1_scaledLevel_107 (lv_at hl 2 rfl) ?_
          refine lv_isub hx hb dX1_scaledLevel_109 ?_
          refine lv_imul hx hb dX1_scaledLevel_110 ?_
          refine lv_iadd hx hb dX1_scaledLevel_111 ?_
          refine lv_imul hx hb dX1_scaledLevel_112 ?_
          rw [hQ]
          exact ra_iretR hx hb hr hlocks rfl (by unfold sLev; rw [if_neg c_37, if_neg c_54, if_pos c_61]) dX1_scaledLevel_113
        · ---- on
          refine lv_bipush (v := 60) hx hb dX1_scaledLevel_64 (by decide) ?_
          refine lv_aload_n hx hb dX1_scaledLevel_66 rfl (lv_at hl 2 rfl) ?_
          refine va_get (D := (dC, dI)) (ci := 1) (v := .ref e1) (C := RX1) (T := TX1) (N := 1) hx hb hts hin_X1 hown hK hP 0 rfl rfl 0 (by decide) hw_1 (fun _ h9 => h9) rfl dX1_scaledLevel_67 ?_
          refine lv_iload hx hb dX1_scaledLevel_70 (lv_at hl 1 rfl) ?_
          refine ra_iald hx hb hK hP 1 rfl ((nL fr n mi j).toNatClampNeg) (i32_cl hl1.1) (Nat.lt_of_lt_of_le (i32_cb hl1.1 hl1.2 hn) hn) (Nat.le_of_ble_eq_true rfl) dX1_scaledLevel_72 ?_
          refine lv_imul hx hb dX1_scaledLevel_73 ?_
          rw [hQ]
          exact ra_iretR hx hb hr hlocks rfl (by unfold sLev; rw [if_neg c_37]; first | (rw [if_pos c_54]; done) | (rw [if_neg c_54, if_neg c_61]; done)) dX1_scaledLevel_74
    · ---- on
      exact absurd c_37 c_23
  · ---- on
    refine lv_iload hx hb dX1_scaledLevel_26 (lv_at hl 0 rfl) ?_
    refine lv_iconst (v := (-1)) hx hb dX1_scaledLevel_28 (by decide) ?_
    refine lv_icmp_ne (tgt := 34) hx hb dX1_scaledLevel_29 (by decide) (fun c_29 => ?_) (fun c_29 => ?_)
    · ---- to 34
      refine lv_iload hx hb dX1_scaledLevel_34 (lv_at hl 1 rfl) ?_
      refine lv_iconst (v := (-1)) hx hb dX1_scaledLevel_36 (by decide) ?_
      refine lv_icmp_ne (tgt := 51) hx hb dX1_scaledLevel_37 (by decide) (fun c_37 => ?_) (fun c_37 => ?_)
      · ---- to 51
        exact absurd c_23 c_37
      · ---- on
        have hr1 := (near_rng fr 1 mi n 7 (nI j)).resolve_left c_29
        refine lv_bipush (v := 60) hx hb dX1_scaledLevel_40 (by decide) ?_
        refine lv_aload_n hx hb dX1_scaledLevel_42 rfl (lv_at hl 2 rfl) ?_
        refine va_get (D := (dC, dI)) (ci := 1) (v := .ref e1) (C := RX1) (T := TX1) (N := 1) hx hb hts hin_X1 hown hK hP 0 rfl rfl 0 (by decide) hw_1 (fun _ h9 => h9) rfl dX1_scaledLevel_43 ?_
        refine lv_iload hx hb dX1_scaledLevel_46 (lv_at hl 0 rfl) ?_
        refine ra_iald hx hb hK hP 1 rfl ((nR fr n mi j).toNatClampNeg) (i32_cl hr1.1) (Nat.lt_of_lt_of_le (i32_cb hr1.1 hr1.2 hn) hn) (Nat.le_of_ble_eq_true rfl) dX1_scaledLevel_48 ?_
        refine lv_imul hx hb dX1_scaledLevel_49 ?_
        rw [hQ]
        exact ra_iretR hx hb hr hlocks rfl (by unfold sLev; rw [if_pos c_37, if_neg c_29]) dX1_scaledLevel_50
    · ---- on
      refine lv_iconst (v := 0) hx hb dX1_scaledLevel_32 (by decide) ?_
      rw [hQ]
      exact ra_iretR hx hb hr hlocks rfl (by unfold sLev; rw [if_pos c_23, if_pos c_29]) dX1_scaledLevel_33

set_option maxHeartbeats 4000000 in
set_option maxRecDepth 100000 in
theorem c_X1_scaledVolume (l : Launch) (dC : Nat → ClassId) (dI : Nat → Nat → Nat) (cyI cyA : ClassId) (e0 e1 : Nat) (fr : FN) (n : Nat) (mi : Int32) (hn : n ≤ 7) : Met l yX1_scaledVolume wsX1_scaledVolume (rm 2) (kR dC dI cyI cyA [.ref e0, .int (nI n), .int mi] [ob e0 1 [.ref e1], ai e1 cyI 7 fr]) (QcRead (sVol fr n mi n 0 0)) 0 0 (fun _ => False) := by
  refine ra_metR (cc := cX1_scaledVolume) (maxL := 5) (by decide) rfl (Nat.le_of_ble_eq_true rfl) ?_
  intro p e s m below meth c args Q hQ hx hb hr hlocks hml hts hown hK hN hP ls hl
  have hl : lv_has ls 5 [(0, .ref e0), (1, .int (nI n)), (2, .int mi)] := hl
  have hown : s.vm.findClass RX1 = some m.cls := hown
  refine lv_iconst (v := 0) hx hb dX1_scaledVolume_0 (by decide) ?_
  refine lv_istore_n (lv' := [(3, .int 0), (0, .ref e0), (1, .int (nI n)), (2, .int mi)]) hx hb dX1_scaledVolume_1 rfl hl (by decide) rfl (fun ls hl => ?_)
  refine lv_iconst (v := 0) hx hb dX1_scaledVolume_2 (by decide) ?_
  refine lv_istore (lv' := [(4, .int 0), (3, .int 0), (0, .ref e0), (1, .int (nI n)), (2, .int mi)]) hx hb dX1_scaledVolume_3 hl (by decide) rfl (fun ls hl => ?_)
  have L_5 : ∀ (n9 : Nat) (i : Nat) (x : Int32), (i ≤ n) → (sVol fr n mi (n - i) i x = sVol fr n mi n 0 0) → (n - i) < n9 → ∀ ls : Array Slot, lv_has ls 5 [(0, .ref e0), (1, .int (nI n)), (2, .int mi), (3, .int x), (4, .int (nI i))] → W p l e (rm 2) s m args below meth c s.heap [] 0 0 Q (F0 m 5 ls []) := by
    intro n9
    induction n9 with
    | zero =>
      intro i x hi he hm9
      exact absurd hm9 (Nat.not_lt_zero _)
    | succ n9 ih_5 =>
      intro i x hi he hm9 ls hl
      refine lv_iload hx hb dX1_scaledVolume_5 (lv_at hl 4 rfl) ?_
      refine lv_iload_n hx hb dX1_scaledVolume_7 rfl (lv_at hl 1 rfl) ?_
      refine lv_icmp_ge (tgt := 28) hx hb dX1_scaledVolume_8 (by decide) (fun c_8 => ?_) (fun c_8 => ?_)
      · ---- to 28
        have n_8 := (nq_le n i (by omega) (by omega)).mp c_8
        refine lv_iload_n hx hb dX1_scaledVolume_28 rfl (lv_at hl 3 rfl) ?_
        rw [hQ]
        exact ra_iretR hx hb hr hlocks rfl (by rw [← he, show n - i = 0 by omega]; rfl) dX1_scaledVolume_29
      · ---- on
        have n_8 := (nq_le_n n i (by omega) (by omega)).mp c_8
        refine lv_iload_n hx hb dX1_scaledVolume_11 rfl (lv_at hl 3 rfl) ?_
        refine lv_aload_n hx hb dX1_scaledVolume_12 rfl (lv_at hl 0 rfl) ?_
        refine lv_iload hx hb dX1_scaledVolume_13 (lv_at hl 4 rfl) ?_
        refine lv_iload_n hx hb dX1_scaledVolume_15 rfl (lv_at hl 1 rfl) ?_
        refine lv_iload_n hx hb dX1_scaledVolume_16 rfl (lv_at hl 2 rfl) ?_
        refine ra_cR (q := (RX1, TX1, 1)) (ci := 1) (As := [.int (nI i), .int (nI n), .int mi]) (rest := [.int x]) (wc := [ob e0 1 [.ref e1], ai e1 cyI 7 fr]) ⟨hx, hb, hml, hown, hts⟩ (c_X1_scaledLevel l dC dI cyI cyA e0 e1 fr i n mi (by omega)) (cwV 3 hts gX1_scaledVolume_X1_scaledLevel rfl rfl rfl (by decide +kernel) ⟨Nat.le_of_ble_eq_true rfl, Nat.le_of_ble_eq_true rfl⟩) hK hN hP [0, 1] rfl rfl rfl rfl hl.1 rfl (Nat.le_of_ble_eq_true rfl) dX1_scaledVolume_17 ⟨Nat.le_of_ble_eq_true rfl, Nat.le_of_ble_eq_true rfl⟩ ?_
        refine lv_iadd hx hb dX1_scaledVolume_20 ?_
        refine lv_istore_n (lv' := [(3, .int (x + (sLev fr n mi i))), (0, .ref e0), (1, .int (nI n)), (2, .int mi), (4, .int (nI i))]) hx hb dX1_scaledVolume_21 rfl hl (by decide) rfl (fun ls hl => ?_)
        refine lv_iinc (v := nI (i + 1)) (lv' := [(4, .int (nI (i + 1))), (3, .int (x + (sLev fr n mi i))), (0, .ref e0), (1, .int (nI n)), (2, .int mi)]) hx hb dX1_scaledVolume_22 hl (k := 4) rfl (ra_inc1 _) (by decide) rfl (fun ls hl => ?_)
        refine lv_goto (tgt := 5) hx hb dX1_scaledVolume_25 (by decide) ?_
        exact ih_5 (i + 1) (x + (sLev fr n mi i)) (by omega) (by rw [← he, show n - i = n - (i + 1) + 1 by omega]; rfl) (by omega) ls (lv_sub hl [2, 3, 4, 1, 0] rfl)
  exact L_5 _ 0 0 (by omega) rfl (Nat.lt_succ_self _) ls (lv_sub hl [2, 3, 4, 1, 0] rfl)

set_option maxHeartbeats 4000000 in
set_option maxRecDepth 100000 in
theorem c_X1_scaledDoubt (l : Launch) (dC : Nat → ClassId) (dI : Nat → Nat → Nat) (cyI cyA : ClassId) (e0 e1 : Nat) (fr : FN) (n : Nat) (hn : n ≤ 7) : Met l yX1_scaledDoubt wsX1_scaledDoubt (rm 3) (kR dC dI cyI cyA [.ref e0, .int (nI n)] [ob e0 1 [.ref e1], ai e1 cyI 7 fr]) (QcRead (sDbt fr n (sVol fr n (-1) n 0 0) n 0 0)) 0 0 (fun _ => False) := by
  refine ra_metR (cc := cX1_scaledDoubt) (maxL := 5) (by decide) rfl (Nat.le_of_ble_eq_true rfl) ?_
  intro p e s m below meth c args Q hQ hx hb hr hlocks hml hts hown hK hN hP ls hl
  have hl : lv_has ls 5 [(0, .ref e0), (1, .int (nI n))] := hl
  have hown : s.vm.findClass RX1 = some m.cls := hown
  have hw_1 := hts (.fieldLink RX1 9 "DuneBench$Survey" "reading" "[I") (by decide +kernel)
  have hin_X1 : ∀ w ∈ u_ws RX1 TX1 1, w ∈ wsX1_scaledDoubt := by decide +kernel
  have hw_3 := hts (.methodLink RX1 30 Lib.Math.abs.name) (by decide +kernel)
  have hw_4 := hts (.static Lib.Math.abs.name) (by decide +kernel)
  have hw_5 := hts (.initialized "java/lang/Math") (by decide +kernel)
  have hw_6 := hts (.code Lib.Math.abs.name Lib.Math.abs.code 1 (some .int)) (by decide +kernel)
  have hw_7 := hts (.methodLink RX1 36 Lib.Math.max.name) (by decide +kernel)
  have hw_8 := hts (.static Lib.Math.max.name) (by decide +kernel)
  have hw_9 := hts (.code Lib.Math.max.name Lib.Math.max.code 2 (some .int)) (by decide +kernel)
  refine lv_aload_n hx hb dX1_scaledDoubt_0 rfl (lv_at hl 0 rfl) ?_
  refine lv_iload_n hx hb dX1_scaledDoubt_1 rfl (lv_at hl 1 rfl) ?_
  refine lv_iconst (v := (-1)) hx hb dX1_scaledDoubt_2 (by decide) ?_
  refine ra_cR (q := (RX1, TX1, 1)) (ci := 1) (As := [.int (nI n), .int (-1)]) (rest := []) (wc := [ob e0 1 [.ref e1], ai e1 cyI 7 fr]) ⟨hx, hb, hml, hown, hts⟩ (c_X1_scaledVolume l dC dI cyI cyA e0 e1 fr n (-1) (by omega)) (cwV 2 hts gX1_scaledDoubt_X1_scaledVolume rfl rfl rfl (by decide +kernel) ⟨Nat.le_of_ble_eq_true rfl, Nat.le_of_ble_eq_true rfl⟩) hK hN hP [0, 1] rfl rfl rfl rfl hl.1 rfl (Nat.le_of_ble_eq_true rfl) dX1_scaledDoubt_3 ⟨Nat.le_of_ble_eq_true rfl, Nat.le_of_ble_eq_true rfl⟩ ?_
  refine lv_istore_n (lv' := [(2, .int (sVol fr n (-1) n 0 0)), (0, .ref e0), (1, .int (nI n))]) hx hb dX1_scaledDoubt_6 rfl hl (by decide) rfl (fun ls hl => ?_)
  refine lv_iconst (v := 0) hx hb dX1_scaledDoubt_7 (by decide) ?_
  refine lv_istore_n (lv' := [(3, .int 0), (2, .int (sVol fr n (-1) n 0 0)), (0, .ref e0), (1, .int (nI n))]) hx hb dX1_scaledDoubt_8 rfl hl (by decide) rfl (fun ls hl => ?_)
  refine lv_iconst (v := 0) hx hb dX1_scaledDoubt_9 (by decide) ?_
  refine lv_istore (lv' := [(4, .int 0), (3, .int 0), (2, .int (sVol fr n (-1) n 0 0)), (0, .ref e0), (1, .int (nI n))]) hx hb dX1_scaledDoubt_10 hl (by decide) rfl (fun ls hl => ?_)
  have L_12 : ∀ (n9 : Nat) (i : Nat) (x : Int32), (i ≤ n) → (sDbt fr n (sVol fr n (-1) n 0 0) (n - i) i x = sDbt fr n (sVol fr n (-1) n 0 0) n 0 0) → (n - i) < n9 → ∀ ls : Array Slot, lv_has ls 5 [(0, .ref e0), (1, .int (nI n)), (2, .int (sVol fr n (-1) n 0 0)), (3, .int x), (4, .int (nI i))] → W p l e (rm 3) s m args below meth c s.heap [] 0 0 Q (F0 m 12 ls []) := by
    intro n9
    induction n9 with
    | zero =>
      intro i x hi he hm9
      exact absurd hm9 (Nat.not_lt_zero _)
    | succ n9 ih_12 =>
      intro i x hi he hm9 ls hl
      refine lv_iload hx hb dX1_scaledDoubt_12 (lv_at hl 4 rfl) ?_
      refine lv_iload_n hx hb dX1_scaledDoubt_14 rfl (lv_at hl 1 rfl) ?_
      refine lv_icmp_ge (tgt := 52) hx hb dX1_scaledDoubt_15 (by decide) (fun c_15 => ?_) (fun c_15 => ?_)
      · ---- to 52
        have n_15 := (nq_le n i (by omega) (by omega)).mp c_15
        refine lv_iload_n hx hb dX1_scaledDoubt_52 rfl (lv_at hl 3 rfl) ?_
        rw [hQ]
        exact ra_iretR hx hb hr hlocks rfl (by rw [← he, show n - i = 0 by omega]; rfl) dX1_scaledDoubt_53
      · ---- on
        have n_15 := (nq_le_n n i (by omega) (by omega)).mp c_15
        refine lv_aload_n hx hb dX1_scaledDoubt_18 rfl (lv_at hl 0 rfl) ?_
        refine va_get (D := (dC, dI)) (ci := 1) (v := .ref e1) (C := RX1) (T := TX1) (N := 1) hx hb hts hin_X1 hown hK hP 0 rfl rfl 0 (by decide) hw_1 (fun _ h9 => h9) rfl dX1_scaledDoubt_19 ?_
        refine lv_iload hx hb dX1_scaledDoubt_22 (lv_at hl 4 rfl) ?_
        refine ra_iald hx hb hK hP 1 rfl i rfl (by omega) (Nat.le_of_ble_eq_true rfl) dX1_scaledDoubt_24 ?_
        refine lv_iconst (v := (-1)) hx hb dX1_scaledDoubt_25 (by decide) ?_
        refine lv_icmp_eq (tgt := 46) hx hb dX1_scaledDoubt_26 (by decide) (fun c_26 => ?_) (fun c_26 => ?_)
        · ---- to 46
          refine lv_iinc (v := nI (i + 1)) (lv' := [(4, .int (nI (i + 1))), (0, .ref e0), (1, .int (nI n)), (2, .int (sVol fr n (-1) n 0 0)), (3, .int x)]) hx hb dX1_scaledDoubt_46 hl (k := 4) rfl (ra_inc1 _) (by decide) rfl (fun ls hl => ?_)
          refine lv_goto (tgt := 12) hx hb dX1_scaledDoubt_49 (by decide) ?_
          exact ih_12 (i + 1) x (by omega) (by rw [← he, show n - i = n - (i + 1) + 1 by omega]; show _ = sDbt fr n _ _ _ (if _ then _ else _); first | rw [if_pos c_26] | rw [if_neg c_26]) (by omega) ls (lv_sub hl [1, 2, 3, 4, 0] rfl)
        · ---- on
          refine lv_iload_n hx hb dX1_scaledDoubt_29 rfl (lv_at hl 3 rfl) ?_
          refine lv_aload_n hx hb dX1_scaledDoubt_30 rfl (lv_at hl 0 rfl) ?_
          refine lv_iload_n hx hb dX1_scaledDoubt_31 rfl (lv_at hl 1 rfl) ?_
          refine lv_iload hx hb dX1_scaledDoubt_32 (lv_at hl 4 rfl) ?_
          refine ra_cR (q := (RX1, TX1, 1)) (ci := 1) (As := [.int (nI n), .int (nI i)]) (rest := [.int x]) (wc := [ob e0 1 [.ref e1], ai e1 cyI 7 fr]) ⟨hx, hb, hml, hown, hts⟩ (c_X1_scaledVolume l dC dI cyI cyA e0 e1 fr n (nI i) (by omega)) (cwV 2 hts gX1_scaledDoubt_X1_scaledVolume rfl rfl rfl (by decide +kernel) ⟨Nat.le_of_ble_eq_true rfl, Nat.le_of_ble_eq_true rfl⟩) hK hN hP [0, 1] rfl rfl rfl rfl hl.1 rfl (Nat.le_of_ble_eq_true rfl) dX1_scaledDoubt_34 ⟨Nat.le_of_ble_eq_true rfl, Nat.le_of_ble_eq_true rfl⟩ ?_
          refine lv_iload_n hx hb dX1_scaledDoubt_37 rfl (lv_at hl 2 rfl) ?_
          refine lv_isub hx hb dX1_scaledDoubt_38 ?_
          refine va_mabs hx hb (hml.trans hl.1.symm) hown hw_3 hw_4 hw_5 hw_6 (Nat.le_of_ble_eq_true rfl) (Nat.le_of_ble_eq_true rfl) (Nat.le_of_ble_eq_true rfl) (Nat.le_of_ble_eq_true rfl) dX1_scaledDoubt_39 ?_
          refine ra_top (jabs ((sVol fr n (nI i) n 0 0) - (sVol fr n (-1) n 0 0))) rfl ?_
          refine va_mmax hx hb (hml.trans hl.1.symm) hown hw_7 hw_8 hw_5 hw_9 (Nat.le_of_ble_eq_true rfl) (Nat.le_of_ble_eq_true rfl) (Nat.le_of_ble_eq_true rfl) (Nat.le_of_ble_eq_true rfl) dX1_scaledDoubt_42 ?_
          refine ra_top (jmax x (jabs ((sVol fr n (nI i) n 0 0) - (sVol fr n (-1) n 0 0)))) rfl ?_
          refine lv_istore_n (lv' := [(3, .int (jmax x (jabs ((sVol fr n (nI i) n 0 0) - (sVol fr n (-1) n 0 0))))), (0, .ref e0), (1, .int (nI n)), (2, .int (sVol fr n (-1) n 0 0)), (4, .int (nI i))]) hx hb dX1_scaledDoubt_45 rfl hl (by decide) rfl (fun ls hl => ?_)
          refine lv_iinc (v := nI (i + 1)) (lv' := [(4, .int (nI (i + 1))), (3, .int (jmax x (jabs ((sVol fr n (nI i) n 0 0) - (sVol fr n (-1) n 0 0))))), (0, .ref e0), (1, .int (nI n)), (2, .int (sVol fr n (-1) n 0 0))]) hx hb dX1_scaledDoubt_46 hl (k := 4) rfl (ra_inc1 _) (by decide) rfl (fun ls hl => ?_)
          refine lv_goto (tgt := 12) hx hb dX1_scaledDoubt_49 (by decide) ?_
          exact ih_12 (i + 1) (jmax x (jabs ((sVol fr n (nI i) n 0 0) - (sVol fr n (-1) n 0 0)))) (by omega) (by rw [← he, show n - i = n - (i + 1) + 1 by omega]; show _ = sDbt fr n _ _ _ (if _ then _ else _); first | rw [if_pos c_26] | rw [if_neg c_26]) (by omega) ls (lv_sub hl [2, 3, 4, 1, 0] rfl)
  exact L_12 _ 0 0 (by omega) rfl (Nat.lt_succ_self _) ls (lv_sub hl [3, 4, 2, 1, 0] rfl)

set_option maxHeartbeats 4000000 in
set_option maxRecDepth 100000 in
theorem c_X2_add (l : Launch) (dC : Nat → ClassId) (dI : Nat → Nat → Nat) (cyI cyA : ClassId) (d0 d1 d2 d3 : Nat) (ct : Nat → Nat) (fK fV : Nat → Option Nat) (w : Nat) (xk xv : Int32) (kr vr : Nat) (kw vw : FN) (hw : w < 3) (hc : ct w < 12) (hfk : fK w = some kr) (hfv : fV w = some vr) (sz : Nat) : Met l yX2_add wsX2_add (rm 0) (kW dC dI cyI cyA [.ref d0, .int (nI w), .int xk, .int xv] sz [ob d0 2 [.ref d1, .ref d2, .ref d3], ai d1 cyI 3 (nF ct), aa d2 cyA 3 fK, aa d3 cyA 3 fV, ai kr cyI 12 kw, ai vr cyI 12 vw]) (qI dC dI cyI cyA (fun (r : Int32) (_ : Unit) => r = nI (ct w + 1)) (va_A [ob d0 2 [.ref d1, .ref d2, .ref d3], ai d1 cyI 3 (nF ct), aa d2 cyA 3 fK, aa d3 cyA 3 fV, ai kr cyI 12 kw, ai vr cyI 12 vw] sz) (fun _ => [ob d0 2 [.ref d1, .ref d2, .ref d3], ai d1 cyI 3 (nF (va_up ct w (ct w + 1))), aa d2 cyA 3 fK, aa d3 cyA 3 fV, ai kr cyI 12 (upd kw (ct w) xk), ai vr cyI 12 (upd vw (ct w) xv)])) 0 0 (va_A [ob d0 2 [.ref d1, .ref d2, .ref d3], ai d1 cyI 3 (nF ct), aa d2 cyA 3 fK, aa d3 cyA 3 fV, ai kr cyI 12 kw, ai vr cyI 12 vw] sz) := by
  refine ra_metW (cc := cX2_add) (maxL := 5) (Qc := fun A => qI dC dI cyI cyA (fun (r : Int32) (_ : Unit) => r = nI (ct w + 1)) A (fun _ => [ob d0 2 [.ref d1, .ref d2, .ref d3], ai d1 cyI 3 (nF (va_up ct w (ct w + 1))), aa d2 cyA 3 fK, aa d3 cyA 3 fV, ai kr cyI 12 (upd kw (ct w) xk), ai vr cyI 12 (upd vw (ct w) xv)])) (by decide) rfl (Nat.le_of_ble_eq_true rfl) ?_
  intro p e s m below meth c A args Q hQ hx hb hr hlocks hml hts hown hnm hK hN hP hD hA hS ls hl
  have hl : lv_has ls 5 [(0, .ref d0), (1, .int (nI w)), (2, .int xk), (3, .int xv)] := hl
  have hown : s.vm.findClass RX2 = some m.cls := hown
  have hw_1 := hts (.fieldLink RX2 9 "DuneBench$Weathers" "count" "[I") (by decide +kernel)
  have hin_X2 : ∀ w ∈ u_ws RX2 TX2 3, w ∈ wsX2_add := by decide +kernel
  have hw_3 := hts (.fieldLink RX2 17 "DuneBench$Weathers" "kind" "[[I") (by decide +kernel)
  have hw_4 := hts (.fieldLink RX2 20 "DuneBench$Weathers" "value" "[[I") (by decide +kernel)
  obtain ⟨H, hHe⟩ : ∃ H, H = s.heap := ⟨_, rfl⟩
  obtain ⟨locs, hLe⟩ : ∃ locs : List Loc, locs = [] := ⟨_, rfl⟩
  have hP : va_P (dC, dI) vwCl [ob d0 2 [.ref d1, .ref d2, .ref d3], ai d1 cyI 3 (nF ct), aa d2 cyA 3 fK, aa d3 cyA 3 fV, ai kr cyI 12 kw, ai vr cyI 12 vw] H := by rw [hHe]; exact hP
  have hS : va_S A s.heap H locs := by rw [hHe, hLe]; exact hS
  suffices hgo : W p l e (rm 0) s m args below meth c H locs 0 0 Q (F0 m 0 ls []) by rw [hHe, hLe] at hgo; exact hgo
  refine lv_aload_n hx hb dX2_add_0 rfl (lv_at hl 0 rfl) ?_
  refine va_get (D := (dC, dI)) (ci := 2) (v := .ref d1) (C := RX2) (T := TX2) (N := 3) hx hb hts hin_X2 hown hK hP 0 rfl rfl 0 (by decide) hw_1 (fun _ h9 => h9) rfl dX2_add_1 ?_
  refine lv_iload_n hx hb dX2_add_4 rfl (lv_at hl 1 rfl) ?_
  refine ra_iald hx hb hK hP 1 rfl w rfl (by omega) (Nat.le_of_ble_eq_true rfl) dX2_add_5 ?_
  refine ra_top (nI (ct w)) rfl ?_
  refine lv_istore (lv' := [(4, .int (nI (ct w))), (0, .ref d0), (1, .int (nI w)), (2, .int xk), (3, .int xv)]) hx hb dX2_add_6 hl (by decide) rfl (fun ls hl => ?_)
  refine lv_aload_n hx hb dX2_add_8 rfl (lv_at hl 1 rfl) ?_
  refine va_get (D := (dC, dI)) (ci := 2) (v := .ref d2) (C := RX2) (T := TX2) (N := 3) hx hb hts hin_X2 hown hK hP 0 rfl rfl 1 (by decide) hw_3 (fun _ h9 => h9) rfl dX2_add_9 ?_
  refine lv_iload_n hx hb dX2_add_12 rfl (lv_at hl 2 rfl) ?_
  refine ra_aald (b := kr) hx hb hK hP 2 rfl w rfl (by omega) (Nat.le_of_ble_eq_true rfl) hfk dX2_add_13 ?_
  refine lv_iload hx hb dX2_add_14 (lv_at hl 0 rfl) ?_
  refine lv_iload_n hx hb dX2_add_16 rfl (lv_at hl 3 rfl) ?_
  refine ra_iast hx hb hK hP hD hS 4 rfl (ct w) rfl (by omega) (Nat.le_of_ble_eq_true rfl) dX2_add_17 (fun H locs hP hD hS => ?_)
  have hP : va_P (dC, dI) vwCl [ob d0 2 [.ref d1, .ref d2, .ref d3], ai d1 cyI 3 (nF ct), aa d2 cyA 3 fK, aa d3 cyA 3 fV, ai kr cyI 12 (upd kw (ct w) xk), ai vr cyI 12 vw] H := hP
  have hD : va_D A [ob d0 2 [.ref d1, .ref d2, .ref d3], ai d1 cyI 3 (nF ct), aa d2 cyA 3 fK, aa d3 cyA 3 fV, ai kr cyI 12 (upd kw (ct w) xk), ai vr cyI 12 vw] := hD
  refine lv_aload_n hx hb dX2_add_18 rfl (lv_at hl 1 rfl) ?_
  refine va_get (D := (dC, dI)) (ci := 2) (v := .ref d3) (C := RX2) (T := TX2) (N := 3) hx hb hts hin_X2 hown hK hP 0 rfl rfl 2 (by decide) hw_4 (fun _ h9 => h9) rfl dX2_add_19 ?_
  refine lv_iload_n hx hb dX2_add_22 rfl (lv_at hl 2 rfl) ?_
  refine ra_aald (b := vr) hx hb hK hP 3 rfl w rfl (by omega) (Nat.le_of_ble_eq_true rfl) hfv dX2_add_23 ?_
  refine lv_iload hx hb dX2_add_24 (lv_at hl 0 rfl) ?_
  refine lv_iload_n hx hb dX2_add_26 rfl (lv_at hl 4 rfl) ?_
  refine ra_iast hx hb hK hP hD hS 5 rfl (ct w) rfl (by omega) (Nat.le_of_ble_eq_true rfl) dX2_add_27 (fun H locs hP hD hS => ?_)
  have hP : va_P (dC, dI) vwCl [ob d0 2 [.ref d1, .ref d2, .ref d3], ai d1 cyI 3 (nF ct), aa d2 cyA 3 fK, aa d3 cyA 3 fV, ai kr cyI 12 (upd kw (ct w) xk), ai vr cyI 12 (upd vw (ct w) xv)] H := hP
  have hD : va_D A [ob d0 2 [.ref d1, .ref d2, .ref d3], ai d1 cyI 3 (nF ct), aa d2 cyA 3 fK, aa d3 cyA 3 fV, ai kr cyI 12 (upd kw (ct w) xk), ai vr cyI 12 (upd vw (ct w) xv)] := hD
  refine lv_aload_n hx hb dX2_add_28 rfl (lv_at hl 1 rfl) ?_
  refine va_get (D := (dC, dI)) (ci := 2) (v := .ref d1) (C := RX2) (T := TX2) (N := 3) hx hb hts hin_X2 hown hK hP 0 rfl rfl 0 (by decide) hw_1 (fun _ h9 => h9) rfl dX2_add_29 ?_
  refine lv_iload_n hx hb dX2_add_32 rfl (lv_at hl 2 rfl) ?_
  refine lv_iload hx hb dX2_add_33 (lv_at hl 0 rfl) ?_
  refine lv_iconst (v := 1) hx hb dX2_add_35 (by decide) ?_
  refine lv_iadd hx hb dX2_add_36 ?_
  refine ra_top (nI (ct w + 1)) (nI_add (ct w) 1) ?_
  refine ra_iast hx hb hK hP hD hS 1 rfl w rfl (by omega) (Nat.le_of_ble_eq_true rfl) dX2_add_37 (fun H locs hP hD hS => ?_)
  rw [nF_wr ct w (ct w + 1)] at hP hD
  have hP : va_P (dC, dI) vwCl [ob d0 2 [.ref d1, .ref d2, .ref d3], ai d1 cyI 3 (nF (va_up ct w (ct w + 1))), aa d2 cyA 3 fK, aa d3 cyA 3 fV, ai kr cyI 12 (upd kw (ct w) xk), ai vr cyI 12 (upd vw (ct w) xv)] H := hP
  have hD : va_D A [ob d0 2 [.ref d1, .ref d2, .ref d3], ai d1 cyI 3 (nF (va_up ct w (ct w + 1))), aa d2 cyA 3 fK, aa d3 cyA 3 fV, ai kr cyI 12 (upd kw (ct w) xk), ai vr cyI 12 (upd vw (ct w) xv)] := hD
  refine lv_iload hx hb dX2_add_38 (lv_at hl 0 rfl) ?_
  refine lv_iconst (v := 1) hx hb dX2_add_40 (by decide) ?_
  refine lv_iadd hx hb dX2_add_41 ?_
  refine ra_top (nI (ct w + 1)) (nI_add (ct w) 1) ?_
  rw [hQ]
  exact ra_iretW () hx hb hr hlocks rfl hK hP hD hS rfl dX2_add_42

set_option maxHeartbeats 4000000 in
set_option maxRecDepth 100000 in
theorem c_X2_any (l : Launch) (dC : Nat → ClassId) (dI : Nat → Nat → Nat) (cyI cyA : ClassId) (d0 d1 d2 d3 : Nat) (ct : Nat → Nat) (fK fV : Nat → Option Nat) (hct : ∀ w, w < 3 → ct w ≤ 12) : Met l yX2_any wsX2_any (rm 0) (kR dC dI cyI cyA [.ref d0] [ob d0 2 [.ref d1, .ref d2, .ref d3], ai d1 cyI 3 (nF ct), aa d2 cyA 3 fK, aa d3 cyA 3 fV]) (QcRead (bi (0 < ct 0 ∨ 0 < ct 1 ∨ 0 < ct 2))) 0 0 (fun _ => False) := by
  refine ra_metR (cc := cX2_any) (maxL := 2) (by decide) rfl (Nat.le_of_ble_eq_true rfl) ?_
  intro p e s m below meth c args Q hQ hx hb hr hlocks hml hts hown hK hN hP ls hl
  have hl : lv_has ls 2 [(0, .ref d0)] := hl
  have hown : s.vm.findClass RX2 = some m.cls := hown
  have hw_1 := hts (.fieldLink RX2 9 "DuneBench$Weathers" "count" "[I") (by decide +kernel)
  have hin_X2 : ∀ w ∈ u_ws RX2 TX2 3, w ∈ wsX2_any := by decide +kernel
  have h0 := hct 0 (by omega)
  have h1 := hct 1 (by omega)
  have h2 := hct 2 (by omega)
  refine lv_iconst (v := 0) hx hb dX2_any_0 (by decide) ?_
  refine lv_istore_n (lv' := [(1, .int 0), (0, .ref d0)]) hx hb dX2_any_1 rfl hl (by decide) rfl (fun ls hl => ?_)
  refine lv_iload_n hx hb dX2_any_2 rfl (lv_at hl 0 rfl) ?_
  refine lv_iconst (v := 3) hx hb dX2_any_3 (by decide) ?_
  refine lv_icmp_ge (tgt := 24) hx hb dX2_any_4 (by decide) (fun c_4 => ?_) (fun c_4 => ?_)
  · ---- to 24
    exact absurd c_4 (by decide)
  · ---- on
    refine lv_aload_n hx hb dX2_any_7 rfl (lv_at hl 1 rfl) ?_
    refine va_get (D := (dC, dI)) (ci := 2) (v := .ref d1) (C := RX2) (T := TX2) (N := 3) hx hb hts hin_X2 hown hK hP 0 rfl rfl 0 (by decide) hw_1 (fun _ h9 => h9) rfl dX2_any_8 ?_
    refine lv_iload_n hx hb dX2_any_11 rfl (lv_at hl 0 rfl) ?_
    refine ra_iald hx hb hK hP 1 rfl 0 rfl (by omega) (Nat.le_of_ble_eq_true rfl) dX2_any_12 ?_
    refine ra_top (nI (ct 0)) rfl ?_
    refine lv_if_le (tgt := 18) hx hb dX2_any_13 (by decide) (fun c_13 => ?_) (fun c_13 => ?_)
    · ---- to 18
      have n_13 := (nq_le (ct 0) 0 (by omega) (by omega)).mp c_13
      refine lv_iinc (v := 1) (lv' := [(1, .int 1), (0, .ref d0)]) hx hb dX2_any_18 hl (k := 0) rfl (by decide) (by decide) rfl (fun ls hl => ?_)
      refine lv_goto (tgt := 2) hx hb dX2_any_21 (by decide) ?_
      refine lv_iload_n hx hb dX2_any_2 rfl (lv_at hl 0 rfl) ?_
      refine lv_iconst (v := 3) hx hb dX2_any_3 (by decide) ?_
      refine lv_icmp_ge (tgt := 24) hx hb dX2_any_4 (by decide) (fun c_4_2 => ?_) (fun c_4_2 => ?_)
      · ---- to 24
        exact absurd c_4_2 (by decide)
      · ---- on
        refine lv_aload_n hx hb dX2_any_7 rfl (lv_at hl 1 rfl) ?_
        refine va_get (D := (dC, dI)) (ci := 2) (v := .ref d1) (C := RX2) (T := TX2) (N := 3) hx hb hts hin_X2 hown hK hP 0 rfl rfl 0 (by decide) hw_1 (fun _ h9 => h9) rfl dX2_any_8 ?_
        refine lv_iload_n hx hb dX2_any_11 rfl (lv_at hl 0 rfl) ?_
        refine ra_iald hx hb hK hP 1 rfl 1 rfl (by omega) (Nat.le_of_ble_eq_true rfl) dX2_any_12 ?_
        refine ra_top (nI (ct 1)) rfl ?_
        refine lv_if_le (tgt := 18) hx hb dX2_any_13 (by decide) (fun c_13_2 => ?_) (fun c_13_2 => ?_)
        · ---- to 18
          have n_13_2 := (nq_le (ct 1) 0 (by omega) (by omega)).mp c_13_2
          refine lv_iinc (v := 2) (lv' := [(1, .int 2), (0, .ref d0)]) hx hb dX2_any_18 hl (k := 0) rfl (by decide) (by decide) rfl (fun ls hl => ?_)
          refine lv_goto (tgt := 2) hx hb dX2_any_21 (by decide) ?_
          refine lv_iload_n hx hb dX2_any_2 rfl (lv_at hl 0 rfl) ?_
          refine lv_iconst (v := 3) hx hb dX2_any_3 (by decide) ?_
          refine lv_icmp_ge (tgt := 24) hx hb dX2_any_4 (by decide) (fun c_4_3 => ?_) (fun c_4_3 => ?_)
          · ---- to 24
            exact absurd c_4_3 (by decide)
          · ---- on
            refine lv_aload_n hx hb dX2_any_7 rfl (lv_at hl 1 rfl) ?_
            refine va_get (D := (dC, dI)) (ci := 2) (v := .ref d1) (C := RX2) (T := TX2) (N := 3) hx hb hts hin_X2 hown hK hP 0 rfl rfl 0 (by decide) hw_1 (fun _ h9 => h9) rfl dX2_any_8 ?_
            refine lv_iload_n hx hb dX2_any_11 rfl (lv_at hl 0 rfl) ?_
            refine ra_iald hx hb hK hP 1 rfl 2 rfl (by omega) (Nat.le_of_ble_eq_true rfl) dX2_any_12 ?_
            refine ra_top (nI (ct 2)) rfl ?_
            refine lv_if_le (tgt := 18) hx hb dX2_any_13 (by decide) (fun c_13_3 => ?_) (fun c_13_3 => ?_)
            · ---- to 18
              have n_13_3 := (nq_le (ct 2) 0 (by omega) (by omega)).mp c_13_3
              refine lv_iinc (v := 3) (lv' := [(1, .int 3), (0, .ref d0)]) hx hb dX2_any_18 hl (k := 0) rfl (by decide) (by decide) rfl (fun ls hl => ?_)
              refine lv_goto (tgt := 2) hx hb dX2_any_21 (by decide) ?_
              refine lv_iload_n hx hb dX2_any_2 rfl (lv_at hl 0 rfl) ?_
              refine lv_iconst (v := 3) hx hb dX2_any_3 (by decide) ?_
              refine lv_icmp_ge (tgt := 24) hx hb dX2_any_4 (by decide) (fun c_4_4 => ?_) (fun c_4_4 => ?_)
              · ---- to 24
                refine lv_iconst (v := 0) hx hb dX2_any_24 (by decide) ?_
                rw [hQ]
                exact ra_iretR hx hb hr hlocks rfl (bi_f (by omega)) dX2_any_25
              · ---- on
                exact absurd c_4_4 (by decide)
            · ---- on
              have n_13_3 := (nq_le_n (ct 2) 0 (by omega) (by omega)).mp c_13_3
              refine lv_iconst (v := 1) hx hb dX2_any_16 (by decide) ?_
              rw [hQ]
              exact ra_iretR hx hb hr hlocks rfl (bi_t (by omega)) dX2_any_17
        · ---- on
          have n_13_2 := (nq_le_n (ct 1) 0 (by omega) (by omega)).mp c_13_2
          refine lv_iconst (v := 1) hx hb dX2_any_16 (by decide) ?_
          rw [hQ]
          exact ra_iretR hx hb hr hlocks rfl (bi_t (by omega)) dX2_any_17
    · ---- on
      have n_13 := (nq_le_n (ct 0) 0 (by omega) (by omega)).mp c_13
      refine lv_iconst (v := 1) hx hb dX2_any_16 (by decide) ?_
      rw [hQ]
      exact ra_iretR hx hb hr hlocks rfl (bi_t (by omega)) dX2_any_17

set_option maxHeartbeats 4000000 in
set_option maxRecDepth 100000 in
theorem c_X2_yearEnds (l : Launch) (dC : Nat → ClassId) (dI : Nat → Nat → Nat) (cyI cyA : ClassId) (d0 d1 d2 d3 : Nat) (ct : Nat → Nat) (fK fV : Nat → Option Nat) (w kr : Nat) (kw : FN) (hw : w < 3) (hc : ct w ≤ 12) (hfk : fK w = some kr) : Met l yX2_yearEnds wsX2_yearEnds (rm 0) (kR dC dI cyI cyA [.ref d0, .int (nI w)] [ob d0 2 [.ref d1, .ref d2, .ref d3], ai d1 cyI 3 (nF ct), aa d2 cyA 3 fK, aa d3 cyA 3 fV, ai kr cyI 12 kw]) (QcRead (nI (cntY kw (ct w) 0 0))) 0 0 (fun _ => False) := by
  refine ra_metR (cc := cX2_yearEnds) (maxL := 4) (by decide) rfl (Nat.le_of_ble_eq_true rfl) ?_
  intro p e s m below meth c args Q hQ hx hb hr hlocks hml hts hown hK hN hP ls hl
  have hl : lv_has ls 4 [(0, .ref d0), (1, .int (nI w))] := hl
  have hown : s.vm.findClass RX2 = some m.cls := hown
  have hw_1 := hts (.fieldLink RX2 9 "DuneBench$Weathers" "count" "[I") (by decide +kernel)
  have hin_X2 : ∀ w ∈ u_ws RX2 TX2 3, w ∈ wsX2_yearEnds := by decide +kernel
  have hw_3 := hts (.fieldLink RX2 17 "DuneBench$Weathers" "kind" "[[I") (by decide +kernel)
  refine lv_iconst (v := 0) hx hb dX2_yearEnds_0 (by decide) ?_
  refine lv_istore_n (lv' := [(2, .int 0), (0, .ref d0), (1, .int (nI w))]) hx hb dX2_yearEnds_1 rfl hl (by decide) rfl (fun ls hl => ?_)
  refine lv_iconst (v := 0) hx hb dX2_yearEnds_2 (by decide) ?_
  refine lv_istore_n (lv' := [(3, .int 0), (2, .int 0), (0, .ref d0), (1, .int (nI w))]) hx hb dX2_yearEnds_3 rfl hl (by decide) rfl (fun ls hl => ?_)
  have L_4 : ∀ (n9 : Nat) (i : Nat) (x : Nat), (i ≤ ct w) → (cntY kw (ct w - i) i x = cntY kw (ct w) 0 0) → (ct w - i) < n9 → ∀ ls : Array Slot, lv_has ls 4 [(0, .ref d0), (1, .int (nI w)), (2, .int (nI x)), (3, .int (nI i))] → W p l e (rm 0) s m args below meth c s.heap [] 0 0 Q (F0 m 4 ls []) := by
    intro n9
    induction n9 with
    | zero =>
      intro i x hi he hm9
      exact absurd hm9 (Nat.not_lt_zero _)
    | succ n9 ih_4 =>
      intro i x hi he hm9 ls hl
      refine lv_iload_n hx hb dX2_yearEnds_4 rfl (lv_at hl 3 rfl) ?_
      refine lv_aload_n hx hb dX2_yearEnds_5 rfl (lv_at hl 0 rfl) ?_
      refine va_get (D := (dC, dI)) (ci := 2) (v := .ref d1) (C := RX2) (T := TX2) (N := 3) hx hb hts hin_X2 hown hK hP 0 rfl rfl 0 (by decide) hw_1 (fun _ h9 => h9) rfl dX2_yearEnds_6 ?_
      refine lv_iload_n hx hb dX2_yearEnds_9 rfl (lv_at hl 1 rfl) ?_
      refine ra_iald hx hb hK hP 1 rfl w rfl (by omega) (Nat.le_of_ble_eq_true rfl) dX2_yearEnds_10 ?_
      refine ra_top (nI (ct w)) rfl ?_
      refine lv_icmp_ge (tgt := 35) hx hb dX2_yearEnds_11 (by decide) (fun c_11 => ?_) (fun c_11 => ?_)
      · ---- to 35
        have n_11 := (nq_le (ct w) i (by omega) (by omega)).mp c_11
        refine lv_iload_n hx hb dX2_yearEnds_35 rfl (lv_at hl 2 rfl) ?_
        rw [hQ]
        exact ra_iretR hx hb hr hlocks rfl (by rw [← he, show ct w - i = 0 by omega]; rfl) dX2_yearEnds_36
      · ---- on
        have n_11 := (nq_le_n (ct w) i (by omega) (by omega)).mp c_11
        refine lv_aload_n hx hb dX2_yearEnds_14 rfl (lv_at hl 0 rfl) ?_
        refine va_get (D := (dC, dI)) (ci := 2) (v := .ref d2) (C := RX2) (T := TX2) (N := 3) hx hb hts hin_X2 hown hK hP 0 rfl rfl 1 (by decide) hw_3 (fun _ h9 => h9) rfl dX2_yearEnds_15 ?_
        refine lv_iload_n hx hb dX2_yearEnds_18 rfl (lv_at hl 1 rfl) ?_
        refine ra_aald (b := kr) hx hb hK hP 2 rfl w rfl (by omega) (Nat.le_of_ble_eq_true rfl) hfk dX2_yearEnds_19 ?_
        refine lv_iload_n hx hb dX2_yearEnds_20 rfl (lv_at hl 3 rfl) ?_
        refine ra_iald hx hb hK hP 4 rfl i rfl (by omega) (Nat.le_of_ble_eq_true rfl) dX2_yearEnds_21 ?_
        refine lv_iconst (v := 2) hx hb dX2_yearEnds_22 (by decide) ?_
        refine lv_icmp_ne (tgt := 29) hx hb dX2_yearEnds_23 (by decide) (fun c_23 => ?_) (fun c_23 => ?_)
        · ---- to 29
          refine lv_iinc (v := nI (i + 1)) (lv' := [(3, .int (nI (i + 1))), (0, .ref d0), (1, .int (nI w)), (2, .int (nI x))]) hx hb dX2_yearEnds_29 hl (k := 3) rfl (ra_inc1 _) (by decide) rfl (fun ls hl => ?_)
          refine lv_goto (tgt := 4) hx hb dX2_yearEnds_32 (by decide) ?_
          exact ih_4 (i + 1) x (by omega) (by rw [← he, show ct w - i = ct w - (i + 1) + 1 by omega]; show _ = cntY kw _ _ (if _ then _ else _); first | rw [if_neg c_23] | rw [if_pos c_23]) (by omega) ls (lv_sub hl [1, 2, 3, 0] rfl)
        · ---- on
          refine lv_iinc (v := nI (x + 1)) (lv' := [(2, .int (nI (x + 1))), (0, .ref d0), (1, .int (nI w)), (3, .int (nI i))]) hx hb dX2_yearEnds_26 hl (k := 2) rfl (ra_inc1 _) (by decide) rfl (fun ls hl => ?_)
          refine lv_iinc (v := nI (i + 1)) (lv' := [(3, .int (nI (i + 1))), (2, .int (nI (x + 1))), (0, .ref d0), (1, .int (nI w))]) hx hb dX2_yearEnds_29 hl (k := 3) rfl (ra_inc1 _) (by decide) rfl (fun ls hl => ?_)
          refine lv_goto (tgt := 4) hx hb dX2_yearEnds_32 (by decide) ?_
          exact ih_4 (i + 1) (x + 1) (by omega) (by rw [← he, show ct w - i = ct w - (i + 1) + 1 by omega]; show _ = cntY kw _ _ (if _ then _ else _); first | rw [if_neg c_23] | rw [if_pos c_23]) (by omega) ls (lv_sub hl [2, 3, 1, 0] rfl)
  exact L_4 _ 0 0 (by omega) rfl (Nat.lt_succ_self _) ls (lv_sub hl [2, 3, 1, 0] rfl)

set_option maxHeartbeats 4000000 in
set_option maxRecDepth 100000 in
theorem c_X2_lastYear (l : Launch) (dC : Nat → ClassId) (dI : Nat → Nat → Nat) (cyI cyA : ClassId) (d0 d1 d2 d3 : Nat) (ct : Nat → Nat) (k0 k1 k2 v0 v1 v2 : Nat) (kd : Nat → FN) (hct : ∀ w, w < 3 → ct w ≤ 12) : Met l yX2_lastYear wsX2_lastYear (rm 1) (kR dC dI cyI cyA [.ref d0] [ob d0 2 [.ref d1, .ref d2, .ref d3], ai d1 cyI 3 (nF ct), aa d2 cyA 3 (r3 k0 k1 k2), aa d3 cyA 3 (r3 v0 v1 v2), ai k0 cyI 12 (kd 0), ai k1 cyI 12 (kd 1), ai k2 cyI 12 (kd 2)]) (QcRead (nI (lastY ct kd))) 0 0 (fun _ => False) := by
  refine ra_metR (cc := cX2_lastYear) (maxL := 3) (by decide) rfl (Nat.le_of_ble_eq_true rfl) ?_
  intro p e s m below meth c args Q hQ hx hb hr hlocks hml hts hown hK hN hP ls hl
  have hl : lv_has ls 3 [(0, .ref d0)] := hl
  have hown : s.vm.findClass RX2 = some m.cls := hown
  have hw_1 := hts (.methodLink RX2 27 Lib.Math.max.name) (by decide +kernel)
  have hw_2 := hts (.static Lib.Math.max.name) (by decide +kernel)
  have hw_3 := hts (.initialized "java/lang/Math") (by decide +kernel)
  have hw_4 := hts (.code Lib.Math.max.name Lib.Math.max.code 2 (some .int)) (by decide +kernel)
  have h0 := hct 0 (by omega)
  have h1 := hct 1 (by omega)
  have h2 := hct 2 (by omega)
  have g0 := cntY_le (kd 0) (ct 0) 0 0
  have g1 := cntY_le (kd 1) (ct 1) 0 0
  have g2 := cntY_le (kd 2) (ct 2) 0 0
  refine lv_iconst (v := 0) hx hb dX2_lastYear_0 (by decide) ?_
  refine lv_istore_n (lv' := [(1, .int 0), (0, .ref d0)]) hx hb dX2_lastYear_1 rfl hl (by decide) rfl (fun ls hl => ?_)
  refine lv_iconst (v := 0) hx hb dX2_lastYear_2 (by decide) ?_
  refine lv_istore_n (lv' := [(2, .int 0), (1, .int 0), (0, .ref d0)]) hx hb dX2_lastYear_3 rfl hl (by decide) rfl (fun ls hl => ?_)
  refine lv_iload_n hx hb dX2_lastYear_4 rfl (lv_at hl 0 rfl) ?_
  refine lv_iconst (v := 3) hx hb dX2_lastYear_5 (by decide) ?_
  refine lv_icmp_ge (tgt := 25) hx hb dX2_lastYear_6 (by decide) (fun c_6 => ?_) (fun c_6 => ?_)
  · ---- to 25
    exact absurd c_6 (by decide)
  · ---- on
    refine lv_iload_n hx hb dX2_lastYear_9 rfl (lv_at hl 1 rfl) ?_
    refine lv_aload_n hx hb dX2_lastYear_10 rfl (lv_at hl 2 rfl) ?_
    refine lv_iload_n hx hb dX2_lastYear_11 rfl (lv_at hl 0 rfl) ?_
    refine ra_cR (q := (RX2, TX2, 3)) (ci := 2) (As := [.int 0]) (rest := [.int 0]) (wc := [ob d0 2 [.ref d1, .ref d2, .ref d3], ai d1 cyI 3 (nF ct), aa d2 cyA 3 (r3 k0 k1 k2), aa d3 cyA 3 (r3 v0 v1 v2), ai k0 cyI 12 (kd 0)]) ⟨hx, hb, hml, hown, hts⟩ (c_X2_yearEnds l dC dI cyI cyA d0 d1 d2 d3 ct (r3 k0 k1 k2) (r3 v0 v1 v2) 0 k0 (kd 0) (by omega) (by omega) rfl) (cwV 1 hts gX2_lastYear_X2_yearEnds rfl rfl rfl (by decide +kernel) ⟨Nat.le_of_ble_eq_true rfl, Nat.le_of_ble_eq_true rfl⟩) hK hN hP [0, 1, 2, 3, 4] rfl rfl rfl rfl hl.1 rfl (Nat.le_of_ble_eq_true rfl) dX2_lastYear_12 ⟨Nat.le_of_ble_eq_true rfl, Nat.le_of_ble_eq_true rfl⟩ ?_
    refine va_mmax hx hb (hml.trans hl.1.symm) hown hw_1 hw_2 hw_3 hw_4 (Nat.le_of_ble_eq_true rfl) (Nat.le_of_ble_eq_true rfl) (Nat.le_of_ble_eq_true rfl) (Nat.le_of_ble_eq_true rfl) dX2_lastYear_15 ?_
    refine ra_top (jmax 0 (nI (cntY (kd 0) (ct 0) 0 0))) rfl ?_
    refine lv_istore_n (lv' := [(1, .int (jmax 0 (nI (cntY (kd 0) (ct 0) 0 0)))), (2, .int 0), (0, .ref d0)]) hx hb dX2_lastYear_18 rfl hl (by decide) rfl (fun ls hl => ?_)
    refine lv_iinc (v := 1) (lv' := [(2, .int 1), (1, .int (jmax 0 (nI (cntY (kd 0) (ct 0) 0 0)))), (0, .ref d0)]) hx hb dX2_lastYear_19 hl (k := 1) rfl (by decide) (by decide) rfl (fun ls hl => ?_)
    refine lv_goto (tgt := 4) hx hb dX2_lastYear_22 (by decide) ?_
    refine lv_iload_n hx hb dX2_lastYear_4 rfl (lv_at hl 0 rfl) ?_
    refine lv_iconst (v := 3) hx hb dX2_lastYear_5 (by decide) ?_
    refine lv_icmp_ge (tgt := 25) hx hb dX2_lastYear_6 (by decide) (fun c_6_2 => ?_) (fun c_6_2 => ?_)
    · ---- to 25
      exact absurd c_6_2 (by decide)
    · ---- on
      refine lv_iload_n hx hb dX2_lastYear_9 rfl (lv_at hl 1 rfl) ?_
      refine lv_aload_n hx hb dX2_lastYear_10 rfl (lv_at hl 2 rfl) ?_
      refine lv_iload_n hx hb dX2_lastYear_11 rfl (lv_at hl 0 rfl) ?_
      refine ra_cR (q := (RX2, TX2, 3)) (ci := 2) (As := [.int 1]) (rest := [.int (jmax 0 (nI (cntY (kd 0) (ct 0) 0 0)))]) (wc := [ob d0 2 [.ref d1, .ref d2, .ref d3], ai d1 cyI 3 (nF ct), aa d2 cyA 3 (r3 k0 k1 k2), aa d3 cyA 3 (r3 v0 v1 v2), ai k1 cyI 12 (kd 1)]) ⟨hx, hb, hml, hown, hts⟩ (c_X2_yearEnds l dC dI cyI cyA d0 d1 d2 d3 ct (r3 k0 k1 k2) (r3 v0 v1 v2) 1 k1 (kd 1) (by omega) (by omega) rfl) (cwV 1 hts gX2_lastYear_X2_yearEnds rfl rfl rfl (by decide +kernel) ⟨Nat.le_of_ble_eq_true rfl, Nat.le_of_ble_eq_true rfl⟩) hK hN hP [0, 1, 2, 3, 5] rfl rfl rfl rfl hl.1 rfl (Nat.le_of_ble_eq_true rfl) dX2_lastYear_12 ⟨Nat.le_of_ble_eq_true rfl, Nat.le_of_ble_eq_true rfl⟩ ?_
      refine va_mmax hx hb (hml.trans hl.1.symm) hown hw_1 hw_2 hw_3 hw_4 (Nat.le_of_ble_eq_true rfl) (Nat.le_of_ble_eq_true rfl) (Nat.le_of_ble_eq_true rfl) (Nat.le_of_ble_eq_true rfl) dX2_lastYear_15 ?_
      refine ra_top (jmax (jmax 0 (nI (cntY (kd 0) (ct 0) 0 0))) (nI (cntY (kd 1) (ct 1) 0 0))) rfl ?_
      refine lv_istore_n (lv' := [(1, .int (jmax (jmax 0 (nI (cntY (kd 0) (ct 0) 0 0))) (nI (cntY (kd 1) (ct 1) 0 0)))), (2, .int 1), (0, .ref d0)]) hx hb dX2_lastYear_18 rfl hl (by decide) rfl (fun ls hl => ?_)
      refine lv_iinc (v := 2) (lv' := [(2, .int 2), (1, .int (jmax (jmax 0 (nI (cntY (kd 0) (ct 0) 0 0))) (nI (cntY (kd 1) (ct 1) 0 0)))), (0, .ref d0)]) hx hb dX2_lastYear_19 hl (k := 1) rfl (by decide) (by decide) rfl (fun ls hl => ?_)
      refine lv_goto (tgt := 4) hx hb dX2_lastYear_22 (by decide) ?_
      refine lv_iload_n hx hb dX2_lastYear_4 rfl (lv_at hl 0 rfl) ?_
      refine lv_iconst (v := 3) hx hb dX2_lastYear_5 (by decide) ?_
      refine lv_icmp_ge (tgt := 25) hx hb dX2_lastYear_6 (by decide) (fun c_6_3 => ?_) (fun c_6_3 => ?_)
      · ---- to 25
        exact absurd c_6_3 (by decide)
      · ---- on
        refine lv_iload_n hx hb dX2_lastYear_9 rfl (lv_at hl 1 rfl) ?_
        refine lv_aload_n hx hb dX2_lastYear_10 rfl (lv_at hl 2 rfl) ?_
        refine lv_iload_n hx hb dX2_lastYear_11 rfl (lv_at hl 0 rfl) ?_
        refine ra_cR (q := (RX2, TX2, 3)) (ci := 2) (As := [.int 2]) (rest := [.int (jmax (jmax 0 (nI (cntY (kd 0) (ct 0) 0 0))) (nI (cntY (kd 1) (ct 1) 0 0)))]) (wc := [ob d0 2 [.ref d1, .ref d2, .ref d3], ai d1 cyI 3 (nF ct), aa d2 cyA 3 (r3 k0 k1 k2), aa d3 cyA 3 (r3 v0 v1 v2), ai k2 cyI 12 (kd 2)]) ⟨hx, hb, hml, hown, hts⟩ (c_X2_yearEnds l dC dI cyI cyA d0 d1 d2 d3 ct (r3 k0 k1 k2) (r3 v0 v1 v2) 2 k2 (kd 2) (by omega) (by omega) rfl) (cwV 1 hts gX2_lastYear_X2_yearEnds rfl rfl rfl (by decide +kernel) ⟨Nat.le_of_ble_eq_true rfl, Nat.le_of_ble_eq_true rfl⟩) hK hN hP [0, 1, 2, 3, 6] rfl rfl rfl rfl hl.1 rfl (Nat.le_of_ble_eq_true rfl) dX2_lastYear_12 ⟨Nat.le_of_ble_eq_true rfl, Nat.le_of_ble_eq_true rfl⟩ ?_
        refine va_mmax hx hb (hml.trans hl.1.symm) hown hw_1 hw_2 hw_3 hw_4 (Nat.le_of_ble_eq_true rfl) (Nat.le_of_ble_eq_true rfl) (Nat.le_of_ble_eq_true rfl) (Nat.le_of_ble_eq_true rfl) dX2_lastYear_15 ?_
        refine ra_top (jmax (jmax (jmax 0 (nI (cntY (kd 0) (ct 0) 0 0))) (nI (cntY (kd 1) (ct 1) 0 0))) (nI (cntY (kd 2) (ct 2) 0 0))) rfl ?_
        refine lv_istore_n (lv' := [(1, .int (jmax (jmax (jmax 0 (nI (cntY (kd 0) (ct 0) 0 0))) (nI (cntY (kd 1) (ct 1) 0 0))) (nI (cntY (kd 2) (ct 2) 0 0)))), (2, .int 2), (0, .ref d0)]) hx hb dX2_lastYear_18 rfl hl (by decide) rfl (fun ls hl => ?_)
        refine lv_iinc (v := 3) (lv' := [(2, .int 3), (1, .int (jmax (jmax (jmax 0 (nI (cntY (kd 0) (ct 0) 0 0))) (nI (cntY (kd 1) (ct 1) 0 0))) (nI (cntY (kd 2) (ct 2) 0 0)))), (0, .ref d0)]) hx hb dX2_lastYear_19 hl (k := 1) rfl (by decide) (by decide) rfl (fun ls hl => ?_)
        refine lv_goto (tgt := 4) hx hb dX2_lastYear_22 (by decide) ?_
        refine lv_iload_n hx hb dX2_lastYear_4 rfl (lv_at hl 0 rfl) ?_
        refine lv_iconst (v := 3) hx hb dX2_lastYear_5 (by decide) ?_
        refine lv_icmp_ge (tgt := 25) hx hb dX2_lastYear_6 (by decide) (fun c_6_4 => ?_) (fun c_6_4 => ?_)
        · ---- to 25
          refine lv_iload_n hx hb dX2_lastYear_25 rfl (lv_at hl 1 rfl) ?_
          rw [hQ]
          exact ra_iretR hx hb hr hlocks rfl (by rw [show (0 : Int32) = nI 0 from rfl, jmax_nI _ _ (by omega) (by omega), jmax_nI _ _ (by omega) (by omega), jmax_nI _ _ (by omega) (by omega)]; rfl) dX2_lastYear_26
        · ---- on
          exact absurd c_6_4 (by decide)
end
section
set_option maxHeartbeats 4000000 in
set_option maxRecDepth 100000 in
theorem c_X3_isWeather (l : Launch) (x : Int32)  : Met l yX3_isWeather wsX3_isWeather (rm 1) (kS [.int x]) (QcRead (bi (0 ≤ x ∧ x ≤ 2))) 0 0 (fun _ => False) := by
  refine ra_metS (cc := cX3_isWeather) (maxL := 1) (by decide) rfl (Nat.le_of_ble_eq_true rfl) ?_
  intro p e s m below meth c args Q hQ hx hb hr hlocks hml hts hown hN ls hl
  have hl : lv_has ls 1 [(0, .int x)] := hl
  have hown : s.vm.findClass RX3 = some m.cls := hown
  refine lv_iload_n hx hb dX3_isWeather_0 rfl (lv_at hl 0 rfl) ?_
  refine lv_iconst (v := 0) hx hb dX3_isWeather_1 (by decide) ?_
  refine lv_iconst (v := 2) hx hb dX3_isWeather_2 (by decide) ?_
  refine ra_cS (As := [.int x, .int 0, .int 2]) (rest := []) ⟨hx, hb, hml, hown, hts⟩ (c_X3_isWithin l x 0 2 ) (va_cwS 3 hts gX3_isWeather_X3_isWithin rfl rfl rfl (by decide +kernel) ⟨Nat.le_of_ble_eq_true rfl, Nat.le_of_ble_eq_true rfl⟩) hN rfl hl.1 rfl (Nat.le_of_ble_eq_true rfl) dX3_isWeather_3 ⟨Nat.le_of_ble_eq_true rfl, Nat.le_of_ble_eq_true rfl⟩ ?_
  rw [hQ]
  exact ra_iretR hx hb hr hlocks (bi_nar _) rfl dX3_isWeather_6

set_option maxHeartbeats 4000000 in
set_option maxRecDepth 100000 in
theorem c_X3_isAim (l : Launch) (x : Int32)  : Met l yX3_isAim wsX3_isAim (rm 1) (kS [.int x]) (QcRead (bi (0 ≤ x ∧ x ≤ 99))) 0 0 (fun _ => False) := by
  refine ra_metS (cc := cX3_isAim) (maxL := 1) (by decide) rfl (Nat.le_of_ble_eq_true rfl) ?_
  intro p e s m below meth c args Q hQ hx hb hr hlocks hml hts hown hN ls hl
  have hl : lv_has ls 1 [(0, .int x)] := hl
  have hown : s.vm.findClass RX3 = some m.cls := hown
  refine lv_iload_n hx hb dX3_isAim_0 rfl (lv_at hl 0 rfl) ?_
  refine lv_iconst (v := 0) hx hb dX3_isAim_1 (by decide) ?_
  refine lv_bipush (v := 99) hx hb dX3_isAim_2 (by decide) ?_
  refine ra_cS (As := [.int x, .int 0, .int 99]) (rest := []) ⟨hx, hb, hml, hown, hts⟩ (c_X3_isWithin l x 0 99 ) (va_cwS 3 hts gX3_isAim_X3_isWithin rfl rfl rfl (by decide +kernel) ⟨Nat.le_of_ble_eq_true rfl, Nat.le_of_ble_eq_true rfl⟩) hN rfl hl.1 rfl (Nat.le_of_ble_eq_true rfl) dX3_isAim_4 ⟨Nat.le_of_ble_eq_true rfl, Nat.le_of_ble_eq_true rfl⟩ ?_
  rw [hQ]
  exact ra_iretR hx hb hr hlocks (bi_nar _) rfl dX3_isAim_7

set_option maxHeartbeats 4000000 in
set_option maxRecDepth 100000 in
theorem c_X3_isFractionPart (l : Launch) (x : Int32)  : Met l yX3_isFractionPart wsX3_isFractionPart (rm 1) (kS [.int x]) (QcRead (bi (0 ≤ x ∧ x ≤ 1))) 0 0 (fun _ => False) := by
  refine ra_metS (cc := cX3_isFractionPart) (maxL := 1) (by decide) rfl (Nat.le_of_ble_eq_true rfl) ?_
  intro p e s m below meth c args Q hQ hx hb hr hlocks hml hts hown hN ls hl
  have hl : lv_has ls 1 [(0, .int x)] := hl
  have hown : s.vm.findClass RX3 = some m.cls := hown
  refine lv_iload_n hx hb dX3_isFractionPart_0 rfl (lv_at hl 0 rfl) ?_
  refine lv_iconst (v := 0) hx hb dX3_isFractionPart_1 (by decide) ?_
  refine lv_iconst (v := 1) hx hb dX3_isFractionPart_2 (by decide) ?_
  refine ra_cS (As := [.int x, .int 0, .int 1]) (rest := []) ⟨hx, hb, hml, hown, hts⟩ (c_X3_isWithin l x 0 1 ) (va_cwS 3 hts gX3_isFractionPart_X3_isWithin rfl rfl rfl (by decide +kernel) ⟨Nat.le_of_ble_eq_true rfl, Nat.le_of_ble_eq_true rfl⟩) hN rfl hl.1 rfl (Nat.le_of_ble_eq_true rfl) dX3_isFractionPart_3 ⟨Nat.le_of_ble_eq_true rfl, Nat.le_of_ble_eq_true rfl⟩ ?_
  rw [hQ]
  exact ra_iretR hx hb hr hlocks (bi_nar _) rfl dX3_isFractionPart_6

set_option maxHeartbeats 4000000 in
set_option maxRecDepth 100000 in
theorem c_X3_mostOf (l : Launch) (x : Int32)  : Met l yX3_mostOf wsX3_mostOf (rm 0) (kS [.int x]) (QcRead (mostV x)) 0 0 (fun _ => False) := by
  refine ra_metS (cc := cX3_mostOf) (maxL := 1) (by decide) rfl (Nat.le_of_ble_eq_true rfl) ?_
  intro p e s m below meth c args Q hQ hx hb hr hlocks hml hts hown hN ls hl
  have hl : lv_has ls 1 [(0, .int x)] := hl
  have hown : s.vm.findClass RX3 = some m.cls := hown
  refine lv_iload_n hx hb dX3_mostOf_0 rfl (lv_at hl 0 rfl) ?_
  refine lv_if_ne (tgt := 7) hx hb dX3_mostOf_1 (by decide) (fun c_1 => ?_) (fun c_1 => ?_)
  · ---- to 7
    refine lv_iload_n hx hb dX3_mostOf_7 rfl (lv_at hl 0 rfl) ?_
    refine lv_iconst (v := 1) hx hb dX3_mostOf_8 (by decide) ?_
    refine lv_icmp_ne (tgt := 17) hx hb dX3_mostOf_9 (by decide) (fun c_9 => ?_) (fun c_9 => ?_)
    · ---- to 17
      refine lv_bipush (v := 20) hx hb dX3_mostOf_17 (by decide) ?_
      rw [hQ]
      exact ra_iretR hx hb hr hlocks rfl (by unfold mostV; rw [if_neg c_1]; first | (rw [if_pos c_9]; done) | (rw [if_neg c_9]; done)) dX3_mostOf_19
    · ---- on
      refine lv_bipush (v := 9) hx hb dX3_mostOf_12 (by decide) ?_
      refine lv_goto (tgt := 19) hx hb dX3_mostOf_14 (by decide) ?_
      rw [hQ]
      exact ra_iretR hx hb hr hlocks rfl (by unfold mostV; rw [if_neg c_1]; first | (rw [if_pos c_9]; done) | (rw [if_neg c_9]; done)) dX3_mostOf_19
  · ---- on
    refine lv_bipush (v := 99) hx hb dX3_mostOf_4 (by decide) ?_
    rw [hQ]
    exact ra_iretR hx hb hr hlocks rfl (by unfold mostV; rw [if_pos c_1]) dX3_mostOf_6

set_option maxHeartbeats 4000000 in
set_option maxRecDepth 100000 in
theorem c_X3_isEvent (l : Launch) (k v : Int32)  : Met l yX3_isEvent wsX3_isEvent (rm 1) (kS [.int k, .int v]) (QcRead (bj (isEv k v))) 0 0 (fun _ => False) := by
  refine ra_metS (cc := cX3_isEvent) (maxL := 2) (by decide) rfl (Nat.le_of_ble_eq_true rfl) ?_
  intro p e s m below meth c args Q hQ hx hb hr hlocks hml hts hown hN ls hl
  have hl : lv_has ls 2 [(0, .int k), (1, .int v)] := hl
  have hown : s.vm.findClass RX3 = some m.cls := hown
  refine lv_iload_n hx hb dX3_isEvent_0 rfl (lv_at hl 0 rfl) ?_
  by_cases h0 : k = 0
  ·
    refine ra_top 0 h0 ?_
    refine lv_lookup (off := 27) (tgt := 28) hx hb dX3_isEvent_1 (by decide) (by decide) (by decide) ?_
    refine lv_iload_n hx hb dX3_isEvent_28 rfl (lv_at hl 1 rfl) ?_
    refine lv_iconst (v := 1) hx hb dX3_isEvent_29 (by decide) ?_
    refine lv_bipush (v := 9) hx hb dX3_isEvent_30 (by decide) ?_
    refine ra_cS (As := [.int v, .int 1, .int 9]) (rest := []) ⟨hx, hb, hml, hown, hts⟩ (c_X3_isWithin l v 1 9 ) (va_cwS 3 hts gX3_isEvent_X3_isWithin rfl rfl rfl (by decide +kernel) ⟨Nat.le_of_ble_eq_true rfl, Nat.le_of_ble_eq_true rfl⟩) hN rfl hl.1 rfl (Nat.le_of_ble_eq_true rfl) dX3_isEvent_32 ⟨Nat.le_of_ble_eq_true rfl, Nat.le_of_ble_eq_true rfl⟩ ?_
    rw [hQ]
    exact ra_iretR hx hb hr hlocks (bi_nar _) (bi_bj (by unfold isEv; simp only [fa_lt, fa_le, fa_eq, i32_0, i32_1, i32_2, i32_9, i32_99] at h0 ⊢; omega)) dX3_isEvent_35
  ·
    by_cases h1 : k = 1
    ·
      refine ra_top 1 h1 ?_
      refine lv_lookup (off := 35) (tgt := 36) hx hb dX3_isEvent_1 (by decide) (by decide) (by decide) ?_
      refine lv_iload_n hx hb dX3_isEvent_36 rfl (lv_at hl 1 rfl) ?_
      refine lv_iconst (v := 1) hx hb dX3_isEvent_37 (by decide) ?_
      refine lv_bipush (v := 99) hx hb dX3_isEvent_38 (by decide) ?_
      refine ra_cS (As := [.int v, .int 1, .int 99]) (rest := []) ⟨hx, hb, hml, hown, hts⟩ (c_X3_isWithin l v 1 99 ) (va_cwS 3 hts gX3_isEvent_X3_isWithin rfl rfl rfl (by decide +kernel) ⟨Nat.le_of_ble_eq_true rfl, Nat.le_of_ble_eq_true rfl⟩) hN rfl hl.1 rfl (Nat.le_of_ble_eq_true rfl) dX3_isEvent_40 ⟨Nat.le_of_ble_eq_true rfl, Nat.le_of_ble_eq_true rfl⟩ ?_
      rw [hQ]
      exact ra_iretR hx hb hr hlocks (bi_nar _) (bi_bj (by unfold isEv; simp only [fa_lt, fa_le, fa_eq, i32_0, i32_1, i32_2, i32_9, i32_99] at h0 h1 ⊢; omega)) dX3_isEvent_43
    ·
      refine lv_lookup (off := 43) (tgt := 44) hx hb dX3_isEvent_1 (by decide) (by show Op.lookupswitch.offset [(0, 27), (1, 35)] 43 _ = 43; rw [lv_osw (k := 0) h0 (by decide), lv_osw (k := 1) h1 (by decide)]; rfl) (by decide) ?_
      refine lv_iload_n hx hb dX3_isEvent_44 rfl (lv_at hl 0 rfl) ?_
      refine lv_iconst (v := 2) hx hb dX3_isEvent_45 (by decide) ?_
      refine lv_icmp_ne (tgt := 53) hx hb dX3_isEvent_46 (by decide) (fun c_46 => ?_) (fun c_46 => ?_)
      · ---- to 53
        refine lv_iconst (v := 0) hx hb dX3_isEvent_53 (by decide) ?_
        rw [hQ]
        exact ra_iretR hx hb hr hlocks rfl (bj_f (by unfold isEv; simp only [fa_lt, fa_le, fa_eq, i32_0, i32_1, i32_2, i32_9, i32_99] at h0 h1 c_46 ⊢; omega)).symm dX3_isEvent_54
      · ---- on
        refine lv_iconst (v := 1) hx hb dX3_isEvent_49 (by decide) ?_
        refine lv_goto (tgt := 54) hx hb dX3_isEvent_50 (by decide) ?_
        rw [hQ]
        exact ra_iretR hx hb hr hlocks rfl (bj_t (by unfold isEv; simp only [fa_lt, fa_le, fa_eq, i32_0, i32_1, i32_2, i32_9, i32_99] at h0 h1 c_46 ⊢; omega)).symm dX3_isEvent_54

set_option maxHeartbeats 4000000 in
set_option maxRecDepth 100000 in
theorem c_X3_isCellOrNone (l : Launch) (dC : Nat → ClassId) (dI : Nat → Nat → Nat) (cyI cyA : ClassId) (q0 z0 e0 g0 : Nat) (isv fz : Int32) (t0 d0 : Nat) (a0 a1 a2 a3 a4 n : Nat) (fh fg ff fk : FN) (vs vb vd : Int32) (x : Int32)  : Met l yX3_isCellOrNone wsX3_isCellOrNone (rm 1) (kR dC dI cyI cyA [.ref q0, .int x] [ob q0 3 [.ref a0, .ref t0, .ref z0, .int isv, .ref d0, .ref e0, .int fz, .ref g0], ob a0 0 [.int (nI n), .ref a1, .ref a2, .ref a3, .ref a4, .int vs, .int vb, .int vd], ai a1 cyI 7 fh, ai a2 cyI 7 fg, ai a3 cyI 7 ff, ai a4 cyI 7 fk]) (QcRead (bj (ceN n x))) 0 0 (fun _ => False) := by
  refine ra_metR (cc := cX3_isCellOrNone) (maxL := 2) (by decide) rfl (Nat.le_of_ble_eq_true rfl) ?_
  intro p e s m below meth c args Q hQ hx hb hr hlocks hml hts hown hK hN hP ls hl
  have hl : lv_has ls 2 [(0, .ref q0), (1, .int x)] := hl
  have hown : s.vm.findClass RX3 = some m.cls := hown
  have hw_1 := hts (.fieldLink RX3 10 "DuneBench" "shore" "LDuneBench$Coast;") (by decide +kernel)
  have hin_X3 : ∀ w ∈ u_ws RX3 TX3 8, w ∈ wsX3_isCellOrNone := by decide +kernel
  refine lv_iload_n hx hb dX3_isCellOrNone_0 rfl (lv_at hl 1 rfl) ?_
  refine lv_iconst (v := (-1)) hx hb dX3_isCellOrNone_1 (by decide) ?_
  refine lv_icmp_eq (tgt := 16) hx hb dX3_isCellOrNone_2 (by decide) (fun c_2 => ?_) (fun c_2 => ?_)
  · ---- to 16
    refine lv_iconst (v := 1) hx hb dX3_isCellOrNone_16 (by decide) ?_
    refine lv_goto (tgt := 21) hx hb dX3_isCellOrNone_17 (by decide) ?_
    rw [hQ]
    exact ra_iretR hx hb hr hlocks rfl (by first | exact (bj_t (show ceN n x from Or.inl c_2)).symm | exact (bj_t (show ceN n x from Or.inr c_13)).symm | exact (bj_f (show ¬ ceN n x from fun q => q.elim c_2 c_13)).symm) dX3_isCellOrNone_21
  · ---- on
    refine lv_aload_n hx hb dX3_isCellOrNone_5 rfl (lv_at hl 0 rfl) ?_
    refine va_get (D := (dC, dI)) (ci := 3) (v := .ref a0) (C := RX3) (T := TX3) (N := 8) hx hb hts hin_X3 hown hK hP 0 rfl rfl 0 (by decide) hw_1 (fun _ h9 => h9) rfl dX3_isCellOrNone_6 ?_
    refine lv_iload_n hx hb dX3_isCellOrNone_9 rfl (lv_at hl 1 rfl) ?_
    refine ra_cR (q := (RX0, TX0, 8)) (ci := 0) (As := [.int x]) (rest := []) (wc := [ob a0 0 [.int (nI n), .ref a1, .ref a2, .ref a3, .ref a4, .int vs, .int vb, .int vd], ai a1 cyI 7 fh, ai a2 cyI 7 fg, ai a3 cyI 7 ff, ai a4 cyI 7 fk]) ⟨hx, hb, hml, hown, hts⟩ (c_X0_has l dC dI cyI cyA a0 a1 a2 a3 a4 n fh fg ff fk vs vb vd x ) (cwV 1 hts gX3_isCellOrNone_X0_has rfl rfl rfl (by decide +kernel) ⟨Nat.le_of_ble_eq_true rfl, Nat.le_of_ble_eq_true rfl⟩) hK hN hP [1, 2, 3, 4, 5] rfl rfl rfl rfl hl.1 rfl (Nat.le_of_ble_eq_true rfl) dX3_isCellOrNone_10 ⟨Nat.le_of_ble_eq_true rfl, Nat.le_of_ble_eq_true rfl⟩ ?_
    refine lv_if_eq (tgt := 20) hx hb dX3_isCellOrNone_13 (by decide) (fun c_13 => ?_) (fun c_13 => ?_)
    · ---- to 20
      have c_13 := bi_0 c_13
      refine lv_iconst (v := 0) hx hb dX3_isCellOrNone_20 (by decide) ?_
      rw [hQ]
      exact ra_iretR hx hb hr hlocks rfl (by first | exact (bj_t (show ceN n x from Or.inl c_2)).symm | exact (bj_t (show ceN n x from Or.inr c_13)).symm | exact (bj_f (show ¬ ceN n x from fun q => q.elim c_2 c_13)).symm) dX3_isCellOrNone_21
    · ---- on
      have c_13 := bi_1 c_13
      refine lv_iconst (v := 1) hx hb dX3_isCellOrNone_16 (by decide) ?_
      refine lv_goto (tgt := 21) hx hb dX3_isCellOrNone_17 (by decide) ?_
      rw [hQ]
      exact ra_iretR hx hb hr hlocks rfl (by first | exact (bj_t (show ceN n x from Or.inl c_2)).symm | exact (bj_t (show ceN n x from Or.inr c_13)).symm | exact (bj_f (show ¬ ceN n x from fun q => q.elim c_2 c_13)).symm) dX3_isCellOrNone_21

set_option maxHeartbeats 4000000 in
set_option maxRecDepth 100000 in
theorem c_X3_beginYear (l : Launch) (dC : Nat → ClassId) (dI : Nat → Nat → Nat) (cyI cyA : ClassId) (q0 z0 e0 g0 : Nat) (isv fz : Int32) (a0 d0 : Nat) (t0 t1 t2 t3 t4 tn : Nat) (th tg tf tk : FN) (ts tb td : Int32) (fp : FN) (y : Nat) (hn : tn ≤ 7) (hy : y ≤ 20) (sz : Nat) : Met l yX3_beginYear wsX3_beginYear (rm 1) (kW dC dI cyI cyA [.ref q0, .int (nI y)] sz [ob q0 3 [.ref a0, .ref t0, .ref z0, .int isv, .ref d0, .ref e0, .int fz, .ref g0], ob t0 0 [.int (nI tn), .ref t1, .ref t2, .ref t3, .ref t4, .int ts, .int tb, .int td], ai t1 cyI 7 th, ai t2 cyI 7 tg, ai t3 cyI 7 tf, ai t4 cyI 7 tk, ai g0 cyI 3 fp]) (qV dC dI cyI cyA (fun (_ : Unit) => True) (va_A [ob q0 3 [.ref a0, .ref t0, .ref z0, .int isv, .ref d0, .ref e0, .int fz, .ref g0], ob t0 0 [.int (nI tn), .ref t1, .ref t2, .ref t3, .ref t4, .int ts, .int tb, .int td], ai t1 cyI 7 th, ai t2 cyI 7 tg, ai t3 cyI 7 tf, ai t4 cyI 7 tk, ai g0 cyI 3 fp] sz) (fun _ => [ob q0 3 [.ref a0, .ref t0, .ref z0, .int isv, .ref d0, .ref e0, .int fz, .ref g0], ob t0 0 [.int (nI tn), .ref t1, .ref t2, .ref t3, .ref t4, .int ts, .int tb, .int td], ai t1 cyI 7 th, ai t2 cyI 7 tg, ai t3 cyI 7 (bgY tn tf fp fz y), ai t4 cyI 7 tk, ai g0 cyI 3 fp])) 0 0 (va_A [ob q0 3 [.ref a0, .ref t0, .ref z0, .int isv, .ref d0, .ref e0, .int fz, .ref g0], ob t0 0 [.int (nI tn), .ref t1, .ref t2, .ref t3, .ref t4, .int ts, .int tb, .int td], ai t1 cyI 7 th, ai t2 cyI 7 tg, ai t3 cyI 7 tf, ai t4 cyI 7 tk, ai g0 cyI 3 fp] sz) := by
  refine ra_metW (cc := cX3_beginYear) (maxL := 2) (Qc := fun A => qV dC dI cyI cyA (fun (_ : Unit) => True) A (fun _ => [ob q0 3 [.ref a0, .ref t0, .ref z0, .int isv, .ref d0, .ref e0, .int fz, .ref g0], ob t0 0 [.int (nI tn), .ref t1, .ref t2, .ref t3, .ref t4, .int ts, .int tb, .int td], ai t1 cyI 7 th, ai t2 cyI 7 tg, ai t3 cyI 7 (bgY tn tf fp fz y), ai t4 cyI 7 tk, ai g0 cyI 3 fp])) (by decide) rfl (Nat.le_of_ble_eq_true rfl) ?_
  intro p e s m below meth c A args Q hQ hx hb hr hlocks hml hts hown hnm hK hN hP hD hA hS ls hl
  have hl : lv_has ls 2 [(0, .ref q0), (1, .int (nI y))] := hl
  have hown : s.vm.findClass RX3 = some m.cls := hown
  have hw_1 := hts (.fieldLink RX3 16 "DuneBench" "trial" "LDuneBench$Coast;") (by decide +kernel)
  have hin_X3 : ∀ w ∈ u_ws RX3 TX3 8, w ∈ wsX3_beginYear := by decide +kernel
  have hw_3 := hts (.fieldLink RX3 44 "DuneBench" "planCells" "[I") (by decide +kernel)
  have hw_4 := hts (.fieldLink RX3 192 "DuneBench$Coast" "fence" "[I") (by decide +kernel)
  have hin_X0 : ∀ w ∈ u_ws RX0 TX0 8, w ∈ wsX3_beginYear := by decide +kernel
  have hw_6 := hts (.fieldLink RX3 40 "DuneBench" "fenceSize" "I") (by decide +kernel)
  obtain ⟨H, hHe⟩ : ∃ H, H = s.heap := ⟨_, rfl⟩
  obtain ⟨locs, hLe⟩ : ∃ locs : List Loc, locs = [] := ⟨_, rfl⟩
  have hP : va_P (dC, dI) vwCl [ob q0 3 [.ref a0, .ref t0, .ref z0, .int isv, .ref d0, .ref e0, .int fz, .ref g0], ob t0 0 [.int (nI tn), .ref t1, .ref t2, .ref t3, .ref t4, .int ts, .int tb, .int td], ai t1 cyI 7 th, ai t2 cyI 7 tg, ai t3 cyI 7 tf, ai t4 cyI 7 tk, ai g0 cyI 3 fp] H := by rw [hHe]; exact hP
  have hS : va_S A s.heap H locs := by rw [hHe, hLe]; exact hS
  suffices hgo : W p l e (rm 1) s m args below meth c H locs 0 0 Q (F0 m 0 ls []) by rw [hHe, hLe] at hgo; exact hgo
  refine lv_iload_n hx hb dX3_beginYear_0 rfl (lv_at hl 1 rfl) ?_
  refine lv_iconst (v := 3) hx hb dX3_beginYear_1 (by decide) ?_
  refine lv_icmp_ge (tgt := 39) hx hb dX3_beginYear_2 (by decide) (fun c_2 => ?_) (fun c_2 => ?_)
  · ---- to 39
    have n_2 := (nq_le 3 y (by omega) (by omega)).mp c_2
    rw [hQ]
    rw [show bgY tn tf fp fz y = tf from by unfold bgY; first | (rw [if_neg (show ¬ y < 3 by omega)]; done) | (rw [if_pos (show y < 3 by omega), if_neg c_18]; done) | (rw [if_pos (show y < 3 by omega), if_pos c_18]; done)]
    exact ra_vretW () hx hb hr hlocks hK hP hD hS trivial dX3_beginYear_39
  · ---- on
    have n_2 := (nq_le_n 3 y (by omega) (by omega)).mp c_2
    refine lv_aload_n hx hb dX3_beginYear_5 rfl (lv_at hl 0 rfl) ?_
    refine va_get (D := (dC, dI)) (ci := 3) (v := .ref t0) (C := RX3) (T := TX3) (N := 8) hx hb hts hin_X3 hown hK hP 0 rfl rfl 1 (by decide) hw_1 (fun _ h9 => h9) rfl dX3_beginYear_6 ?_
    refine lv_aload_n hx hb dX3_beginYear_9 rfl (lv_at hl 0 rfl) ?_
    refine va_get (D := (dC, dI)) (ci := 3) (v := .ref g0) (C := RX3) (T := TX3) (N := 8) hx hb hts hin_X3 hown hK hP 0 rfl rfl 7 (by decide) hw_3 (fun _ h9 => h9) rfl dX3_beginYear_10 ?_
    refine lv_iload_n hx hb dX3_beginYear_13 rfl (lv_at hl 1 rfl) ?_
    refine ra_iald hx hb hK hP 6 rfl y rfl (by omega) (Nat.le_of_ble_eq_true rfl) dX3_beginYear_14 ?_
    refine ra_cR (q := (RX0, TX0, 8)) (ci := 0) (As := [.int (fp y)]) (rest := []) (wc := [ob t0 0 [.int (nI tn), .ref t1, .ref t2, .ref t3, .ref t4, .int ts, .int tb, .int td], ai t1 cyI 7 th, ai t2 cyI 7 tg, ai t3 cyI 7 tf, ai t4 cyI 7 tk]) ⟨hx, hb, hml, hown, hts⟩ (c_X0_has l dC dI cyI cyA t0 t1 t2 t3 t4 tn th tg tf tk ts tb td (fp y) ) (cwV 1 hts gX3_beginYear_X0_has rfl rfl rfl (by decide +kernel) ⟨Nat.le_of_ble_eq_true rfl, Nat.le_of_ble_eq_true rfl⟩) hK hN hP [1, 2, 3, 4, 5] rfl rfl rfl rfl hl.1 rfl (Nat.le_of_ble_eq_true rfl) dX3_beginYear_15 ⟨Nat.le_of_ble_eq_true rfl, Nat.le_of_ble_eq_true rfl⟩ ?_
    refine lv_if_eq (tgt := 39) hx hb dX3_beginYear_18 (by decide) (fun c_18 => ?_) (fun c_18 => ?_)
    · ---- to 39
      have c_18 := bi_0 c_18
      rw [hQ]
      rw [show bgY tn tf fp fz y = tf from by unfold bgY; first | (rw [if_neg (show ¬ y < 3 by omega)]; done) | (rw [if_pos (show y < 3 by omega), if_neg c_18]; done) | (rw [if_pos (show y < 3 by omega), if_pos c_18]; done)]
      exact ra_vretW () hx hb hr hlocks hK hP hD hS trivial dX3_beginYear_39
    · ---- on
      have c_18 := bi_1 c_18
      refine lv_aload_n hx hb dX3_beginYear_21 rfl (lv_at hl 0 rfl) ?_
      refine va_get (D := (dC, dI)) (ci := 3) (v := .ref t0) (C := RX3) (T := TX3) (N := 8) hx hb hts hin_X3 hown hK hP 0 rfl rfl 1 (by decide) hw_1 (fun _ h9 => h9) rfl dX3_beginYear_22 ?_
      refine va_get (D := (dC, dI)) (ci := 0) (v := .ref t3) (C := RX0) (T := TX0) (N := 8) hx hb hts hin_X0 hown hK hP 1 rfl rfl 3 (by decide) hw_4 (fun _ h9 => h9) rfl dX3_beginYear_25 ?_
      refine lv_aload_n hx hb dX3_beginYear_28 rfl (lv_at hl 0 rfl) ?_
      refine va_get (D := (dC, dI)) (ci := 3) (v := .ref g0) (C := RX3) (T := TX3) (N := 8) hx hb hts hin_X3 hown hK hP 0 rfl rfl 7 (by decide) hw_3 (fun _ h9 => h9) rfl dX3_beginYear_29 ?_
      refine lv_iload_n hx hb dX3_beginYear_32 rfl (lv_at hl 1 rfl) ?_
      refine ra_iald hx hb hK hP 6 rfl y rfl (by omega) (Nat.le_of_ble_eq_true rfl) dX3_beginYear_33 ?_
      refine lv_aload_n hx hb dX3_beginYear_34 rfl (lv_at hl 0 rfl) ?_
      refine va_get (D := (dC, dI)) (ci := 3) (v := .int fz) (C := RX3) (T := TX3) (N := 8) hx hb hts hin_X3 hown hK hP 0 rfl rfl 6 (by decide) hw_6 (fun _ h9 => h9) rfl dX3_beginYear_35 ?_
      refine ra_iast hx hb hK hP hD hS 4 rfl ((fp y).toNatClampNeg) (i32_cl (Int32.not_lt.mpr c_18.1)) (Nat.lt_of_lt_of_le (i32_cb (Int32.not_lt.mpr c_18.1) (Int32.not_le.mpr c_18.2) hn) hn) (Nat.le_of_ble_eq_true rfl) dX3_beginYear_38 (fun H locs hP hD hS => ?_)
      have hP : va_P (dC, dI) vwCl [ob q0 3 [.ref a0, .ref t0, .ref z0, .int isv, .ref d0, .ref e0, .int fz, .ref g0], ob t0 0 [.int (nI tn), .ref t1, .ref t2, .ref t3, .ref t4, .int ts, .int tb, .int td], ai t1 cyI 7 th, ai t2 cyI 7 tg, ai t3 cyI 7 (upd tf ((fp y).toNatClampNeg) fz), ai t4 cyI 7 tk, ai g0 cyI 3 fp] H := hP
      have hD : va_D A [ob q0 3 [.ref a0, .ref t0, .ref z0, .int isv, .ref d0, .ref e0, .int fz, .ref g0], ob t0 0 [.int (nI tn), .ref t1, .ref t2, .ref t3, .ref t4, .int ts, .int tb, .int td], ai t1 cyI 7 th, ai t2 cyI 7 tg, ai t3 cyI 7 (upd tf ((fp y).toNatClampNeg) fz), ai t4 cyI 7 tk, ai g0 cyI 3 fp] := hD
      rw [hQ]
      rw [show bgY tn tf fp fz y = (upd tf ((fp y).toNatClampNeg) fz) from by unfold bgY; first | (rw [if_neg (show ¬ y < 3 by omega)]; done) | (rw [if_pos (show y < 3 by omega), if_neg c_18]; done) | (rw [if_pos (show y < 3 by omega), if_pos c_18]; done)]
      exact ra_vretW () hx hb hr hlocks hK hP hD hS trivial dX3_beginYear_39

set_option maxHeartbeats 4000000 in
set_option maxRecDepth 100000 in
theorem c_X3_play (l : Launch) (dC : Nat → ClassId) (dI : Nat → Nat → Nat) (cyI cyA : ClassId) (q0 z0 e0 g0 : Nat) (isv fz : Int32) (a0 a1 a2 a3 a4 n : Nat) (fh fg ff fk : FN) (vs vb vd : Int32) (t0 t1 t2 t3 t4 tn : Nat) (th tg tf tk : FN) (ts tb td : Int32) (d0 d1 d2 d3 : Nat) (ct : Nat → Nat) (fK fV : Nat → Option Nat) (w kr vr : Nat) (kw vw fp : FN) (hn : n ≤ 7) (hw : w < 3) (hc : ct w ≤ 12) (hfk : fK w = some kr) (hfv : fV w = some vr) (sz : Nat) : Met l yX3_play wsX3_play (rm 3) (kW dC dI cyI cyA [.ref q0, .int (nI w)] sz [ob q0 3 [.ref a0, .ref t0, .ref z0, .int isv, .ref d0, .ref e0, .int fz, .ref g0], ob a0 0 [.int (nI n), .ref a1, .ref a2, .ref a3, .ref a4, .int vs, .int vb, .int vd], ai a1 cyI 7 fh, ai a2 cyI 7 fg, ai a3 cyI 7 ff, ai a4 cyI 7 fk, ob t0 0 [.int (nI tn), .ref t1, .ref t2, .ref t3, .ref t4, .int ts, .int tb, .int td], ai t1 cyI 7 th, ai t2 cyI 7 tg, ai t3 cyI 7 tf, ai t4 cyI 7 tk, ob d0 2 [.ref d1, .ref d2, .ref d3], ai d1 cyI 3 (nF ct), aa d2 cyA 3 fK, aa d3 cyA 3 fV, ai kr cyI 12 kw, ai vr cyI 12 vw, ai g0 cyI 3 fp]) (qV dC dI cyI cyA (fun (_ : Unit) => True) (va_A [ob q0 3 [.ref a0, .ref t0, .ref z0, .int isv, .ref d0, .ref e0, .int fz, .ref g0], ob a0 0 [.int (nI n), .ref a1, .ref a2, .ref a3, .ref a4, .int vs, .int vb, .int vd], ai a1 cyI 7 fh, ai a2 cyI 7 fg, ai a3 cyI 7 ff, ai a4 cyI 7 fk, ob t0 0 [.int (nI tn), .ref t1, .ref t2, .ref t3, .ref t4, .int ts, .int tb, .int td], ai t1 cyI 7 th, ai t2 cyI 7 tg, ai t3 cyI 7 tf, ai t4 cyI 7 tk, ob d0 2 [.ref d1, .ref d2, .ref d3], ai d1 cyI 3 (nF ct), aa d2 cyA 3 fK, aa d3 cyA 3 fV, ai kr cyI 12 kw, ai vr cyI 12 vw, ai g0 cyI 3 fp] sz) (fun _ => [ob q0 3 [.ref a0, .ref t0, .ref z0, .int isv, .ref d0, .ref e0, .int fz, .ref g0], ob a0 0 [.int (nI n), .ref a1, .ref a2, .ref a3, .ref a4, .int vs, .int vb, .int vd], ai a1 cyI 7 fh, ai a2 cyI 7 fg, ai a3 cyI 7 ff, ai a4 cyI 7 fk, ob t0 0 [.int (nI n), .ref t1, .ref t2, .ref t3, .ref t4, .int ((pl phc psc nuc n fp fz kw vw (ct w) 0 0 fh fg (bgY n ff fp fz 0) fk vs vb 0).2.2.2.2.1), .int ((pl phc psc nuc n fp fz kw vw (ct w) 0 0 fh fg (bgY n ff fp fz 0) fk vs vb 0).2.2.2.2.2.1), .int ((pl phc psc nuc n fp fz kw vw (ct w) 0 0 fh fg (bgY n ff fp fz 0) fk vs vb 0).2.2.2.2.2.2)], ai t1 cyI 7 ((pl phc psc nuc n fp fz kw vw (ct w) 0 0 fh fg (bgY n ff fp fz 0) fk vs vb 0).1), ai t2 cyI 7 ((pl phc psc nuc n fp fz kw vw (ct w) 0 0 fh fg (bgY n ff fp fz 0) fk vs vb 0).2.1), ai t3 cyI 7 ((pl phc psc nuc n fp fz kw vw (ct w) 0 0 fh fg (bgY n ff fp fz 0) fk vs vb 0).2.2.1), ai t4 cyI 7 ((pl phc psc nuc n fp fz kw vw (ct w) 0 0 fh fg (bgY n ff fp fz 0) fk vs vb 0).2.2.2.1), ob d0 2 [.ref d1, .ref d2, .ref d3], ai d1 cyI 3 (nF ct), aa d2 cyA 3 fK, aa d3 cyA 3 fV, ai kr cyI 12 kw, ai vr cyI 12 vw, ai g0 cyI 3 fp])) 0 0 (va_A [ob q0 3 [.ref a0, .ref t0, .ref z0, .int isv, .ref d0, .ref e0, .int fz, .ref g0], ob a0 0 [.int (nI n), .ref a1, .ref a2, .ref a3, .ref a4, .int vs, .int vb, .int vd], ai a1 cyI 7 fh, ai a2 cyI 7 fg, ai a3 cyI 7 ff, ai a4 cyI 7 fk, ob t0 0 [.int (nI tn), .ref t1, .ref t2, .ref t3, .ref t4, .int ts, .int tb, .int td], ai t1 cyI 7 th, ai t2 cyI 7 tg, ai t3 cyI 7 tf, ai t4 cyI 7 tk, ob d0 2 [.ref d1, .ref d2, .ref d3], ai d1 cyI 3 (nF ct), aa d2 cyA 3 fK, aa d3 cyA 3 fV, ai kr cyI 12 kw, ai vr cyI 12 vw, ai g0 cyI 3 fp] sz) := by
  refine ra_metW (cc := cX3_play) (maxL := 5) (Qc := fun A => qV dC dI cyI cyA (fun (_ : Unit) => True) A (fun _ => [ob q0 3 [.ref a0, .ref t0, .ref z0, .int isv, .ref d0, .ref e0, .int fz, .ref g0], ob a0 0 [.int (nI n), .ref a1, .ref a2, .ref a3, .ref a4, .int vs, .int vb, .int vd], ai a1 cyI 7 fh, ai a2 cyI 7 fg, ai a3 cyI 7 ff, ai a4 cyI 7 fk, ob t0 0 [.int (nI n), .ref t1, .ref t2, .ref t3, .ref t4, .int ((pl phc psc nuc n fp fz kw vw (ct w) 0 0 fh fg (bgY n ff fp fz 0) fk vs vb 0).2.2.2.2.1), .int ((pl phc psc nuc n fp fz kw vw (ct w) 0 0 fh fg (bgY n ff fp fz 0) fk vs vb 0).2.2.2.2.2.1), .int ((pl phc psc nuc n fp fz kw vw (ct w) 0 0 fh fg (bgY n ff fp fz 0) fk vs vb 0).2.2.2.2.2.2)], ai t1 cyI 7 ((pl phc psc nuc n fp fz kw vw (ct w) 0 0 fh fg (bgY n ff fp fz 0) fk vs vb 0).1), ai t2 cyI 7 ((pl phc psc nuc n fp fz kw vw (ct w) 0 0 fh fg (bgY n ff fp fz 0) fk vs vb 0).2.1), ai t3 cyI 7 ((pl phc psc nuc n fp fz kw vw (ct w) 0 0 fh fg (bgY n ff fp fz 0) fk vs vb 0).2.2.1), ai t4 cyI 7 ((pl phc psc nuc n fp fz kw vw (ct w) 0 0 fh fg (bgY n ff fp fz 0) fk vs vb 0).2.2.2.1), ob d0 2 [.ref d1, .ref d2, .ref d3], ai d1 cyI 3 (nF ct), aa d2 cyA 3 fK, aa d3 cyA 3 fV, ai kr cyI 12 kw, ai vr cyI 12 vw, ai g0 cyI 3 fp])) (by decide) rfl (Nat.le_of_ble_eq_true rfl) ?_
  intro p e s m below meth c A args Q hQ hx hb hr hlocks hml hts hown hnm hK hN hP hD hA hS ls hl
  have hl : lv_has ls 5 [(0, .ref q0), (1, .int (nI w))] := hl
  have hown : s.vm.findClass RX3 = some m.cls := hown
  have hw_1 := hts (.fieldLink RX3 16 "DuneBench" "trial" "LDuneBench$Coast;") (by decide +kernel)
  have hin_X3 : ∀ w ∈ u_ws RX3 TX3 8, w ∈ wsX3_play := by decide +kernel
  have hw_3 := hts (.fieldLink RX3 10 "DuneBench" "shore" "LDuneBench$Coast;") (by decide +kernel)
  have hw_4 := hts (.fieldLink RX3 105 "DuneBench$Coast" "flooded" "I") (by decide +kernel)
  have hin_X0 : ∀ w ∈ u_ws RX0 TX0 8, w ∈ wsX3_play := by decide +kernel
  have hw_6 := hts (.fieldLink RX3 29 "DuneBench" "weathers" "LDuneBench$Weathers;") (by decide +kernel)
  have hw_7 := hts (.fieldLink RX3 91 "DuneBench$Weathers" "count" "[I") (by decide +kernel)
  have hin_X2 : ∀ w ∈ u_ws RX2 TX2 3, w ∈ wsX3_play := by decide +kernel
  have hw_9 := hts (.fieldLink RX3 185 "DuneBench$Weathers" "value" "[[I") (by decide +kernel)
  have hw_10 := hts (.fieldLink RX3 189 "DuneBench$Weathers" "kind" "[[I") (by decide +kernel)
  obtain ⟨H, hHe⟩ : ∃ H, H = s.heap := ⟨_, rfl⟩
  obtain ⟨locs, hLe⟩ : ∃ locs : List Loc, locs = [] := ⟨_, rfl⟩
  have hP : va_P (dC, dI) vwCl [ob q0 3 [.ref a0, .ref t0, .ref z0, .int isv, .ref d0, .ref e0, .int fz, .ref g0], ob a0 0 [.int (nI n), .ref a1, .ref a2, .ref a3, .ref a4, .int vs, .int vb, .int vd], ai a1 cyI 7 fh, ai a2 cyI 7 fg, ai a3 cyI 7 ff, ai a4 cyI 7 fk, ob t0 0 [.int (nI tn), .ref t1, .ref t2, .ref t3, .ref t4, .int ts, .int tb, .int td], ai t1 cyI 7 th, ai t2 cyI 7 tg, ai t3 cyI 7 tf, ai t4 cyI 7 tk, ob d0 2 [.ref d1, .ref d2, .ref d3], ai d1 cyI 3 (nF ct), aa d2 cyA 3 fK, aa d3 cyA 3 fV, ai kr cyI 12 kw, ai vr cyI 12 vw, ai g0 cyI 3 fp] H := by rw [hHe]; exact hP
  have hS : va_S A s.heap H locs := by rw [hHe, hLe]; exact hS
  suffices hgo : W p l e (rm 3) s m args below meth c H locs 0 0 Q (F0 m 0 ls []) by rw [hHe, hLe] at hgo; exact hgo
  refine lv_aload_n hx hb dX3_play_0 rfl (lv_at hl 0 rfl) ?_
  refine va_get (D := (dC, dI)) (ci := 3) (v := .ref t0) (C := RX3) (T := TX3) (N := 8) hx hb hts hin_X3 hown hK hP 0 rfl rfl 1 (by decide) hw_1 (fun _ h9 => h9) rfl dX3_play_1 ?_
  refine lv_aload_n hx hb dX3_play_4 rfl (lv_at hl 0 rfl) ?_
  refine va_get (D := (dC, dI)) (ci := 3) (v := .ref a0) (C := RX3) (T := TX3) (N := 8) hx hb hts hin_X3 hown hK hP 0 rfl rfl 0 (by decide) hw_3 (fun _ h9 => h9) rfl dX3_play_5 ?_
  refine ra_cV (q := (RX0, TX0, 8)) (ci := 0) (As := [.ref a0]) (rest := []) (wc := [ob t0 0 [.int (nI tn), .ref t1, .ref t2, .ref t3, .ref t4, .int ts, .int tb, .int td], ai t1 cyI 7 th, ai t2 cyI 7 tg, ai t3 cyI 7 tf, ai t4 cyI 7 tk, ob a0 0 [.int (nI n), .ref a1, .ref a2, .ref a3, .ref a4, .int vs, .int vb, .int vd], ai a1 cyI 7 fh, ai a2 cyI 7 fg, ai a3 cyI 7 ff, ai a4 cyI 7 fk]) (wr := [ob q0 3 [.ref a0, .ref t0, .ref z0, .int isv, .ref d0, .ref e0, .int fz, .ref g0], ob d0 2 [.ref d1, .ref d2, .ref d3], ai d1 cyI 3 (nF ct), aa d2 cyA 3 fK, aa d3 cyA 3 fV, ai kr cyI 12 kw, ai vr cyI 12 vw, ai g0 cyI 3 fp]) ⟨hx, hb, hml, hown, hts⟩ (c_X0_copyFrom l dC dI cyI cyA t0 t1 t2 t3 t4 tn th tg tf tk ts tb td a0 a1 a2 a3 a4 n fh fg ff fk vs vb vd  H.size) (cwV 1 hts gX3_play_X0_copyFrom rfl rfl rfl (by decide +kernel) ⟨Nat.le_of_ble_eq_true rfl, Nat.le_of_ble_eq_true rfl⟩) hK hN hP hD hA hS [6, 7, 8, 9, 10, 1, 2, 3, 4, 5] [0, 11, 12, 13, 14, 15, 16, 17] rfl rfl (by decide) (by decide) (by decide) rfl rfl rfl hl.1 rfl (Nat.le_of_ble_eq_true rfl) dX3_play_8 ⟨Nat.le_of_ble_eq_true rfl, Nat.le_of_ble_eq_true rfl⟩ (fun u_1 hw_c1 H locs hP hD hS => ?_)
  have hP : va_P (dC, dI) vwCl [ob q0 3 [.ref a0, .ref t0, .ref z0, .int isv, .ref d0, .ref e0, .int fz, .ref g0], ob d0 2 [.ref d1, .ref d2, .ref d3], ai d1 cyI 3 (nF ct), aa d2 cyA 3 fK, aa d3 cyA 3 fV, ai kr cyI 12 kw, ai vr cyI 12 vw, ai g0 cyI 3 fp, ob t0 0 [.int (nI n), .ref t1, .ref t2, .ref t3, .ref t4, .int vs, .int vb, .int vd], ai t1 cyI 7 fh, ai t2 cyI 7 fg, ai t3 cyI 7 ff, ai t4 cyI 7 fk, ob a0 0 [.int (nI n), .ref a1, .ref a2, .ref a3, .ref a4, .int vs, .int vb, .int vd], ai a1 cyI 7 fh, ai a2 cyI 7 fg, ai a3 cyI 7 ff, ai a4 cyI 7 fk] H := hP
  have hD : va_D A [ob q0 3 [.ref a0, .ref t0, .ref z0, .int isv, .ref d0, .ref e0, .int fz, .ref g0], ob d0 2 [.ref d1, .ref d2, .ref d3], ai d1 cyI 3 (nF ct), aa d2 cyA 3 fK, aa d3 cyA 3 fV, ai kr cyI 12 kw, ai vr cyI 12 vw, ai g0 cyI 3 fp, ob t0 0 [.int (nI n), .ref t1, .ref t2, .ref t3, .ref t4, .int vs, .int vb, .int vd], ai t1 cyI 7 fh, ai t2 cyI 7 fg, ai t3 cyI 7 ff, ai t4 cyI 7 fk, ob a0 0 [.int (nI n), .ref a1, .ref a2, .ref a3, .ref a4, .int vs, .int vb, .int vd], ai a1 cyI 7 fh, ai a2 cyI 7 fg, ai a3 cyI 7 ff, ai a4 cyI 7 fk] := hD
  refine lv_aload_n hx hb dX3_play_11 rfl (lv_at hl 0 rfl) ?_
  refine va_get (D := (dC, dI)) (ci := 3) (v := .ref t0) (C := RX3) (T := TX3) (N := 8) hx hb hts hin_X3 hown hK hP 0 rfl rfl 1 (by decide) hw_1 (fun _ h9 => h9) rfl dX3_play_12 ?_
  refine lv_iconst (v := 0) hx hb dX3_play_15 (by decide) ?_
  refine va_put (D := (dC, dI)) (ci := 0) (v := .int 0) (ty := .int) (C := RX0) (T := TX0) (N := 8) hx hb hts hin_X0 tyX0 tyX0_ok nmX0 hown hK hP hD hS 8 rfl rfl 7 (by decide) hw_4 (fun _ h9 => h9) rfl (by decide +kernel) rfl rfl (Nat.le_of_ble_eq_true rfl) dX3_play_16 (fun H locs hP hD hS => ?_)
  have hP : va_P (dC, dI) vwCl [ob q0 3 [.ref a0, .ref t0, .ref z0, .int isv, .ref d0, .ref e0, .int fz, .ref g0], ob d0 2 [.ref d1, .ref d2, .ref d3], ai d1 cyI 3 (nF ct), aa d2 cyA 3 fK, aa d3 cyA 3 fV, ai kr cyI 12 kw, ai vr cyI 12 vw, ai g0 cyI 3 fp, ob t0 0 [.int (nI n), .ref t1, .ref t2, .ref t3, .ref t4, .int vs, .int vb, .int 0], ai t1 cyI 7 fh, ai t2 cyI 7 fg, ai t3 cyI 7 ff, ai t4 cyI 7 fk, ob a0 0 [.int (nI n), .ref a1, .ref a2, .ref a3, .ref a4, .int vs, .int vb, .int vd], ai a1 cyI 7 fh, ai a2 cyI 7 fg, ai a3 cyI 7 ff, ai a4 cyI 7 fk] H := hP
  have hD : va_D A [ob q0 3 [.ref a0, .ref t0, .ref z0, .int isv, .ref d0, .ref e0, .int fz, .ref g0], ob d0 2 [.ref d1, .ref d2, .ref d3], ai d1 cyI 3 (nF ct), aa d2 cyA 3 fK, aa d3 cyA 3 fV, ai kr cyI 12 kw, ai vr cyI 12 vw, ai g0 cyI 3 fp, ob t0 0 [.int (nI n), .ref t1, .ref t2, .ref t3, .ref t4, .int vs, .int vb, .int 0], ai t1 cyI 7 fh, ai t2 cyI 7 fg, ai t3 cyI 7 ff, ai t4 cyI 7 fk, ob a0 0 [.int (nI n), .ref a1, .ref a2, .ref a3, .ref a4, .int vs, .int vb, .int vd], ai a1 cyI 7 fh, ai a2 cyI 7 fg, ai a3 cyI 7 ff, ai a4 cyI 7 fk] := hD
  refine lv_iconst (v := 0) hx hb dX3_play_19 (by decide) ?_
  refine lv_istore_n (lv' := [(2, .int 0), (0, .ref q0), (1, .int (nI w))]) hx hb dX3_play_20 rfl hl (by decide) rfl (fun ls hl => ?_)
  refine lv_aload_n hx hb dX3_play_21 rfl (lv_at hl 1 rfl) ?_
  refine lv_iload_n hx hb dX3_play_22 rfl (lv_at hl 0 rfl) ?_
  refine ra_cV (q := (RX3, TX3, 8)) (ci := 3) (As := [.int 0]) (rest := []) (wc := [ob q0 3 [.ref a0, .ref t0, .ref z0, .int isv, .ref d0, .ref e0, .int fz, .ref g0], ob t0 0 [.int (nI n), .ref t1, .ref t2, .ref t3, .ref t4, .int vs, .int vb, .int 0], ai t1 cyI 7 fh, ai t2 cyI 7 fg, ai t3 cyI 7 ff, ai t4 cyI 7 fk, ai g0 cyI 3 fp]) (wr := [ob d0 2 [.ref d1, .ref d2, .ref d3], ai d1 cyI 3 (nF ct), aa d2 cyA 3 fK, aa d3 cyA 3 fV, ai kr cyI 12 kw, ai vr cyI 12 vw, ob a0 0 [.int (nI n), .ref a1, .ref a2, .ref a3, .ref a4, .int vs, .int vb, .int vd], ai a1 cyI 7 fh, ai a2 cyI 7 fg, ai a3 cyI 7 ff, ai a4 cyI 7 fk]) ⟨hx, hb, hml, hown, hts⟩ (c_X3_beginYear l dC dI cyI cyA q0 z0 e0 g0 isv fz a0 d0 t0 t1 t2 t3 t4 n fh fg ff fk vs vb 0 fp 0 (by omega) (by omega) H.size) (cwV 1 hts gX3_play_X3_beginYear rfl rfl rfl (by decide +kernel) ⟨Nat.le_of_ble_eq_true rfl, Nat.le_of_ble_eq_true rfl⟩) hK hN hP hD hA hS [0, 8, 9, 10, 11, 12, 7] [1, 2, 3, 4, 5, 6, 13, 14, 15, 16, 17] rfl rfl (by decide) (by decide) (by decide) rfl rfl rfl hl.1 rfl (Nat.le_of_ble_eq_true rfl) dX3_play_23 ⟨Nat.le_of_ble_eq_true rfl, Nat.le_of_ble_eq_true rfl⟩ (fun u_2 hw_c2 H locs hP hD hS => ?_)
  have hP : va_P (dC, dI) vwCl [ob d0 2 [.ref d1, .ref d2, .ref d3], ai d1 cyI 3 (nF ct), aa d2 cyA 3 fK, aa d3 cyA 3 fV, ai kr cyI 12 kw, ai vr cyI 12 vw, ob a0 0 [.int (nI n), .ref a1, .ref a2, .ref a3, .ref a4, .int vs, .int vb, .int vd], ai a1 cyI 7 fh, ai a2 cyI 7 fg, ai a3 cyI 7 ff, ai a4 cyI 7 fk, ob q0 3 [.ref a0, .ref t0, .ref z0, .int isv, .ref d0, .ref e0, .int fz, .ref g0], ob t0 0 [.int (nI n), .ref t1, .ref t2, .ref t3, .ref t4, .int vs, .int vb, .int 0], ai t1 cyI 7 fh, ai t2 cyI 7 fg, ai t3 cyI 7 (bgY n ff fp fz 0), ai t4 cyI 7 fk, ai g0 cyI 3 fp] H := hP
  have hD : va_D A [ob d0 2 [.ref d1, .ref d2, .ref d3], ai d1 cyI 3 (nF ct), aa d2 cyA 3 fK, aa d3 cyA 3 fV, ai kr cyI 12 kw, ai vr cyI 12 vw, ob a0 0 [.int (nI n), .ref a1, .ref a2, .ref a3, .ref a4, .int vs, .int vb, .int vd], ai a1 cyI 7 fh, ai a2 cyI 7 fg, ai a3 cyI 7 ff, ai a4 cyI 7 fk, ob q0 3 [.ref a0, .ref t0, .ref z0, .int isv, .ref d0, .ref e0, .int fz, .ref g0], ob t0 0 [.int (nI n), .ref t1, .ref t2, .ref t3, .ref t4, .int vs, .int vb, .int 0], ai t1 cyI 7 fh, ai t2 cyI 7 fg, ai t3 cyI 7 (bgY n ff fp fz 0), ai t4 cyI 7 fk, ai g0 cyI 3 fp] := hD
  refine lv_iconst (v := 0) hx hb dX3_play_26 (by decide) ?_
  refine lv_istore_n (lv' := [(3, .int 0), (2, .int 0), (0, .ref q0), (1, .int (nI w))]) hx hb dX3_play_27 rfl hl (by decide) rfl (fun ls hl => ?_)
  have L_28 : ∀ (n9 : Nat) (i : Nat) (y : Nat) (xh : FN) (xg : FN) (xf : FN) (xk : FN) (xs : Int32) (xb : Int32) (xd : Int32), (i ≤ ct w) → (y ≤ i) → (pl phc psc nuc n fp fz kw vw (ct w - i) i y xh xg xf xk xs xb xd = pl phc psc nuc n fp fz kw vw (ct w) 0 0 fh fg (bgY n ff fp fz 0) fk vs vb 0) → (ct w - i) < n9 → ∀ (H : Heap) (locs : List Loc), va_P (dC, dI) vwCl [ob q0 3 [.ref a0, .ref t0, .ref z0, .int isv, .ref d0, .ref e0, .int fz, .ref g0], ob a0 0 [.int (nI n), .ref a1, .ref a2, .ref a3, .ref a4, .int vs, .int vb, .int vd], ai a1 cyI 7 fh, ai a2 cyI 7 fg, ai a3 cyI 7 ff, ai a4 cyI 7 fk, ob t0 0 [.int (nI n), .ref t1, .ref t2, .ref t3, .ref t4, .int xs, .int xb, .int xd], ai t1 cyI 7 xh, ai t2 cyI 7 xg, ai t3 cyI 7 xf, ai t4 cyI 7 xk, ob d0 2 [.ref d1, .ref d2, .ref d3], ai d1 cyI 3 (nF ct), aa d2 cyA 3 fK, aa d3 cyA 3 fV, ai kr cyI 12 kw, ai vr cyI 12 vw, ai g0 cyI 3 fp] H → va_D A [ob q0 3 [.ref a0, .ref t0, .ref z0, .int isv, .ref d0, .ref e0, .int fz, .ref g0], ob a0 0 [.int (nI n), .ref a1, .ref a2, .ref a3, .ref a4, .int vs, .int vb, .int vd], ai a1 cyI 7 fh, ai a2 cyI 7 fg, ai a3 cyI 7 ff, ai a4 cyI 7 fk, ob t0 0 [.int (nI n), .ref t1, .ref t2, .ref t3, .ref t4, .int xs, .int xb, .int xd], ai t1 cyI 7 xh, ai t2 cyI 7 xg, ai t3 cyI 7 xf, ai t4 cyI 7 xk, ob d0 2 [.ref d1, .ref d2, .ref d3], ai d1 cyI 3 (nF ct), aa d2 cyA 3 fK, aa d3 cyA 3 fV, ai kr cyI 12 kw, ai vr cyI 12 vw, ai g0 cyI 3 fp] → va_S A s.heap H locs → ∀ ls : Array Slot, lv_has ls 5 [(0, .ref q0), (1, .int (nI w)), (2, .int (nI y)), (3, .int (nI i))] → W p l e (rm 3) s m args below meth c H locs 0 0 Q (F0 m 28 ls []) := by
    intro n9
    induction n9 with
    | zero =>
      intro i y xh xg xf xk xs xb xd hi hy he hm9
      exact absurd hm9 (Nat.not_lt_zero _)
    | succ n9 ih_28 =>
      intro i y xh xg xf xk xs xb xd hi hy he hm9 H locs hP hD hS ls hl
      refine lv_iload_n hx hb dX3_play_28 rfl (lv_at hl 3 rfl) ?_
      refine lv_aload_n hx hb dX3_play_29 rfl (lv_at hl 0 rfl) ?_
      refine va_get (D := (dC, dI)) (ci := 3) (v := .ref d0) (C := RX3) (T := TX3) (N := 8) hx hb hts hin_X3 hown hK hP 0 rfl rfl 4 (by decide) hw_6 (fun _ h9 => h9) rfl dX3_play_30 ?_
      refine va_get (D := (dC, dI)) (ci := 2) (v := .ref d1) (C := RX2) (T := TX2) (N := 3) hx hb hts hin_X2 hown hK hP 11 rfl rfl 0 (by decide) hw_7 (fun _ h9 => h9) rfl dX3_play_33 ?_
      refine lv_iload_n hx hb dX3_play_36 rfl (lv_at hl 1 rfl) ?_
      refine ra_iald hx hb hK hP 12 rfl w rfl (by omega) (Nat.le_of_ble_eq_true rfl) dX3_play_37 ?_
      refine ra_top (nI (ct w)) rfl ?_
      refine lv_icmp_ge (tgt := 140) hx hb dX3_play_38 (by decide) (fun c_38 => ?_) (fun c_38 => ?_)
      · ---- to 140
        have n_38 := (nq_le (ct w) i (by omega) (by omega)).mp c_38
        have he : (xh, xg, xf, xk, xs, xb, xd) = pl phc psc nuc n fp fz kw vw (ct w) 0 0 fh fg (bgY n ff fp fz 0) fk vs vb 0 := by rw [← he, show ct w - i = 0 by omega]; rfl
        rw [hQ]
        rw [← he]
        exact ra_vretW () hx hb hr hlocks hK hP hD hS trivial dX3_play_140
      · ---- on
        have n_38 := (nq_le_n (ct w) i (by omega) (by omega)).mp c_38
        refine lv_aload_n hx hb dX3_play_41 rfl (lv_at hl 0 rfl) ?_
        refine va_get (D := (dC, dI)) (ci := 3) (v := .ref d0) (C := RX3) (T := TX3) (N := 8) hx hb hts hin_X3 hown hK hP 0 rfl rfl 4 (by decide) hw_6 (fun _ h9 => h9) rfl dX3_play_42 ?_
        refine va_get (D := (dC, dI)) (ci := 2) (v := .ref d3) (C := RX2) (T := TX2) (N := 3) hx hb hts hin_X2 hown hK hP 11 rfl rfl 2 (by decide) hw_9 (fun _ h9 => h9) rfl dX3_play_45 ?_
        refine lv_iload_n hx hb dX3_play_48 rfl (lv_at hl 1 rfl) ?_
        refine ra_aald (b := vr) hx hb hK hP 14 rfl w rfl (by omega) (Nat.le_of_ble_eq_true rfl) hfv dX3_play_49 ?_
        refine lv_iload_n hx hb dX3_play_50 rfl (lv_at hl 3 rfl) ?_
        refine ra_iald hx hb hK hP 16 rfl i rfl (by omega) (Nat.le_of_ble_eq_true rfl) dX3_play_51 ?_
        refine lv_istore (lv' := [(4, .int (vw i)), (0, .ref q0), (1, .int (nI w)), (2, .int (nI y)), (3, .int (nI i))]) hx hb dX3_play_52 hl (by decide) rfl (fun ls hl => ?_)
        refine lv_aload_n hx hb dX3_play_54 rfl (lv_at hl 1 rfl) ?_
        refine va_get (D := (dC, dI)) (ci := 3) (v := .ref d0) (C := RX3) (T := TX3) (N := 8) hx hb hts hin_X3 hown hK hP 0 rfl rfl 4 (by decide) hw_6 (fun _ h9 => h9) rfl dX3_play_55 ?_
        refine va_get (D := (dC, dI)) (ci := 2) (v := .ref d2) (C := RX2) (T := TX2) (N := 3) hx hb hts hin_X2 hown hK hP 11 rfl rfl 1 (by decide) hw_10 (fun _ h9 => h9) rfl dX3_play_58 ?_
        refine lv_iload_n hx hb dX3_play_61 rfl (lv_at hl 2 rfl) ?_
        refine ra_aald (b := kr) hx hb hK hP 13 rfl w rfl (by omega) (Nat.le_of_ble_eq_true rfl) hfk dX3_play_62 ?_
        refine lv_iload_n hx hb dX3_play_63 rfl (lv_at hl 4 rfl) ?_
        refine ra_iald hx hb hK hP 15 rfl i rfl (by omega) (Nat.le_of_ble_eq_true rfl) dX3_play_64 ?_
        by_cases h0 : kw i = 0
        ·
          refine ra_top 0 h0 ?_
          refine lv_lookup (off := 27) (tgt := 92) hx hb dX3_play_65 (by decide) (by decide) (by decide) ?_
          refine lv_aload_n hx hb dX3_play_92 rfl (lv_at hl 1 rfl) ?_
          refine va_get (D := (dC, dI)) (ci := 3) (v := .ref t0) (C := RX3) (T := TX3) (N := 8) hx hb hts hin_X3 hown hK hP 0 rfl rfl 1 (by decide) hw_1 (fun _ h9 => h9) rfl dX3_play_93 ?_
          refine lv_iload hx hb dX3_play_96 (lv_at hl 0 rfl) ?_
          refine ra_cI (q := (RX0, TX0, 8)) (ci := 0) (As := [.int (vw i)]) (rest := []) (wc := [ob t0 0 [.int (nI n), .ref t1, .ref t2, .ref t3, .ref t4, .int xs, .int xb, .int xd], ai t1 cyI 7 xh, ai t2 cyI 7 xg, ai t3 cyI 7 xf, ai t4 cyI 7 xk]) (wr := [ob q0 3 [.ref a0, .ref t0, .ref z0, .int isv, .ref d0, .ref e0, .int fz, .ref g0], ob a0 0 [.int (nI n), .ref a1, .ref a2, .ref a3, .ref a4, .int vs, .int vb, .int vd], ai a1 cyI 7 fh, ai a2 cyI 7 fg, ai a3 cyI 7 ff, ai a4 cyI 7 fk, ob d0 2 [.ref d1, .ref d2, .ref d3], ai d1 cyI 3 (nF ct), aa d2 cyA 3 fK, aa d3 cyA 3 fV, ai kr cyI 12 kw, ai vr cyI 12 vw, ai g0 cyI 3 fp]) ⟨hx, hb, hml, hown, hts⟩ (c_X0_blow l dC dI cyI cyA t0 t1 t2 t3 t4 n xh xg xf xk xs xb xd (vw i) (by omega) H.size) (cwV 1 hts gX3_play_X0_blow rfl rfl rfl (by decide +kernel) ⟨Nat.le_of_ble_eq_true rfl, Nat.le_of_ble_eq_true rfl⟩) hK hN hP hD hA hS [6, 7, 8, 9, 10] [0, 1, 2, 3, 4, 5, 11, 12, 13, 14, 15, 16, 17] rfl rfl (by decide) (by decide) (by decide) rfl rfl rfl hl.1 rfl (Nat.le_of_ble_eq_true rfl) dX3_play_98 ⟨Nat.le_of_ble_eq_true rfl, Nat.le_of_ble_eq_true rfl⟩ (fun r_3 u_3 hw_c3 H locs hP hD hS => ?_)
          subst hw_c3
          have hP : va_P (dC, dI) vwCl [ob q0 3 [.ref a0, .ref t0, .ref z0, .int isv, .ref d0, .ref e0, .int fz, .ref g0], ob a0 0 [.int (nI n), .ref a1, .ref a2, .ref a3, .ref a4, .int vs, .int vb, .int vd], ai a1 cyI 7 fh, ai a2 cyI 7 fg, ai a3 cyI 7 ff, ai a4 cyI 7 fk, ob d0 2 [.ref d1, .ref d2, .ref d3], ai d1 cyI 3 (nF ct), aa d2 cyA 3 fK, aa d3 cyA 3 fV, ai kr cyI 12 kw, ai vr cyI 12 vw, ai g0 cyI 3 fp, ob t0 0 [.int (nI n), .ref t1, .ref t2, .ref t3, .ref t4, .int xs, .int (xb + (blow phc psc n xh xg xf xk (vw i)).2.2.2), .int xd], ai t1 cyI 7 ((blow phc psc n xh xg xf xk (vw i)).1), ai t2 cyI 7 xg, ai t3 cyI 7 ((blow phc psc n xh xg xf xk (vw i)).2.1), ai t4 cyI 7 ((blow phc psc n xh xg xf xk (vw i)).2.2.1)] H := hP
          have hD : va_D A [ob q0 3 [.ref a0, .ref t0, .ref z0, .int isv, .ref d0, .ref e0, .int fz, .ref g0], ob a0 0 [.int (nI n), .ref a1, .ref a2, .ref a3, .ref a4, .int vs, .int vb, .int vd], ai a1 cyI 7 fh, ai a2 cyI 7 fg, ai a3 cyI 7 ff, ai a4 cyI 7 fk, ob d0 2 [.ref d1, .ref d2, .ref d3], ai d1 cyI 3 (nF ct), aa d2 cyA 3 fK, aa d3 cyA 3 fV, ai kr cyI 12 kw, ai vr cyI 12 vw, ai g0 cyI 3 fp, ob t0 0 [.int (nI n), .ref t1, .ref t2, .ref t3, .ref t4, .int xs, .int (xb + (blow phc psc n xh xg xf xk (vw i)).2.2.2), .int xd], ai t1 cyI 7 ((blow phc psc n xh xg xf xk (vw i)).1), ai t2 cyI 7 xg, ai t3 cyI 7 ((blow phc psc n xh xg xf xk (vw i)).2.1), ai t4 cyI 7 ((blow phc psc n xh xg xf xk (vw i)).2.2.1)] := hD
          refine lv_pop hx hb dX3_play_101 rfl ?_
          refine lv_goto (tgt := 134) hx hb dX3_play_102 (by decide) ?_
          refine lv_iinc (v := nI (i + 1)) (lv' := [(3, .int (nI (i + 1))), (4, .int (vw i)), (0, .ref q0), (1, .int (nI w)), (2, .int (nI y))]) hx hb dX3_play_134 hl (k := 4) rfl (ra_inc1 _) (by decide) rfl (fun ls hl => ?_)
          refine lv_goto (tgt := 28) hx hb dX3_play_137 (by decide) ?_
          exact ih_28 (i + 1) y ((blow phc psc n xh xg xf xk (vw i)).1) xg ((blow phc psc n xh xg xf xk (vw i)).2.1) ((blow phc psc n xh xg xf xk (vw i)).2.2.1) xs (xb + (blow phc psc n xh xg xf xk (vw i)).2.2.2) xd (by omega) (by omega) (by rw [← he, show ct w - i = ct w - (i + 1) + 1 by omega]; show _ = ite _ _ _; first | (rw [if_pos h0]; done) | (rw [if_neg h0, if_pos h1]; done) | (rw [if_neg h0, if_neg h1]; done)) (by omega) H locs (hP.sub [0, 1, 2, 3, 4, 5, 13, 14, 15, 16, 17, 6, 7, 8, 9, 10, 11, 12] rfl) (hD.sub [0, 1, 2, 3, 4, 5, 13, 14, 15, 16, 17, 6, 7, 8, 9, 10, 11, 12] (by decide) rfl) hS ls (lv_sub hl [2, 3, 4, 0] rfl)
        ·
          by_cases h1 : kw i = 1
          ·
            refine ra_top 1 h1 ?_
            refine lv_lookup (off := 40) (tgt := 105) hx hb dX3_play_65 (by decide) (by decide) (by decide) ?_
            refine lv_aload_n hx hb dX3_play_105 rfl (lv_at hl 1 rfl) ?_
            refine va_get (D := (dC, dI)) (ci := 3) (v := .ref t0) (C := RX3) (T := TX3) (N := 8) hx hb hts hin_X3 hown hK hP 0 rfl rfl 1 (by decide) hw_1 (fun _ h9 => h9) rfl dX3_play_106 ?_
            refine lv_iload hx hb dX3_play_109 (lv_at hl 0 rfl) ?_
            refine ra_cI (q := (RX0, TX0, 8)) (ci := 0) (As := [.int (vw i)]) (rest := []) (wc := [ob t0 0 [.int (nI n), .ref t1, .ref t2, .ref t3, .ref t4, .int xs, .int xb, .int xd], ai t1 cyI 7 xh, ai t2 cyI 7 xg, ai t3 cyI 7 xf, ai t4 cyI 7 xk]) (wr := [ob q0 3 [.ref a0, .ref t0, .ref z0, .int isv, .ref d0, .ref e0, .int fz, .ref g0], ob a0 0 [.int (nI n), .ref a1, .ref a2, .ref a3, .ref a4, .int vs, .int vb, .int vd], ai a1 cyI 7 fh, ai a2 cyI 7 fg, ai a3 cyI 7 ff, ai a4 cyI 7 fk, ob d0 2 [.ref d1, .ref d2, .ref d3], ai d1 cyI 3 (nF ct), aa d2 cyA 3 fK, aa d3 cyA 3 fV, ai kr cyI 12 kw, ai vr cyI 12 vw, ai g0 cyI 3 fp]) ⟨hx, hb, hml, hown, hts⟩ (c_X0_surge l dC dI cyI cyA t0 t1 t2 t3 t4 n xh xg xf xk xs xb xd (vw i) (by omega) H.size) (cwV 1 hts gX3_play_X0_surge rfl rfl rfl (by decide +kernel) ⟨Nat.le_of_ble_eq_true rfl, Nat.le_of_ble_eq_true rfl⟩) hK hN hP hD hA hS [6, 7, 8, 9, 10] [0, 1, 2, 3, 4, 5, 11, 12, 13, 14, 15, 16, 17] rfl rfl (by decide) (by decide) (by decide) rfl rfl rfl hl.1 rfl (Nat.le_of_ble_eq_true rfl) dX3_play_111 ⟨Nat.le_of_ble_eq_true rfl, Nat.le_of_ble_eq_true rfl⟩ (fun r_4 u_4 hw_c4 H locs hP hD hS => ?_)
            subst hw_c4
            have hP : va_P (dC, dI) vwCl [ob q0 3 [.ref a0, .ref t0, .ref z0, .int isv, .ref d0, .ref e0, .int fz, .ref g0], ob a0 0 [.int (nI n), .ref a1, .ref a2, .ref a3, .ref a4, .int vs, .int vb, .int vd], ai a1 cyI 7 fh, ai a2 cyI 7 fg, ai a3 cyI 7 ff, ai a4 cyI 7 fk, ob d0 2 [.ref d1, .ref d2, .ref d3], ai d1 cyI 3 (nF ct), aa d2 cyA 3 fK, aa d3 cyA 3 fV, ai kr cyI 12 kw, ai vr cyI 12 vw, ai g0 cyI 3 fp, ob t0 0 [.int (nI n), .ref t1, .ref t2, .ref t3, .ref t4, .int ((srg (vw i) n 0 xh xg xf xs xd).2.2.2.2.1), .int xb, .int ((srg (vw i) n 0 xh xg xf xs xd).2.2.2.2.2)], ai t1 cyI 7 ((srg (vw i) n 0 xh xg xf xs xd).2.1), ai t2 cyI 7 ((srg (vw i) n 0 xh xg xf xs xd).2.2.1), ai t3 cyI 7 ((srg (vw i) n 0 xh xg xf xs xd).2.2.2.1), ai t4 cyI 7 xk] H := hP
            have hD : va_D A [ob q0 3 [.ref a0, .ref t0, .ref z0, .int isv, .ref d0, .ref e0, .int fz, .ref g0], ob a0 0 [.int (nI n), .ref a1, .ref a2, .ref a3, .ref a4, .int vs, .int vb, .int vd], ai a1 cyI 7 fh, ai a2 cyI 7 fg, ai a3 cyI 7 ff, ai a4 cyI 7 fk, ob d0 2 [.ref d1, .ref d2, .ref d3], ai d1 cyI 3 (nF ct), aa d2 cyA 3 fK, aa d3 cyA 3 fV, ai kr cyI 12 kw, ai vr cyI 12 vw, ai g0 cyI 3 fp, ob t0 0 [.int (nI n), .ref t1, .ref t2, .ref t3, .ref t4, .int ((srg (vw i) n 0 xh xg xf xs xd).2.2.2.2.1), .int xb, .int ((srg (vw i) n 0 xh xg xf xs xd).2.2.2.2.2)], ai t1 cyI 7 ((srg (vw i) n 0 xh xg xf xs xd).2.1), ai t2 cyI 7 ((srg (vw i) n 0 xh xg xf xs xd).2.2.1), ai t3 cyI 7 ((srg (vw i) n 0 xh xg xf xs xd).2.2.2.1), ai t4 cyI 7 xk] := hD
            refine lv_pop hx hb dX3_play_114 rfl ?_
            refine lv_goto (tgt := 134) hx hb dX3_play_115 (by decide) ?_
            refine lv_iinc (v := nI (i + 1)) (lv' := [(3, .int (nI (i + 1))), (4, .int (vw i)), (0, .ref q0), (1, .int (nI w)), (2, .int (nI y))]) hx hb dX3_play_134 hl (k := 4) rfl (ra_inc1 _) (by decide) rfl (fun ls hl => ?_)
            refine lv_goto (tgt := 28) hx hb dX3_play_137 (by decide) ?_
            exact ih_28 (i + 1) y ((srg (vw i) n 0 xh xg xf xs xd).2.1) ((srg (vw i) n 0 xh xg xf xs xd).2.2.1) ((srg (vw i) n 0 xh xg xf xs xd).2.2.2.1) xk ((srg (vw i) n 0 xh xg xf xs xd).2.2.2.2.1) xb ((srg (vw i) n 0 xh xg xf xs xd).2.2.2.2.2) (by omega) (by omega) (by rw [← he, show ct w - i = ct w - (i + 1) + 1 by omega]; show _ = ite _ _ _; first | (rw [if_pos h0]; done) | (rw [if_neg h0, if_pos h1]; done) | (rw [if_neg h0, if_neg h1]; done)) (by omega) H locs (hP.sub [0, 1, 2, 3, 4, 5, 13, 14, 15, 16, 17, 6, 7, 8, 9, 10, 11, 12] rfl) (hD.sub [0, 1, 2, 3, 4, 5, 13, 14, 15, 16, 17, 6, 7, 8, 9, 10, 11, 12] (by decide) rfl) hS ls (lv_sub hl [2, 3, 4, 0] rfl)
          ·
            refine lv_lookup (off := 53) (tgt := 118) hx hb dX3_play_65 (by decide) (by show Op.lookupswitch.offset [(0, 27), (1, 40)] 53 _ = 53; rw [lv_osw (k := 0) h0 (by decide), lv_osw (k := 1) h1 (by decide)]; rfl) (by decide) ?_
            refine lv_aload_n hx hb dX3_play_118 rfl (lv_at hl 1 rfl) ?_
            refine va_get (D := (dC, dI)) (ci := 3) (v := .ref t0) (C := RX3) (T := TX3) (N := 8) hx hb hts hin_X3 hown hK hP 0 rfl rfl 1 (by decide) hw_1 (fun _ h9 => h9) rfl dX3_play_119 ?_
            refine ra_cI (q := (RX0, TX0, 8)) (ci := 0) (As := []) (rest := []) (wc := [ob t0 0 [.int (nI n), .ref t1, .ref t2, .ref t3, .ref t4, .int xs, .int xb, .int xd], ai t1 cyI 7 xh, ai t2 cyI 7 xg, ai t3 cyI 7 xf, ai t4 cyI 7 xk]) (wr := [ob q0 3 [.ref a0, .ref t0, .ref z0, .int isv, .ref d0, .ref e0, .int fz, .ref g0], ob a0 0 [.int (nI n), .ref a1, .ref a2, .ref a3, .ref a4, .int vs, .int vb, .int vd], ai a1 cyI 7 fh, ai a2 cyI 7 fg, ai a3 cyI 7 ff, ai a4 cyI 7 fk, ob d0 2 [.ref d1, .ref d2, .ref d3], ai d1 cyI 3 (nF ct), aa d2 cyA 3 fK, aa d3 cyA 3 fV, ai kr cyI 12 kw, ai vr cyI 12 vw, ai g0 cyI 3 fp]) ⟨hx, hb, hml, hown, hts⟩ (c_X0_endYear l dC dI cyI cyA t0 t1 t2 t3 t4 n xh xg xf xk xs xb xd (by omega) H.size) (cwV 0 hts gX3_play_X0_endYear rfl rfl rfl (by decide +kernel) ⟨Nat.le_of_ble_eq_true rfl, Nat.le_of_ble_eq_true rfl⟩) hK hN hP hD hA hS [6, 7, 8, 9, 10] [0, 1, 2, 3, 4, 5, 11, 12, 13, 14, 15, 16, 17] rfl rfl (by decide) (by decide) (by decide) rfl rfl rfl hl.1 rfl (Nat.le_of_ble_eq_true rfl) dX3_play_122 ⟨Nat.le_of_ble_eq_true rfl, Nat.le_of_ble_eq_true rfl⟩ (fun r_5 u_5 hw_c5 H locs hP hD hS => ?_)
            subst hw_c5
            have hP : va_P (dC, dI) vwCl [ob q0 3 [.ref a0, .ref t0, .ref z0, .int isv, .ref d0, .ref e0, .int fz, .ref g0], ob a0 0 [.int (nI n), .ref a1, .ref a2, .ref a3, .ref a4, .int vs, .int vb, .int vd], ai a1 cyI 7 fh, ai a2 cyI 7 fg, ai a3 cyI 7 ff, ai a4 cyI 7 fk, ob d0 2 [.ref d1, .ref d2, .ref d3], ai d1 cyI 3 (nF ct), aa d2 cyA 3 fK, aa d3 cyA 3 fV, ai kr cyI 12 kw, ai vr cyI 12 vw, ai g0 cyI 3 fp, ob t0 0 [.int (nI n), .ref t1, .ref t2, .ref t3, .ref t4, .int xs, .int xb, .int xd], ai t1 cyI 7 xh, ai t2 cyI 7 ((yE nuc n 0 xg xk 0).2.1), ai t3 cyI 7 xf, ai t4 cyI 7 ((yE nuc n 0 xg xk 0).2.2)] H := hP
            have hD : va_D A [ob q0 3 [.ref a0, .ref t0, .ref z0, .int isv, .ref d0, .ref e0, .int fz, .ref g0], ob a0 0 [.int (nI n), .ref a1, .ref a2, .ref a3, .ref a4, .int vs, .int vb, .int vd], ai a1 cyI 7 fh, ai a2 cyI 7 fg, ai a3 cyI 7 ff, ai a4 cyI 7 fk, ob d0 2 [.ref d1, .ref d2, .ref d3], ai d1 cyI 3 (nF ct), aa d2 cyA 3 fK, aa d3 cyA 3 fV, ai kr cyI 12 kw, ai vr cyI 12 vw, ai g0 cyI 3 fp, ob t0 0 [.int (nI n), .ref t1, .ref t2, .ref t3, .ref t4, .int xs, .int xb, .int xd], ai t1 cyI 7 xh, ai t2 cyI 7 ((yE nuc n 0 xg xk 0).2.1), ai t3 cyI 7 xf, ai t4 cyI 7 ((yE nuc n 0 xg xk 0).2.2)] := hD
            refine lv_pop hx hb dX3_play_125 rfl ?_
            refine lv_iinc (v := nI (y + 1)) (lv' := [(2, .int (nI (y + 1))), (4, .int (vw i)), (0, .ref q0), (1, .int (nI w)), (3, .int (nI i))]) hx hb dX3_play_126 hl (k := 3) rfl (ra_inc1 _) (by decide) rfl (fun ls hl => ?_)
            refine lv_aload_n hx hb dX3_play_129 rfl (lv_at hl 2 rfl) ?_
            refine lv_iload_n hx hb dX3_play_130 rfl (lv_at hl 0 rfl) ?_
            refine ra_cV (q := (RX3, TX3, 8)) (ci := 3) (As := [.int (nI (y + 1))]) (rest := []) (wc := [ob q0 3 [.ref a0, .ref t0, .ref z0, .int isv, .ref d0, .ref e0, .int fz, .ref g0], ob t0 0 [.int (nI n), .ref t1, .ref t2, .ref t3, .ref t4, .int xs, .int xb, .int xd], ai t1 cyI 7 xh, ai t2 cyI 7 ((yE nuc n 0 xg xk 0).2.1), ai t3 cyI 7 xf, ai t4 cyI 7 ((yE nuc n 0 xg xk 0).2.2), ai g0 cyI 3 fp]) (wr := [ob a0 0 [.int (nI n), .ref a1, .ref a2, .ref a3, .ref a4, .int vs, .int vb, .int vd], ai a1 cyI 7 fh, ai a2 cyI 7 fg, ai a3 cyI 7 ff, ai a4 cyI 7 fk, ob d0 2 [.ref d1, .ref d2, .ref d3], ai d1 cyI 3 (nF ct), aa d2 cyA 3 fK, aa d3 cyA 3 fV, ai kr cyI 12 kw, ai vr cyI 12 vw]) ⟨hx, hb, hml, hown, hts⟩ (c_X3_beginYear l dC dI cyI cyA q0 z0 e0 g0 isv fz a0 d0 t0 t1 t2 t3 t4 n xh ((yE nuc n 0 xg xk 0).2.1) xf ((yE nuc n 0 xg xk 0).2.2) xs xb xd fp (y + 1) (by omega) (by omega) H.size) (cwV 1 hts gX3_play_X3_beginYear rfl rfl rfl (by decide +kernel) ⟨Nat.le_of_ble_eq_true rfl, Nat.le_of_ble_eq_true rfl⟩) hK hN hP hD hA hS [0, 13, 14, 15, 16, 17, 12] [1, 2, 3, 4, 5, 6, 7, 8, 9, 10, 11] rfl rfl (by decide) (by decide) (by decide) rfl rfl rfl hl.1 rfl (Nat.le_of_ble_eq_true rfl) dX3_play_131 ⟨Nat.le_of_ble_eq_true rfl, Nat.le_of_ble_eq_true rfl⟩ (fun u_6 hw_c6 H locs hP hD hS => ?_)
            have hP : va_P (dC, dI) vwCl [ob a0 0 [.int (nI n), .ref a1, .ref a2, .ref a3, .ref a4, .int vs, .int vb, .int vd], ai a1 cyI 7 fh, ai a2 cyI 7 fg, ai a3 cyI 7 ff, ai a4 cyI 7 fk, ob d0 2 [.ref d1, .ref d2, .ref d3], ai d1 cyI 3 (nF ct), aa d2 cyA 3 fK, aa d3 cyA 3 fV, ai kr cyI 12 kw, ai vr cyI 12 vw, ob q0 3 [.ref a0, .ref t0, .ref z0, .int isv, .ref d0, .ref e0, .int fz, .ref g0], ob t0 0 [.int (nI n), .ref t1, .ref t2, .ref t3, .ref t4, .int xs, .int xb, .int xd], ai t1 cyI 7 xh, ai t2 cyI 7 ((yE nuc n 0 xg xk 0).2.1), ai t3 cyI 7 (bgY n xf fp fz (y + 1)), ai t4 cyI 7 ((yE nuc n 0 xg xk 0).2.2), ai g0 cyI 3 fp] H := hP
            have hD : va_D A [ob a0 0 [.int (nI n), .ref a1, .ref a2, .ref a3, .ref a4, .int vs, .int vb, .int vd], ai a1 cyI 7 fh, ai a2 cyI 7 fg, ai a3 cyI 7 ff, ai a4 cyI 7 fk, ob d0 2 [.ref d1, .ref d2, .ref d3], ai d1 cyI 3 (nF ct), aa d2 cyA 3 fK, aa d3 cyA 3 fV, ai kr cyI 12 kw, ai vr cyI 12 vw, ob q0 3 [.ref a0, .ref t0, .ref z0, .int isv, .ref d0, .ref e0, .int fz, .ref g0], ob t0 0 [.int (nI n), .ref t1, .ref t2, .ref t3, .ref t4, .int xs, .int xb, .int xd], ai t1 cyI 7 xh, ai t2 cyI 7 ((yE nuc n 0 xg xk 0).2.1), ai t3 cyI 7 (bgY n xf fp fz (y + 1)), ai t4 cyI 7 ((yE nuc n 0 xg xk 0).2.2), ai g0 cyI 3 fp] := hD
            refine lv_iinc (v := nI (i + 1)) (lv' := [(3, .int (nI (i + 1))), (2, .int (nI (y + 1))), (4, .int (vw i)), (0, .ref q0), (1, .int (nI w))]) hx hb dX3_play_134 hl (k := 4) rfl (ra_inc1 _) (by decide) rfl (fun ls hl => ?_)
            refine lv_goto (tgt := 28) hx hb dX3_play_137 (by decide) ?_
            exact ih_28 (i + 1) (y + 1) xh ((yE nuc n 0 xg xk 0).2.1) (bgY n xf fp fz (y + 1)) ((yE nuc n 0 xg xk 0).2.2) xs xb xd (by omega) (by omega) (by rw [← he, show ct w - i = ct w - (i + 1) + 1 by omega]; show _ = ite _ _ _; first | (rw [if_pos h0]; done) | (rw [if_neg h0, if_pos h1]; done) | (rw [if_neg h0, if_neg h1]; done)) (by omega) H locs (hP.sub [11, 0, 1, 2, 3, 4, 12, 13, 14, 15, 16, 5, 6, 7, 8, 9, 10, 17] rfl) (hD.sub [11, 0, 1, 2, 3, 4, 12, 13, 14, 15, 16, 5, 6, 7, 8, 9, 10, 17] (by decide) rfl) hS ls (lv_sub hl [3, 4, 1, 0] rfl)
  exact L_28 _ 0 0 fh fg (bgY n ff fp fz 0) fk vs vb 0 (by omega) (by omega) rfl (Nat.lt_succ_self _) H locs (hP.sub [11, 6, 7, 8, 9, 10, 12, 13, 14, 15, 16, 0, 1, 2, 3, 4, 5, 17] rfl) (hD.sub [11, 6, 7, 8, 9, 10, 12, 13, 14, 15, 16, 0, 1, 2, 3, 4, 5, 17] (by decide) rfl) hS ls (lv_sub hl [2, 3, 1, 0] rfl)

set_option maxHeartbeats 4000000 in
set_option maxRecDepth 100000 in
theorem c_X3_plannedFences (l : Launch) (dC : Nat → ClassId) (dI : Nat → Nat → Nat) (cyI cyA : ClassId) (q0 z0 e0 g0 : Nat) (isv fz : Int32) (a0 t0 d0 : Nat) (fp : FN)  : Met l yX3_plannedFences wsX3_plannedFences (rm 0) (kR dC dI cyI cyA [.ref q0] [ob q0 3 [.ref a0, .ref t0, .ref z0, .int isv, .ref d0, .ref e0, .int fz, .ref g0], ai g0 cyI 3 fp]) (QcRead (nI (nfen fp))) 0 0 (fun _ => False) := by
  refine ra_metR (cc := cX3_plannedFences) (maxL := 3) (by decide) rfl (Nat.le_of_ble_eq_true rfl) ?_
  intro p e s m below meth c args Q hQ hx hb hr hlocks hml hts hown hK hN hP ls hl
  have hl : lv_has ls 3 [(0, .ref q0)] := hl
  have hown : s.vm.findClass RX3 = some m.cls := hown
  have hw_1 := hts (.fieldLink RX3 44 "DuneBench" "planCells" "[I") (by decide +kernel)
  have hin_X3 : ∀ w ∈ u_ws RX3 TX3 8, w ∈ wsX3_plannedFences := by decide +kernel
  refine lv_iconst (v := 0) hx hb dX3_plannedFences_0 (by decide) ?_
  refine lv_istore_n (lv' := [(1, .int 0), (0, .ref q0)]) hx hb dX3_plannedFences_1 rfl hl (by decide) rfl (fun ls hl => ?_)
  refine lv_iconst (v := 0) hx hb dX3_plannedFences_2 (by decide) ?_
  refine lv_istore_n (lv' := [(2, .int 0), (1, .int 0), (0, .ref q0)]) hx hb dX3_plannedFences_3 rfl hl (by decide) rfl (fun ls hl => ?_)
  refine lv_iload_n hx hb dX3_plannedFences_4 rfl (lv_at hl 0 rfl) ?_
  refine lv_iconst (v := 3) hx hb dX3_plannedFences_5 (by decide) ?_
  refine lv_icmp_ge (tgt := 28) hx hb dX3_plannedFences_6 (by decide) (fun c_6 => ?_) (fun c_6 => ?_)
  · ---- to 28
    exact absurd c_6 (by decide)
  · ---- on
    refine lv_aload_n hx hb dX3_plannedFences_9 rfl (lv_at hl 2 rfl) ?_
    refine va_get (D := (dC, dI)) (ci := 3) (v := .ref g0) (C := RX3) (T := TX3) (N := 8) hx hb hts hin_X3 hown hK hP 0 rfl rfl 7 (by decide) hw_1 (fun _ h9 => h9) rfl dX3_plannedFences_10 ?_
    refine lv_iload_n hx hb dX3_plannedFences_13 rfl (lv_at hl 0 rfl) ?_
    refine ra_iald hx hb hK hP 1 rfl 0 rfl (by omega) (Nat.le_of_ble_eq_true rfl) dX3_plannedFences_14 ?_
    refine lv_iconst (v := (-1)) hx hb dX3_plannedFences_15 (by decide) ?_
    refine lv_icmp_eq (tgt := 22) hx hb dX3_plannedFences_16 (by decide) (fun c_16 => ?_) (fun c_16 => ?_)
    · ---- to 22
      refine lv_iinc (v := 1) (lv' := [(2, .int 1), (1, .int 0), (0, .ref q0)]) hx hb dX3_plannedFences_22 hl (k := 0) rfl (by decide) (by decide) rfl (fun ls hl => ?_)
      refine lv_goto (tgt := 4) hx hb dX3_plannedFences_25 (by decide) ?_
      refine lv_iload_n hx hb dX3_plannedFences_4 rfl (lv_at hl 0 rfl) ?_
      refine lv_iconst (v := 3) hx hb dX3_plannedFences_5 (by decide) ?_
      refine lv_icmp_ge (tgt := 28) hx hb dX3_plannedFences_6 (by decide) (fun c_6_2 => ?_) (fun c_6_2 => ?_)
      · ---- to 28
        exact absurd c_6_2 (by decide)
      · ---- on
        refine lv_aload_n hx hb dX3_plannedFences_9 rfl (lv_at hl 2 rfl) ?_
        refine va_get (D := (dC, dI)) (ci := 3) (v := .ref g0) (C := RX3) (T := TX3) (N := 8) hx hb hts hin_X3 hown hK hP 0 rfl rfl 7 (by decide) hw_1 (fun _ h9 => h9) rfl dX3_plannedFences_10 ?_
        refine lv_iload_n hx hb dX3_plannedFences_13 rfl (lv_at hl 0 rfl) ?_
        refine ra_iald hx hb hK hP 1 rfl 1 rfl (by omega) (Nat.le_of_ble_eq_true rfl) dX3_plannedFences_14 ?_
        refine lv_iconst (v := (-1)) hx hb dX3_plannedFences_15 (by decide) ?_
        refine lv_icmp_eq (tgt := 22) hx hb dX3_plannedFences_16 (by decide) (fun c_16_2 => ?_) (fun c_16_2 => ?_)
        · ---- to 22
          refine lv_iinc (v := 2) (lv' := [(2, .int 2), (1, .int 0), (0, .ref q0)]) hx hb dX3_plannedFences_22 hl (k := 0) rfl (by decide) (by decide) rfl (fun ls hl => ?_)
          refine lv_goto (tgt := 4) hx hb dX3_plannedFences_25 (by decide) ?_
          refine lv_iload_n hx hb dX3_plannedFences_4 rfl (lv_at hl 0 rfl) ?_
          refine lv_iconst (v := 3) hx hb dX3_plannedFences_5 (by decide) ?_
          refine lv_icmp_ge (tgt := 28) hx hb dX3_plannedFences_6 (by decide) (fun c_6_3 => ?_) (fun c_6_3 => ?_)
          · ---- to 28
            exact absurd c_6_3 (by decide)
          · ---- on
            refine lv_aload_n hx hb dX3_plannedFences_9 rfl (lv_at hl 2 rfl) ?_
            refine va_get (D := (dC, dI)) (ci := 3) (v := .ref g0) (C := RX3) (T := TX3) (N := 8) hx hb hts hin_X3 hown hK hP 0 rfl rfl 7 (by decide) hw_1 (fun _ h9 => h9) rfl dX3_plannedFences_10 ?_
            refine lv_iload_n hx hb dX3_plannedFences_13 rfl (lv_at hl 0 rfl) ?_
            refine ra_iald hx hb hK hP 1 rfl 2 rfl (by omega) (Nat.le_of_ble_eq_true rfl) dX3_plannedFences_14 ?_
            refine lv_iconst (v := (-1)) hx hb dX3_plannedFences_15 (by decide) ?_
            refine lv_icmp_eq (tgt := 22) hx hb dX3_plannedFences_16 (by decide) (fun c_16_3 => ?_) (fun c_16_3 => ?_)
            · ---- to 22
              refine lv_iinc (v := 3) (lv' := [(2, .int 3), (1, .int 0), (0, .ref q0)]) hx hb dX3_plannedFences_22 hl (k := 0) rfl (by decide) (by decide) rfl (fun ls hl => ?_)
              refine lv_goto (tgt := 4) hx hb dX3_plannedFences_25 (by decide) ?_
              refine lv_iload_n hx hb dX3_plannedFences_4 rfl (lv_at hl 0 rfl) ?_
              refine lv_iconst (v := 3) hx hb dX3_plannedFences_5 (by decide) ?_
              refine lv_icmp_ge (tgt := 28) hx hb dX3_plannedFences_6 (by decide) (fun c_6_4 => ?_) (fun c_6_4 => ?_)
              · ---- to 28
                refine lv_iload_n hx hb dX3_plannedFences_28 rfl (lv_at hl 1 rfl) ?_
                rw [hQ]
                exact ra_iretR hx hb hr hlocks rfl (by unfold nfen nfs; rw [if_pos c_16, if_pos c_16_2, if_pos c_16_3]; rfl) dX3_plannedFences_29
              · ---- on
                exact absurd c_6_4 (by decide)
            · ---- on
              refine lv_iinc (v := 1) (lv' := [(1, .int 1), (2, .int 2), (0, .ref q0)]) hx hb dX3_plannedFences_19 hl (k := 1) rfl (by decide) (by decide) rfl (fun ls hl => ?_)
              refine lv_iinc (v := 3) (lv' := [(2, .int 3), (1, .int 1), (0, .ref q0)]) hx hb dX3_plannedFences_22 hl (k := 1) rfl (by decide) (by decide) rfl (fun ls hl => ?_)
              refine lv_goto (tgt := 4) hx hb dX3_plannedFences_25 (by decide) ?_
              refine lv_iload_n hx hb dX3_plannedFences_4 rfl (lv_at hl 0 rfl) ?_
              refine lv_iconst (v := 3) hx hb dX3_plannedFences_5 (by decide) ?_
              refine lv_icmp_ge (tgt := 28) hx hb dX3_plannedFences_6 (by decide) (fun c_6_4 => ?_) (fun c_6_4 => ?_)
              · ---- to 28
                refine lv_iload_n hx hb dX3_plannedFences_28 rfl (lv_at hl 1 rfl) ?_
                rw [hQ]
                exact ra_iretR hx hb hr hlocks rfl (by unfold nfen nfs; rw [if_pos c_16, if_pos c_16_2, if_neg c_16_3]; rfl) dX3_plannedFences_29
              · ---- on
                exact absurd c_6_4 (by decide)
        · ---- on
          refine lv_iinc (v := 1) (lv' := [(1, .int 1), (2, .int 1), (0, .ref q0)]) hx hb dX3_plannedFences_19 hl (k := 1) rfl (by decide) (by decide) rfl (fun ls hl => ?_)
          refine lv_iinc (v := 2) (lv' := [(2, .int 2), (1, .int 1), (0, .ref q0)]) hx hb dX3_plannedFences_22 hl (k := 1) rfl (by decide) (by decide) rfl (fun ls hl => ?_)
          refine lv_goto (tgt := 4) hx hb dX3_plannedFences_25 (by decide) ?_
          refine lv_iload_n hx hb dX3_plannedFences_4 rfl (lv_at hl 0 rfl) ?_
          refine lv_iconst (v := 3) hx hb dX3_plannedFences_5 (by decide) ?_
          refine lv_icmp_ge (tgt := 28) hx hb dX3_plannedFences_6 (by decide) (fun c_6_3 => ?_) (fun c_6_3 => ?_)
          · ---- to 28
            exact absurd c_6_3 (by decide)
          · ---- on
            refine lv_aload_n hx hb dX3_plannedFences_9 rfl (lv_at hl 2 rfl) ?_
            refine va_get (D := (dC, dI)) (ci := 3) (v := .ref g0) (C := RX3) (T := TX3) (N := 8) hx hb hts hin_X3 hown hK hP 0 rfl rfl 7 (by decide) hw_1 (fun _ h9 => h9) rfl dX3_plannedFences_10 ?_
            refine lv_iload_n hx hb dX3_plannedFences_13 rfl (lv_at hl 0 rfl) ?_
            refine ra_iald hx hb hK hP 1 rfl 2 rfl (by omega) (Nat.le_of_ble_eq_true rfl) dX3_plannedFences_14 ?_
            refine lv_iconst (v := (-1)) hx hb dX3_plannedFences_15 (by decide) ?_
            refine lv_icmp_eq (tgt := 22) hx hb dX3_plannedFences_16 (by decide) (fun c_16_3 => ?_) (fun c_16_3 => ?_)
            · ---- to 22
              refine lv_iinc (v := 3) (lv' := [(2, .int 3), (1, .int 1), (0, .ref q0)]) hx hb dX3_plannedFences_22 hl (k := 0) rfl (by decide) (by decide) rfl (fun ls hl => ?_)
              refine lv_goto (tgt := 4) hx hb dX3_plannedFences_25 (by decide) ?_
              refine lv_iload_n hx hb dX3_plannedFences_4 rfl (lv_at hl 0 rfl) ?_
              refine lv_iconst (v := 3) hx hb dX3_plannedFences_5 (by decide) ?_
              refine lv_icmp_ge (tgt := 28) hx hb dX3_plannedFences_6 (by decide) (fun c_6_4 => ?_) (fun c_6_4 => ?_)
              · ---- to 28
                refine lv_iload_n hx hb dX3_plannedFences_28 rfl (lv_at hl 1 rfl) ?_
                rw [hQ]
                exact ra_iretR hx hb hr hlocks rfl (by unfold nfen nfs; rw [if_pos c_16, if_neg c_16_2, if_pos c_16_3]; rfl) dX3_plannedFences_29
              · ---- on
                exact absurd c_6_4 (by decide)
            · ---- on
              refine lv_iinc (v := 2) (lv' := [(1, .int 2), (2, .int 2), (0, .ref q0)]) hx hb dX3_plannedFences_19 hl (k := 1) rfl (by decide) (by decide) rfl (fun ls hl => ?_)
              refine lv_iinc (v := 3) (lv' := [(2, .int 3), (1, .int 2), (0, .ref q0)]) hx hb dX3_plannedFences_22 hl (k := 1) rfl (by decide) (by decide) rfl (fun ls hl => ?_)
              refine lv_goto (tgt := 4) hx hb dX3_plannedFences_25 (by decide) ?_
              refine lv_iload_n hx hb dX3_plannedFences_4 rfl (lv_at hl 0 rfl) ?_
              refine lv_iconst (v := 3) hx hb dX3_plannedFences_5 (by decide) ?_
              refine lv_icmp_ge (tgt := 28) hx hb dX3_plannedFences_6 (by decide) (fun c_6_4 => ?_) (fun c_6_4 => ?_)
              · ---- to 28
                refine lv_iload_n hx hb dX3_plannedFences_28 rfl (lv_at hl 1 rfl) ?_
                rw [hQ]
                exact ra_iretR hx hb hr hlocks rfl (by unfold nfen nfs; rw [if_pos c_16, if_neg c_16_2, if_neg c_16_3]; rfl) dX3_plannedFences_29
              · ---- on
                exact absurd c_6_4 (by decide)
    · ---- on
      refine lv_iinc (v := 1) (lv' := [(1, .int 1), (2, .int 0), (0, .ref q0)]) hx hb dX3_plannedFences_19 hl (k := 1) rfl (by decide) (by decide) rfl (fun ls hl => ?_)
      refine lv_iinc (v := 1) (lv' := [(2, .int 1), (1, .int 1), (0, .ref q0)]) hx hb dX3_plannedFences_22 hl (k := 1) rfl (by decide) (by decide) rfl (fun ls hl => ?_)
      refine lv_goto (tgt := 4) hx hb dX3_plannedFences_25 (by decide) ?_
      refine lv_iload_n hx hb dX3_plannedFences_4 rfl (lv_at hl 0 rfl) ?_
      refine lv_iconst (v := 3) hx hb dX3_plannedFences_5 (by decide) ?_
      refine lv_icmp_ge (tgt := 28) hx hb dX3_plannedFences_6 (by decide) (fun c_6_2 => ?_) (fun c_6_2 => ?_)
      · ---- to 28
        exact absurd c_6_2 (by decide)
      · ---- on
        refine lv_aload_n hx hb dX3_plannedFences_9 rfl (lv_at hl 2 rfl) ?_
        refine va_get (D := (dC, dI)) (ci := 3) (v := .ref g0) (C := RX3) (T := TX3) (N := 8) hx hb hts hin_X3 hown hK hP 0 rfl rfl 7 (by decide) hw_1 (fun _ h9 => h9) rfl dX3_plannedFences_10 ?_
        refine lv_iload_n hx hb dX3_plannedFences_13 rfl (lv_at hl 0 rfl) ?_
        refine ra_iald hx hb hK hP 1 rfl 1 rfl (by omega) (Nat.le_of_ble_eq_true rfl) dX3_plannedFences_14 ?_
        refine lv_iconst (v := (-1)) hx hb dX3_plannedFences_15 (by decide) ?_
        refine lv_icmp_eq (tgt := 22) hx hb dX3_plannedFences_16 (by decide) (fun c_16_2 => ?_) (fun c_16_2 => ?_)
        · ---- to 22
          refine lv_iinc (v := 2) (lv' := [(2, .int 2), (1, .int 1), (0, .ref q0)]) hx hb dX3_plannedFences_22 hl (k := 0) rfl (by decide) (by decide) rfl (fun ls hl => ?_)
          refine lv_goto (tgt := 4) hx hb dX3_plannedFences_25 (by decide) ?_
          refine lv_iload_n hx hb dX3_plannedFences_4 rfl (lv_at hl 0 rfl) ?_
          refine lv_iconst (v := 3) hx hb dX3_plannedFences_5 (by decide) ?_
          refine lv_icmp_ge (tgt := 28) hx hb dX3_plannedFences_6 (by decide) (fun c_6_3 => ?_) (fun c_6_3 => ?_)
          · ---- to 28
            exact absurd c_6_3 (by decide)
          · ---- on
            refine lv_aload_n hx hb dX3_plannedFences_9 rfl (lv_at hl 2 rfl) ?_
            refine va_get (D := (dC, dI)) (ci := 3) (v := .ref g0) (C := RX3) (T := TX3) (N := 8) hx hb hts hin_X3 hown hK hP 0 rfl rfl 7 (by decide) hw_1 (fun _ h9 => h9) rfl dX3_plannedFences_10 ?_
            refine lv_iload_n hx hb dX3_plannedFences_13 rfl (lv_at hl 0 rfl) ?_
            refine ra_iald hx hb hK hP 1 rfl 2 rfl (by omega) (Nat.le_of_ble_eq_true rfl) dX3_plannedFences_14 ?_
            refine lv_iconst (v := (-1)) hx hb dX3_plannedFences_15 (by decide) ?_
            refine lv_icmp_eq (tgt := 22) hx hb dX3_plannedFences_16 (by decide) (fun c_16_3 => ?_) (fun c_16_3 => ?_)
            · ---- to 22
              refine lv_iinc (v := 3) (lv' := [(2, .int 3), (1, .int 1), (0, .ref q0)]) hx hb dX3_plannedFences_22 hl (k := 0) rfl (by decide) (by decide) rfl (fun ls hl => ?_)
              refine lv_goto (tgt := 4) hx hb dX3_plannedFences_25 (by decide) ?_
              refine lv_iload_n hx hb dX3_plannedFences_4 rfl (lv_at hl 0 rfl) ?_
              refine lv_iconst (v := 3) hx hb dX3_plannedFences_5 (by decide) ?_
              refine lv_icmp_ge (tgt := 28) hx hb dX3_plannedFences_6 (by decide) (fun c_6_4 => ?_) (fun c_6_4 => ?_)
              · ---- to 28
                refine lv_iload_n hx hb dX3_plannedFences_28 rfl (lv_at hl 1 rfl) ?_
                rw [hQ]
                exact ra_iretR hx hb hr hlocks rfl (by unfold nfen nfs; rw [if_neg c_16, if_pos c_16_2, if_pos c_16_3]; rfl) dX3_plannedFences_29
              · ---- on
                exact absurd c_6_4 (by decide)
            · ---- on
              refine lv_iinc (v := 2) (lv' := [(1, .int 2), (2, .int 2), (0, .ref q0)]) hx hb dX3_plannedFences_19 hl (k := 1) rfl (by decide) (by decide) rfl (fun ls hl => ?_)
              refine lv_iinc (v := 3) (lv' := [(2, .int 3), (1, .int 2), (0, .ref q0)]) hx hb dX3_plannedFences_22 hl (k := 1) rfl (by decide) (by decide) rfl (fun ls hl => ?_)
              refine lv_goto (tgt := 4) hx hb dX3_plannedFences_25 (by decide) ?_
              refine lv_iload_n hx hb dX3_plannedFences_4 rfl (lv_at hl 0 rfl) ?_
              refine lv_iconst (v := 3) hx hb dX3_plannedFences_5 (by decide) ?_
              refine lv_icmp_ge (tgt := 28) hx hb dX3_plannedFences_6 (by decide) (fun c_6_4 => ?_) (fun c_6_4 => ?_)
              · ---- to 28
                refine lv_iload_n hx hb dX3_plannedFences_28 rfl (lv_at hl 1 rfl) ?_
                rw [hQ]
                exact ra_iretR hx hb hr hlocks rfl (by unfold nfen nfs; rw [if_neg c_16, if_pos c_16_2, if_neg c_16_3]; rfl) dX3_plannedFences_29
              · ---- on
                exact absurd c_6_4 (by decide)
        · ---- on
          refine lv_iinc (v := 2) (lv' := [(1, .int 2), (2, .int 1), (0, .ref q0)]) hx hb dX3_plannedFences_19 hl (k := 1) rfl (by decide) (by decide) rfl (fun ls hl => ?_)
          refine lv_iinc (v := 2) (lv' := [(2, .int 2), (1, .int 2), (0, .ref q0)]) hx hb dX3_plannedFences_22 hl (k := 1) rfl (by decide) (by decide) rfl (fun ls hl => ?_)
          refine lv_goto (tgt := 4) hx hb dX3_plannedFences_25 (by decide) ?_
          refine lv_iload_n hx hb dX3_plannedFences_4 rfl (lv_at hl 0 rfl) ?_
          refine lv_iconst (v := 3) hx hb dX3_plannedFences_5 (by decide) ?_
          refine lv_icmp_ge (tgt := 28) hx hb dX3_plannedFences_6 (by decide) (fun c_6_3 => ?_) (fun c_6_3 => ?_)
          · ---- to 28
            exact absurd c_6_3 (by decide)
          · ---- on
            refine lv_aload_n hx hb dX3_plannedFences_9 rfl (lv_at hl 2 rfl) ?_
            refine va_get (D := (dC, dI)) (ci := 3) (v := .ref g0) (C := RX3) (T := TX3) (N := 8) hx hb hts hin_X3 hown hK hP 0 rfl rfl 7 (by decide) hw_1 (fun _ h9 => h9) rfl dX3_plannedFences_10 ?_
            refine lv_iload_n hx hb dX3_plannedFences_13 rfl (lv_at hl 0 rfl) ?_
            refine ra_iald hx hb hK hP 1 rfl 2 rfl (by omega) (Nat.le_of_ble_eq_true rfl) dX3_plannedFences_14 ?_
            refine lv_iconst (v := (-1)) hx hb dX3_plannedFences_15 (by decide) ?_
            refine lv_icmp_eq (tgt := 22) hx hb dX3_plannedFences_16 (by decide) (fun c_16_3 => ?_) (fun c_16_3 => ?_)
            · ---- to 22
              refine lv_iinc (v := 3) (lv' := [(2, .int 3), (1, .int 2), (0, .ref q0)]) hx hb dX3_plannedFences_22 hl (k := 0) rfl (by decide) (by decide) rfl (fun ls hl => ?_)
              refine lv_goto (tgt := 4) hx hb dX3_plannedFences_25 (by decide) ?_
              refine lv_iload_n hx hb dX3_plannedFences_4 rfl (lv_at hl 0 rfl) ?_
              refine lv_iconst (v := 3) hx hb dX3_plannedFences_5 (by decide) ?_
              refine lv_icmp_ge (tgt := 28) hx hb dX3_plannedFences_6 (by decide) (fun c_6_4 => ?_) (fun c_6_4 => ?_)
              · ---- to 28
                refine lv_iload_n hx hb dX3_plannedFences_28 rfl (lv_at hl 1 rfl) ?_
                rw [hQ]
                exact ra_iretR hx hb hr hlocks rfl (by unfold nfen nfs; rw [if_neg c_16, if_neg c_16_2, if_pos c_16_3]; rfl) dX3_plannedFences_29
              · ---- on
                exact absurd c_6_4 (by decide)
            · ---- on
              refine lv_iinc (v := 3) (lv' := [(1, .int 3), (2, .int 2), (0, .ref q0)]) hx hb dX3_plannedFences_19 hl (k := 1) rfl (by decide) (by decide) rfl (fun ls hl => ?_)
              refine lv_iinc (v := 3) (lv' := [(2, .int 3), (1, .int 3), (0, .ref q0)]) hx hb dX3_plannedFences_22 hl (k := 1) rfl (by decide) (by decide) rfl (fun ls hl => ?_)
              refine lv_goto (tgt := 4) hx hb dX3_plannedFences_25 (by decide) ?_
              refine lv_iload_n hx hb dX3_plannedFences_4 rfl (lv_at hl 0 rfl) ?_
              refine lv_iconst (v := 3) hx hb dX3_plannedFences_5 (by decide) ?_
              refine lv_icmp_ge (tgt := 28) hx hb dX3_plannedFences_6 (by decide) (fun c_6_4 => ?_) (fun c_6_4 => ?_)
              · ---- to 28
                refine lv_iload_n hx hb dX3_plannedFences_28 rfl (lv_at hl 1 rfl) ?_
                rw [hQ]
                exact ra_iretR hx hb hr hlocks rfl (by unfold nfen nfs; rw [if_neg c_16, if_neg c_16_2, if_neg c_16_3]; rfl) dX3_plannedFences_29
              · ---- on
                exact absurd c_6_4 (by decide)

set_option maxHeartbeats 4000000 in
set_option maxRecDepth 100000 in
theorem c_X3_choosePlan (l : Launch) (dC : Nat → ClassId) (dI : Nat → Nat → Nat) (cyI cyA : ClassId) (q0 z0 e0 g0 : Nat) (isv fz : Int32) (t0 d0 : Nat) (a0 a1 a2 a3 a4 n : Nat) (fh fg ff fk : FN) (vs vb vd : Int32) (fp : FN) (cd ly : Nat) (hn : n ≤ 7) (hcd : cd < 512) (hly : ly ≤ 20) (sz : Nat) : Met l yX3_choosePlan wsX3_choosePlan (rm 1) (kW dC dI cyI cyA [.ref q0, .int (nI cd), .int (nI ly)] sz [ob q0 3 [.ref a0, .ref t0, .ref z0, .int isv, .ref d0, .ref e0, .int fz, .ref g0], ob a0 0 [.int (nI n), .ref a1, .ref a2, .ref a3, .ref a4, .int vs, .int vb, .int vd], ai a1 cyI 7 fh, ai a2 cyI 7 fg, ai a3 cyI 7 ff, ai a4 cyI 7 fk, ai g0 cyI 3 fp]) (qI dC dI cyI cyA (fun (r : Int32) (u : FN) => match u with | fp2 => r = bj (okP n ly cd) ∧ (okP n ly cd → ∀ y, y < 3 → fp2 y = dcd cd y)) (va_A [ob q0 3 [.ref a0, .ref t0, .ref z0, .int isv, .ref d0, .ref e0, .int fz, .ref g0], ob a0 0 [.int (nI n), .ref a1, .ref a2, .ref a3, .ref a4, .int vs, .int vb, .int vd], ai a1 cyI 7 fh, ai a2 cyI 7 fg, ai a3 cyI 7 ff, ai a4 cyI 7 fk, ai g0 cyI 3 fp] sz) (fun u : FN => match u with | fp2 => [ob q0 3 [.ref a0, .ref t0, .ref z0, .int isv, .ref d0, .ref e0, .int fz, .ref g0], ob a0 0 [.int (nI n), .ref a1, .ref a2, .ref a3, .ref a4, .int vs, .int vb, .int vd], ai a1 cyI 7 fh, ai a2 cyI 7 fg, ai a3 cyI 7 ff, ai a4 cyI 7 fk, ai g0 cyI 3 fp2])) 0 0 (va_A [ob q0 3 [.ref a0, .ref t0, .ref z0, .int isv, .ref d0, .ref e0, .int fz, .ref g0], ob a0 0 [.int (nI n), .ref a1, .ref a2, .ref a3, .ref a4, .int vs, .int vb, .int vd], ai a1 cyI 7 fh, ai a2 cyI 7 fg, ai a3 cyI 7 ff, ai a4 cyI 7 fk, ai g0 cyI 3 fp] sz) := by
  refine ra_metW (cc := cX3_choosePlan) (maxL := 5) (Qc := fun A => qI dC dI cyI cyA (fun (r : Int32) (u : FN) => match u with | fp2 => r = bj (okP n ly cd) ∧ (okP n ly cd → ∀ y, y < 3 → fp2 y = dcd cd y)) A (fun u : FN => match u with | fp2 => [ob q0 3 [.ref a0, .ref t0, .ref z0, .int isv, .ref d0, .ref e0, .int fz, .ref g0], ob a0 0 [.int (nI n), .ref a1, .ref a2, .ref a3, .ref a4, .int vs, .int vb, .int vd], ai a1 cyI 7 fh, ai a2 cyI 7 fg, ai a3 cyI 7 ff, ai a4 cyI 7 fk, ai g0 cyI 3 fp2])) (by decide) rfl (Nat.le_of_ble_eq_true rfl) ?_
  intro p e s m below meth c A args Q hQ hx hb hr hlocks hml hts hown hnm hK hN hP hD hA hS ls hl
  have hl : lv_has ls 5 [(0, .ref q0), (1, .int (nI cd)), (2, .int (nI ly))] := hl
  have hown : s.vm.findClass RX3 = some m.cls := hown
  have hw_1 := hts (.fieldLink RX3 10 "DuneBench" "shore" "LDuneBench$Coast;") (by decide +kernel)
  have hin_X3 : ∀ w ∈ u_ws RX3 TX3 8, w ∈ wsX3_choosePlan := by decide +kernel
  have hw_3 := hts (.fieldLink RX3 44 "DuneBench" "planCells" "[I") (by decide +kernel)
  obtain ⟨H, hHe⟩ : ∃ H, H = s.heap := ⟨_, rfl⟩
  obtain ⟨locs, hLe⟩ : ∃ locs : List Loc, locs = [] := ⟨_, rfl⟩
  have hP : va_P (dC, dI) vwCl [ob q0 3 [.ref a0, .ref t0, .ref z0, .int isv, .ref d0, .ref e0, .int fz, .ref g0], ob a0 0 [.int (nI n), .ref a1, .ref a2, .ref a3, .ref a4, .int vs, .int vb, .int vd], ai a1 cyI 7 fh, ai a2 cyI 7 fg, ai a3 cyI 7 ff, ai a4 cyI 7 fk, ai g0 cyI 3 fp] H := by rw [hHe]; exact hP
  have hS : va_S A s.heap H locs := by rw [hHe, hLe]; exact hS
  suffices hgo : W p l e (rm 1) s m args below meth c H locs 0 0 Q (F0 m 0 ls []) by rw [hHe, hLe] at hgo; exact hgo
  have hd0 := dg_lt cd 0
  have hd1 := dg_lt cd 1
  have hd2 := dg_lt cd 2
  refine lv_iconst (v := 0) hx hb dX3_choosePlan_0 (by decide) ?_
  refine lv_istore_n (lv' := [(3, .int 0), (0, .ref q0), (1, .int (nI cd)), (2, .int (nI ly))]) hx hb dX3_choosePlan_1 rfl hl (by decide) rfl (fun ls hl => ?_)
  refine lv_iload_n hx hb dX3_choosePlan_2 rfl (lv_at hl 0 rfl) ?_
  refine lv_iconst (v := 3) hx hb dX3_choosePlan_3 (by decide) ?_
  refine lv_icmp_ge (tgt := 72) hx hb dX3_choosePlan_4 (by decide) (fun c_4 => ?_) (fun c_4 => ?_)
  · ---- to 72
    exact absurd c_4 (by decide)
  · ---- on
    refine lv_iload_n hx hb dX3_choosePlan_7 rfl (lv_at hl 2 rfl) ?_
    refine lv_iconst (v := 3) hx hb dX3_choosePlan_8 (by decide) ?_
    refine lv_iconst (v := 2) hx hb dX3_choosePlan_9 (by decide) ?_
    refine lv_iload_n hx hb dX3_choosePlan_10 rfl (lv_at hl 0 rfl) ?_
    refine lv_isub hx hb dX3_choosePlan_11 ?_
    refine ra_top (2) (by decide) ?_
    refine lv_imul hx hb dX3_choosePlan_12 ?_
    refine ra_top (6) (by decide) ?_
    refine lv_ishr hx hb dX3_choosePlan_13 ?_
    refine lv_bipush (v := 7) hx hb dX3_choosePlan_14 (by decide) ?_
    refine lv_iand hx hb dX3_choosePlan_16 ?_
    refine ra_top (nI (dg cd 0)) (dg_0 hcd) ?_
    refine lv_istore (lv' := [(4, .int (nI (dg cd 0))), (3, .int 0), (0, .ref q0), (1, .int (nI cd)), (2, .int (nI ly))]) hx hb dX3_choosePlan_17 hl (by decide) rfl (fun ls hl => ?_)
    refine lv_iload hx hb dX3_choosePlan_19 (lv_at hl 0 rfl) ?_
    refine lv_bipush (v := 7) hx hb dX3_choosePlan_21 (by decide) ?_
    refine lv_icmp_ne (tgt := 36) hx hb dX3_choosePlan_23 (by decide) (fun c_23 => ?_) (fun c_23 => ?_)
    · ---- to 36
      have n_23 := (nq_eq_n (dg cd 0) 7 (by omega) (by omega)).mp c_23
      refine lv_aload_n hx hb dX3_choosePlan_36 rfl (lv_at hl 2 rfl) ?_
      refine va_get (D := (dC, dI)) (ci := 3) (v := .ref a0) (C := RX3) (T := TX3) (N := 8) hx hb hts hin_X3 hown hK hP 0 rfl rfl 0 (by decide) hw_1 (fun _ h9 => h9) rfl dX3_choosePlan_37 ?_
      refine lv_iload hx hb dX3_choosePlan_40 (lv_at hl 0 rfl) ?_
      refine ra_cR (q := (RX0, TX0, 8)) (ci := 0) (As := [.int (nI (dg cd 0))]) (rest := []) (wc := [ob a0 0 [.int (nI n), .ref a1, .ref a2, .ref a3, .ref a4, .int vs, .int vb, .int vd], ai a1 cyI 7 fh, ai a2 cyI 7 fg, ai a3 cyI 7 ff, ai a4 cyI 7 fk]) ⟨hx, hb, hml, hown, hts⟩ (c_X0_has l dC dI cyI cyA a0 a1 a2 a3 a4 n fh fg ff fk vs vb vd (nI (dg cd 0)) ) (cwV 1 hts gX3_choosePlan_X0_has rfl rfl rfl (by decide +kernel) ⟨Nat.le_of_ble_eq_true rfl, Nat.le_of_ble_eq_true rfl⟩) hK hN hP [1, 2, 3, 4, 5] rfl rfl rfl rfl hl.1 rfl (Nat.le_of_ble_eq_true rfl) dX3_choosePlan_42 ⟨Nat.le_of_ble_eq_true rfl, Nat.le_of_ble_eq_true rfl⟩ ?_
      refine lv_if_eq (tgt := 64) hx hb dX3_choosePlan_45 (by decide) (fun c_45 => ?_) (fun c_45 => ?_)
      · ---- to 64
        have c_45 := bi_0 c_45
        have m_45 : n ≤ dg cd _ := Nat.not_lt.mp (fun q => c_45 ⟨nI_pos' (by omega), (nq_lt _ n (by omega) (by omega)).mpr q⟩)
        refine lv_iconst (v := 0) hx hb dX3_choosePlan_64 (by decide) ?_
        rw [hQ]
        exact ra_iretW fp hx hb hr hlocks rfl hK hP hD hS ⟨(bj_f (by unfold okP okY; omega)).symm, fun q => absurd q (by unfold okP okY; omega)⟩ dX3_choosePlan_65
      · ---- on
        have c_45 := bi_1 c_45
        have m_45 := (nq_lt _ n (by omega) (by omega)).mp c_45.2
        refine lv_iload_n hx hb dX3_choosePlan_48 rfl (lv_at hl 1 rfl) ?_
        refine lv_iload_n hx hb dX3_choosePlan_49 rfl (lv_at hl 4 rfl) ?_
        refine lv_icmp_gt (tgt := 64) hx hb dX3_choosePlan_50 (by decide) (fun c_50 => ?_) (fun c_50 => ?_)
        · ---- to 64
          have n_50 := (nq_lt ly 0 (by omega) (by omega)).mp c_50
          refine lv_iconst (v := 0) hx hb dX3_choosePlan_64 (by decide) ?_
          rw [hQ]
          exact ra_iretW fp hx hb hr hlocks rfl hK hP hD hS ⟨(bj_f (by unfold okP okY; omega)).symm, fun q => absurd q (by unfold okP okY; omega)⟩ dX3_choosePlan_65
        · ---- on
          have n_50 := (nq_lt_n ly 0 (by omega) (by omega)).mp c_50
          refine lv_aload_n hx hb dX3_choosePlan_53 rfl (lv_at hl 2 rfl) ?_
          refine va_get (D := (dC, dI)) (ci := 3) (v := .ref g0) (C := RX3) (T := TX3) (N := 8) hx hb hts hin_X3 hown hK hP 0 rfl rfl 7 (by decide) hw_3 (fun _ h9 => h9) rfl dX3_choosePlan_54 ?_
          refine lv_iload_n hx hb dX3_choosePlan_57 rfl (lv_at hl 1 rfl) ?_
          refine lv_iload hx hb dX3_choosePlan_58 (lv_at hl 0 rfl) ?_
          refine ra_iast hx hb hK hP hD hS 6 rfl 0 rfl (by omega) (Nat.le_of_ble_eq_true rfl) dX3_choosePlan_60 (fun H locs hP hD hS => ?_)
          have hP : va_P (dC, dI) vwCl [ob q0 3 [.ref a0, .ref t0, .ref z0, .int isv, .ref d0, .ref e0, .int fz, .ref g0], ob a0 0 [.int (nI n), .ref a1, .ref a2, .ref a3, .ref a4, .int vs, .int vb, .int vd], ai a1 cyI 7 fh, ai a2 cyI 7 fg, ai a3 cyI 7 ff, ai a4 cyI 7 fk, ai g0 cyI 3 (upd fp 0 (nI (dg cd 0)))] H := hP
          have hD : va_D A [ob q0 3 [.ref a0, .ref t0, .ref z0, .int isv, .ref d0, .ref e0, .int fz, .ref g0], ob a0 0 [.int (nI n), .ref a1, .ref a2, .ref a3, .ref a4, .int vs, .int vb, .int vd], ai a1 cyI 7 fh, ai a2 cyI 7 fg, ai a3 cyI 7 ff, ai a4 cyI 7 fk, ai g0 cyI 3 (upd fp 0 (nI (dg cd 0)))] := hD
          refine lv_goto (tgt := 66) hx hb dX3_choosePlan_61 (by decide) ?_
          refine lv_iinc (v := 1) (lv' := [(3, .int 1), (4, .int (nI (dg cd 0))), (0, .ref q0), (1, .int (nI cd)), (2, .int (nI ly))]) hx hb dX3_choosePlan_66 hl (k := 1) rfl (by decide) (by decide) rfl (fun ls hl => ?_)
          refine lv_goto (tgt := 2) hx hb dX3_choosePlan_69 (by decide) ?_
          refine lv_iload_n hx hb dX3_choosePlan_2 rfl (lv_at hl 0 rfl) ?_
          refine lv_iconst (v := 3) hx hb dX3_choosePlan_3 (by decide) ?_
          refine lv_icmp_ge (tgt := 72) hx hb dX3_choosePlan_4 (by decide) (fun c_4_2 => ?_) (fun c_4_2 => ?_)
          · ---- to 72
            exact absurd c_4_2 (by decide)
          · ---- on
            refine lv_iload_n hx hb dX3_choosePlan_7 rfl (lv_at hl 3 rfl) ?_
            refine lv_iconst (v := 3) hx hb dX3_choosePlan_8 (by decide) ?_
            refine lv_iconst (v := 2) hx hb dX3_choosePlan_9 (by decide) ?_
            refine lv_iload_n hx hb dX3_choosePlan_10 rfl (lv_at hl 0 rfl) ?_
            refine lv_isub hx hb dX3_choosePlan_11 ?_
            refine ra_top (1) (by decide) ?_
            refine lv_imul hx hb dX3_choosePlan_12 ?_
            refine ra_top (3) (by decide) ?_
            refine lv_ishr hx hb dX3_choosePlan_13 ?_
            refine lv_bipush (v := 7) hx hb dX3_choosePlan_14 (by decide) ?_
            refine lv_iand hx hb dX3_choosePlan_16 ?_
            refine ra_top (nI (dg cd 1)) (dg_1 hcd) ?_
            refine lv_istore (lv' := [(4, .int (nI (dg cd 1))), (3, .int 1), (0, .ref q0), (1, .int (nI cd)), (2, .int (nI ly))]) hx hb dX3_choosePlan_17 hl (by decide) rfl (fun ls hl => ?_)
            refine lv_iload hx hb dX3_choosePlan_19 (lv_at hl 0 rfl) ?_
            refine lv_bipush (v := 7) hx hb dX3_choosePlan_21 (by decide) ?_
            refine lv_icmp_ne (tgt := 36) hx hb dX3_choosePlan_23 (by decide) (fun c_23_2 => ?_) (fun c_23_2 => ?_)
            · ---- to 36
              have n_23_2 := (nq_eq_n (dg cd 1) 7 (by omega) (by omega)).mp c_23_2
              refine lv_aload_n hx hb dX3_choosePlan_36 rfl (lv_at hl 2 rfl) ?_
              refine va_get (D := (dC, dI)) (ci := 3) (v := .ref a0) (C := RX3) (T := TX3) (N := 8) hx hb hts hin_X3 hown hK hP 0 rfl rfl 0 (by decide) hw_1 (fun _ h9 => h9) rfl dX3_choosePlan_37 ?_
              refine lv_iload hx hb dX3_choosePlan_40 (lv_at hl 0 rfl) ?_
              refine ra_cR (q := (RX0, TX0, 8)) (ci := 0) (As := [.int (nI (dg cd 1))]) (rest := []) (wc := [ob a0 0 [.int (nI n), .ref a1, .ref a2, .ref a3, .ref a4, .int vs, .int vb, .int vd], ai a1 cyI 7 fh, ai a2 cyI 7 fg, ai a3 cyI 7 ff, ai a4 cyI 7 fk]) ⟨hx, hb, hml, hown, hts⟩ (c_X0_has l dC dI cyI cyA a0 a1 a2 a3 a4 n fh fg ff fk vs vb vd (nI (dg cd 1)) ) (cwV 1 hts gX3_choosePlan_X0_has rfl rfl rfl (by decide +kernel) ⟨Nat.le_of_ble_eq_true rfl, Nat.le_of_ble_eq_true rfl⟩) hK hN hP [1, 2, 3, 4, 5] rfl rfl rfl rfl hl.1 rfl (Nat.le_of_ble_eq_true rfl) dX3_choosePlan_42 ⟨Nat.le_of_ble_eq_true rfl, Nat.le_of_ble_eq_true rfl⟩ ?_
              refine lv_if_eq (tgt := 64) hx hb dX3_choosePlan_45 (by decide) (fun c_45_2 => ?_) (fun c_45_2 => ?_)
              · ---- to 64
                have c_45_2 := bi_0 c_45_2
                have m_45_2 : n ≤ dg cd _ := Nat.not_lt.mp (fun q => c_45_2 ⟨nI_pos' (by omega), (nq_lt _ n (by omega) (by omega)).mpr q⟩)
                refine lv_iconst (v := 0) hx hb dX3_choosePlan_64 (by decide) ?_
                rw [hQ]
                exact ra_iretW (upd fp 0 (nI (dg cd 0))) hx hb hr hlocks rfl hK hP hD hS ⟨(bj_f (by unfold okP okY; omega)).symm, fun q => absurd q (by unfold okP okY; omega)⟩ dX3_choosePlan_65
              · ---- on
                have c_45_2 := bi_1 c_45_2
                have m_45_2 := (nq_lt _ n (by omega) (by omega)).mp c_45_2.2
                refine lv_iload_n hx hb dX3_choosePlan_48 rfl (lv_at hl 1 rfl) ?_
                refine lv_iload_n hx hb dX3_choosePlan_49 rfl (lv_at hl 4 rfl) ?_
                refine lv_icmp_gt (tgt := 64) hx hb dX3_choosePlan_50 (by decide) (fun c_50_2 => ?_) (fun c_50_2 => ?_)
                · ---- to 64
                  have n_50_2 := (nq_lt ly 1 (by omega) (by omega)).mp c_50_2
                  refine lv_iconst (v := 0) hx hb dX3_choosePlan_64 (by decide) ?_
                  rw [hQ]
                  exact ra_iretW (upd fp 0 (nI (dg cd 0))) hx hb hr hlocks rfl hK hP hD hS ⟨(bj_f (by unfold okP okY; omega)).symm, fun q => absurd q (by unfold okP okY; omega)⟩ dX3_choosePlan_65
                · ---- on
                  have n_50_2 := (nq_lt_n ly 1 (by omega) (by omega)).mp c_50_2
                  refine lv_aload_n hx hb dX3_choosePlan_53 rfl (lv_at hl 2 rfl) ?_
                  refine va_get (D := (dC, dI)) (ci := 3) (v := .ref g0) (C := RX3) (T := TX3) (N := 8) hx hb hts hin_X3 hown hK hP 0 rfl rfl 7 (by decide) hw_3 (fun _ h9 => h9) rfl dX3_choosePlan_54 ?_
                  refine lv_iload_n hx hb dX3_choosePlan_57 rfl (lv_at hl 1 rfl) ?_
                  refine lv_iload hx hb dX3_choosePlan_58 (lv_at hl 0 rfl) ?_
                  refine ra_iast hx hb hK hP hD hS 6 rfl 1 rfl (by omega) (Nat.le_of_ble_eq_true rfl) dX3_choosePlan_60 (fun H locs hP hD hS => ?_)
                  have hP : va_P (dC, dI) vwCl [ob q0 3 [.ref a0, .ref t0, .ref z0, .int isv, .ref d0, .ref e0, .int fz, .ref g0], ob a0 0 [.int (nI n), .ref a1, .ref a2, .ref a3, .ref a4, .int vs, .int vb, .int vd], ai a1 cyI 7 fh, ai a2 cyI 7 fg, ai a3 cyI 7 ff, ai a4 cyI 7 fk, ai g0 cyI 3 (upd (upd fp 0 (nI (dg cd 0))) 1 (nI (dg cd 1)))] H := hP
                  have hD : va_D A [ob q0 3 [.ref a0, .ref t0, .ref z0, .int isv, .ref d0, .ref e0, .int fz, .ref g0], ob a0 0 [.int (nI n), .ref a1, .ref a2, .ref a3, .ref a4, .int vs, .int vb, .int vd], ai a1 cyI 7 fh, ai a2 cyI 7 fg, ai a3 cyI 7 ff, ai a4 cyI 7 fk, ai g0 cyI 3 (upd (upd fp 0 (nI (dg cd 0))) 1 (nI (dg cd 1)))] := hD
                  refine lv_goto (tgt := 66) hx hb dX3_choosePlan_61 (by decide) ?_
                  refine lv_iinc (v := 2) (lv' := [(3, .int 2), (4, .int (nI (dg cd 1))), (0, .ref q0), (1, .int (nI cd)), (2, .int (nI ly))]) hx hb dX3_choosePlan_66 hl (k := 1) rfl (by decide) (by decide) rfl (fun ls hl => ?_)
                  refine lv_goto (tgt := 2) hx hb dX3_choosePlan_69 (by decide) ?_
                  refine lv_iload_n hx hb dX3_choosePlan_2 rfl (lv_at hl 0 rfl) ?_
                  refine lv_iconst (v := 3) hx hb dX3_choosePlan_3 (by decide) ?_
                  refine lv_icmp_ge (tgt := 72) hx hb dX3_choosePlan_4 (by decide) (fun c_4_3 => ?_) (fun c_4_3 => ?_)
                  · ---- to 72
                    exact absurd c_4_3 (by decide)
                  · ---- on
                    refine lv_iload_n hx hb dX3_choosePlan_7 rfl (lv_at hl 3 rfl) ?_
                    refine lv_iconst (v := 3) hx hb dX3_choosePlan_8 (by decide) ?_
                    refine lv_iconst (v := 2) hx hb dX3_choosePlan_9 (by decide) ?_
                    refine lv_iload_n hx hb dX3_choosePlan_10 rfl (lv_at hl 0 rfl) ?_
                    refine lv_isub hx hb dX3_choosePlan_11 ?_
                    refine ra_top (0) (by decide) ?_
                    refine lv_imul hx hb dX3_choosePlan_12 ?_
                    refine ra_top (0) (by decide) ?_
                    refine lv_ishr hx hb dX3_choosePlan_13 ?_
                    refine lv_bipush (v := 7) hx hb dX3_choosePlan_14 (by decide) ?_
                    refine lv_iand hx hb dX3_choosePlan_16 ?_
                    refine ra_top (nI (dg cd 2)) (dg_2 hcd) ?_
                    refine lv_istore (lv' := [(4, .int (nI (dg cd 2))), (3, .int 2), (0, .ref q0), (1, .int (nI cd)), (2, .int (nI ly))]) hx hb dX3_choosePlan_17 hl (by decide) rfl (fun ls hl => ?_)
                    refine lv_iload hx hb dX3_choosePlan_19 (lv_at hl 0 rfl) ?_
                    refine lv_bipush (v := 7) hx hb dX3_choosePlan_21 (by decide) ?_
                    refine lv_icmp_ne (tgt := 36) hx hb dX3_choosePlan_23 (by decide) (fun c_23_3 => ?_) (fun c_23_3 => ?_)
                    · ---- to 36
                      have n_23_3 := (nq_eq_n (dg cd 2) 7 (by omega) (by omega)).mp c_23_3
                      refine lv_aload_n hx hb dX3_choosePlan_36 rfl (lv_at hl 2 rfl) ?_
                      refine va_get (D := (dC, dI)) (ci := 3) (v := .ref a0) (C := RX3) (T := TX3) (N := 8) hx hb hts hin_X3 hown hK hP 0 rfl rfl 0 (by decide) hw_1 (fun _ h9 => h9) rfl dX3_choosePlan_37 ?_
                      refine lv_iload hx hb dX3_choosePlan_40 (lv_at hl 0 rfl) ?_
                      refine ra_cR (q := (RX0, TX0, 8)) (ci := 0) (As := [.int (nI (dg cd 2))]) (rest := []) (wc := [ob a0 0 [.int (nI n), .ref a1, .ref a2, .ref a3, .ref a4, .int vs, .int vb, .int vd], ai a1 cyI 7 fh, ai a2 cyI 7 fg, ai a3 cyI 7 ff, ai a4 cyI 7 fk]) ⟨hx, hb, hml, hown, hts⟩ (c_X0_has l dC dI cyI cyA a0 a1 a2 a3 a4 n fh fg ff fk vs vb vd (nI (dg cd 2)) ) (cwV 1 hts gX3_choosePlan_X0_has rfl rfl rfl (by decide +kernel) ⟨Nat.le_of_ble_eq_true rfl, Nat.le_of_ble_eq_true rfl⟩) hK hN hP [1, 2, 3, 4, 5] rfl rfl rfl rfl hl.1 rfl (Nat.le_of_ble_eq_true rfl) dX3_choosePlan_42 ⟨Nat.le_of_ble_eq_true rfl, Nat.le_of_ble_eq_true rfl⟩ ?_
                      refine lv_if_eq (tgt := 64) hx hb dX3_choosePlan_45 (by decide) (fun c_45_3 => ?_) (fun c_45_3 => ?_)
                      · ---- to 64
                        have c_45_3 := bi_0 c_45_3
                        have m_45_3 : n ≤ dg cd _ := Nat.not_lt.mp (fun q => c_45_3 ⟨nI_pos' (by omega), (nq_lt _ n (by omega) (by omega)).mpr q⟩)
                        refine lv_iconst (v := 0) hx hb dX3_choosePlan_64 (by decide) ?_
                        rw [hQ]
                        exact ra_iretW (upd (upd fp 0 (nI (dg cd 0))) 1 (nI (dg cd 1))) hx hb hr hlocks rfl hK hP hD hS ⟨(bj_f (by unfold okP okY; omega)).symm, fun q => absurd q (by unfold okP okY; omega)⟩ dX3_choosePlan_65
                      · ---- on
                        have c_45_3 := bi_1 c_45_3
                        have m_45_3 := (nq_lt _ n (by omega) (by omega)).mp c_45_3.2
                        refine lv_iload_n hx hb dX3_choosePlan_48 rfl (lv_at hl 1 rfl) ?_
                        refine lv_iload_n hx hb dX3_choosePlan_49 rfl (lv_at hl 4 rfl) ?_
                        refine lv_icmp_gt (tgt := 64) hx hb dX3_choosePlan_50 (by decide) (fun c_50_3 => ?_) (fun c_50_3 => ?_)
                        · ---- to 64
                          have n_50_3 := (nq_lt ly 2 (by omega) (by omega)).mp c_50_3
                          refine lv_iconst (v := 0) hx hb dX3_choosePlan_64 (by decide) ?_
                          rw [hQ]
                          exact ra_iretW (upd (upd fp 0 (nI (dg cd 0))) 1 (nI (dg cd 1))) hx hb hr hlocks rfl hK hP hD hS ⟨(bj_f (by unfold okP okY; omega)).symm, fun q => absurd q (by unfold okP okY; omega)⟩ dX3_choosePlan_65
                        · ---- on
                          have n_50_3 := (nq_lt_n ly 2 (by omega) (by omega)).mp c_50_3
                          refine lv_aload_n hx hb dX3_choosePlan_53 rfl (lv_at hl 2 rfl) ?_
                          refine va_get (D := (dC, dI)) (ci := 3) (v := .ref g0) (C := RX3) (T := TX3) (N := 8) hx hb hts hin_X3 hown hK hP 0 rfl rfl 7 (by decide) hw_3 (fun _ h9 => h9) rfl dX3_choosePlan_54 ?_
                          refine lv_iload_n hx hb dX3_choosePlan_57 rfl (lv_at hl 1 rfl) ?_
                          refine lv_iload hx hb dX3_choosePlan_58 (lv_at hl 0 rfl) ?_
                          refine ra_iast hx hb hK hP hD hS 6 rfl 2 rfl (by omega) (Nat.le_of_ble_eq_true rfl) dX3_choosePlan_60 (fun H locs hP hD hS => ?_)
                          have hP : va_P (dC, dI) vwCl [ob q0 3 [.ref a0, .ref t0, .ref z0, .int isv, .ref d0, .ref e0, .int fz, .ref g0], ob a0 0 [.int (nI n), .ref a1, .ref a2, .ref a3, .ref a4, .int vs, .int vb, .int vd], ai a1 cyI 7 fh, ai a2 cyI 7 fg, ai a3 cyI 7 ff, ai a4 cyI 7 fk, ai g0 cyI 3 (upd (upd (upd fp 0 (nI (dg cd 0))) 1 (nI (dg cd 1))) 2 (nI (dg cd 2)))] H := hP
                          have hD : va_D A [ob q0 3 [.ref a0, .ref t0, .ref z0, .int isv, .ref d0, .ref e0, .int fz, .ref g0], ob a0 0 [.int (nI n), .ref a1, .ref a2, .ref a3, .ref a4, .int vs, .int vb, .int vd], ai a1 cyI 7 fh, ai a2 cyI 7 fg, ai a3 cyI 7 ff, ai a4 cyI 7 fk, ai g0 cyI 3 (upd (upd (upd fp 0 (nI (dg cd 0))) 1 (nI (dg cd 1))) 2 (nI (dg cd 2)))] := hD
                          refine lv_goto (tgt := 66) hx hb dX3_choosePlan_61 (by decide) ?_
                          refine lv_iinc (v := 3) (lv' := [(3, .int 3), (4, .int (nI (dg cd 2))), (0, .ref q0), (1, .int (nI cd)), (2, .int (nI ly))]) hx hb dX3_choosePlan_66 hl (k := 1) rfl (by decide) (by decide) rfl (fun ls hl => ?_)
                          refine lv_goto (tgt := 2) hx hb dX3_choosePlan_69 (by decide) ?_
                          refine lv_iload_n hx hb dX3_choosePlan_2 rfl (lv_at hl 0 rfl) ?_
                          refine lv_iconst (v := 3) hx hb dX3_choosePlan_3 (by decide) ?_
                          refine lv_icmp_ge (tgt := 72) hx hb dX3_choosePlan_4 (by decide) (fun c_4_4 => ?_) (fun c_4_4 => ?_)
                          · ---- to 72
                            refine lv_iconst (v := 1) hx hb dX3_choosePlan_72 (by decide) ?_
                            rw [hQ]
                            exact ra_iretW (upd (upd (upd fp 0 (nI (dg cd 0))) 1 (nI (dg cd 1))) 2 (nI (dg cd 2))) hx hb hr hlocks rfl hK hP hD hS ⟨(bj_t (by unfold okP okY; omega)).symm, fun _ y hy => by rcases (show y = 0 ∨ y = 1 ∨ y = 2 by omega) with rfl | rfl | rfl <;> (unfold dcd; first | (rw [if_pos (by omega)]; rfl) | (rw [if_neg (by omega)]; rfl))⟩ dX3_choosePlan_73
                          · ---- on
                            exact absurd c_4_4 (by decide)
                    · ---- on
                      have n_23_3 := (nq_eq (dg cd 2) 7 (by omega) (by omega)).mp c_23_3
                      refine lv_aload_n hx hb dX3_choosePlan_26 rfl (lv_at hl 2 rfl) ?_
                      refine va_get (D := (dC, dI)) (ci := 3) (v := .ref g0) (C := RX3) (T := TX3) (N := 8) hx hb hts hin_X3 hown hK hP 0 rfl rfl 7 (by decide) hw_3 (fun _ h9 => h9) rfl dX3_choosePlan_27 ?_
                      refine lv_iload_n hx hb dX3_choosePlan_30 rfl (lv_at hl 1 rfl) ?_
                      refine lv_iconst (v := (-1)) hx hb dX3_choosePlan_31 (by decide) ?_
                      refine ra_iast hx hb hK hP hD hS 6 rfl 2 rfl (by omega) (Nat.le_of_ble_eq_true rfl) dX3_choosePlan_32 (fun H locs hP hD hS => ?_)
                      have hP : va_P (dC, dI) vwCl [ob q0 3 [.ref a0, .ref t0, .ref z0, .int isv, .ref d0, .ref e0, .int fz, .ref g0], ob a0 0 [.int (nI n), .ref a1, .ref a2, .ref a3, .ref a4, .int vs, .int vb, .int vd], ai a1 cyI 7 fh, ai a2 cyI 7 fg, ai a3 cyI 7 ff, ai a4 cyI 7 fk, ai g0 cyI 3 (upd (upd (upd fp 0 (nI (dg cd 0))) 1 (nI (dg cd 1))) 2 (-1))] H := hP
                      have hD : va_D A [ob q0 3 [.ref a0, .ref t0, .ref z0, .int isv, .ref d0, .ref e0, .int fz, .ref g0], ob a0 0 [.int (nI n), .ref a1, .ref a2, .ref a3, .ref a4, .int vs, .int vb, .int vd], ai a1 cyI 7 fh, ai a2 cyI 7 fg, ai a3 cyI 7 ff, ai a4 cyI 7 fk, ai g0 cyI 3 (upd (upd (upd fp 0 (nI (dg cd 0))) 1 (nI (dg cd 1))) 2 (-1))] := hD
                      refine lv_goto (tgt := 66) hx hb dX3_choosePlan_33 (by decide) ?_
                      refine lv_iinc (v := 3) (lv' := [(3, .int 3), (4, .int (nI (dg cd 2))), (0, .ref q0), (1, .int (nI cd)), (2, .int (nI ly))]) hx hb dX3_choosePlan_66 hl (k := 1) rfl (by decide) (by decide) rfl (fun ls hl => ?_)
                      refine lv_goto (tgt := 2) hx hb dX3_choosePlan_69 (by decide) ?_
                      refine lv_iload_n hx hb dX3_choosePlan_2 rfl (lv_at hl 0 rfl) ?_
                      refine lv_iconst (v := 3) hx hb dX3_choosePlan_3 (by decide) ?_
                      refine lv_icmp_ge (tgt := 72) hx hb dX3_choosePlan_4 (by decide) (fun c_4_4 => ?_) (fun c_4_4 => ?_)
                      · ---- to 72
                        refine lv_iconst (v := 1) hx hb dX3_choosePlan_72 (by decide) ?_
                        rw [hQ]
                        exact ra_iretW (upd (upd (upd fp 0 (nI (dg cd 0))) 1 (nI (dg cd 1))) 2 (-1)) hx hb hr hlocks rfl hK hP hD hS ⟨(bj_t (by unfold okP okY; omega)).symm, fun _ y hy => by rcases (show y = 0 ∨ y = 1 ∨ y = 2 by omega) with rfl | rfl | rfl <;> (unfold dcd; first | (rw [if_pos (by omega)]; rfl) | (rw [if_neg (by omega)]; rfl))⟩ dX3_choosePlan_73
                      · ---- on
                        exact absurd c_4_4 (by decide)
            · ---- on
              have n_23_2 := (nq_eq (dg cd 1) 7 (by omega) (by omega)).mp c_23_2
              refine lv_aload_n hx hb dX3_choosePlan_26 rfl (lv_at hl 2 rfl) ?_
              refine va_get (D := (dC, dI)) (ci := 3) (v := .ref g0) (C := RX3) (T := TX3) (N := 8) hx hb hts hin_X3 hown hK hP 0 rfl rfl 7 (by decide) hw_3 (fun _ h9 => h9) rfl dX3_choosePlan_27 ?_
              refine lv_iload_n hx hb dX3_choosePlan_30 rfl (lv_at hl 1 rfl) ?_
              refine lv_iconst (v := (-1)) hx hb dX3_choosePlan_31 (by decide) ?_
              refine ra_iast hx hb hK hP hD hS 6 rfl 1 rfl (by omega) (Nat.le_of_ble_eq_true rfl) dX3_choosePlan_32 (fun H locs hP hD hS => ?_)
              have hP : va_P (dC, dI) vwCl [ob q0 3 [.ref a0, .ref t0, .ref z0, .int isv, .ref d0, .ref e0, .int fz, .ref g0], ob a0 0 [.int (nI n), .ref a1, .ref a2, .ref a3, .ref a4, .int vs, .int vb, .int vd], ai a1 cyI 7 fh, ai a2 cyI 7 fg, ai a3 cyI 7 ff, ai a4 cyI 7 fk, ai g0 cyI 3 (upd (upd fp 0 (nI (dg cd 0))) 1 (-1))] H := hP
              have hD : va_D A [ob q0 3 [.ref a0, .ref t0, .ref z0, .int isv, .ref d0, .ref e0, .int fz, .ref g0], ob a0 0 [.int (nI n), .ref a1, .ref a2, .ref a3, .ref a4, .int vs, .int vb, .int vd], ai a1 cyI 7 fh, ai a2 cyI 7 fg, ai a3 cyI 7 ff, ai a4 cyI 7 fk, ai g0 cyI 3 (upd (upd fp 0 (nI (dg cd 0))) 1 (-1))] := hD
              refine lv_goto (tgt := 66) hx hb dX3_choosePlan_33 (by decide) ?_
              refine lv_iinc (v := 2) (lv' := [(3, .int 2), (4, .int (nI (dg cd 1))), (0, .ref q0), (1, .int (nI cd)), (2, .int (nI ly))]) hx hb dX3_choosePlan_66 hl (k := 1) rfl (by decide) (by decide) rfl (fun ls hl => ?_)
              refine lv_goto (tgt := 2) hx hb dX3_choosePlan_69 (by decide) ?_
              refine lv_iload_n hx hb dX3_choosePlan_2 rfl (lv_at hl 0 rfl) ?_
              refine lv_iconst (v := 3) hx hb dX3_choosePlan_3 (by decide) ?_
              refine lv_icmp_ge (tgt := 72) hx hb dX3_choosePlan_4 (by decide) (fun c_4_3 => ?_) (fun c_4_3 => ?_)
              · ---- to 72
                exact absurd c_4_3 (by decide)
              · ---- on
                refine lv_iload_n hx hb dX3_choosePlan_7 rfl (lv_at hl 3 rfl) ?_
                refine lv_iconst (v := 3) hx hb dX3_choosePlan_8 (by decide) ?_
                refine lv_iconst (v := 2) hx hb dX3_choosePlan_9 (by decide) ?_
                refine lv_iload_n hx hb dX3_choosePlan_10 rfl (lv_at hl 0 rfl) ?_
                refine lv_isub hx hb dX3_choosePlan_11 ?_
                refine ra_top (0) (by decide) ?_
                refine lv_imul hx hb dX3_choosePlan_12 ?_
                refine ra_top (0) (by decide) ?_
                refine lv_ishr hx hb dX3_choosePlan_13 ?_
                refine lv_bipush (v := 7) hx hb dX3_choosePlan_14 (by decide) ?_
                refine lv_iand hx hb dX3_choosePlan_16 ?_
                refine ra_top (nI (dg cd 2)) (dg_2 hcd) ?_
                refine lv_istore (lv' := [(4, .int (nI (dg cd 2))), (3, .int 2), (0, .ref q0), (1, .int (nI cd)), (2, .int (nI ly))]) hx hb dX3_choosePlan_17 hl (by decide) rfl (fun ls hl => ?_)
                refine lv_iload hx hb dX3_choosePlan_19 (lv_at hl 0 rfl) ?_
                refine lv_bipush (v := 7) hx hb dX3_choosePlan_21 (by decide) ?_
                refine lv_icmp_ne (tgt := 36) hx hb dX3_choosePlan_23 (by decide) (fun c_23_3 => ?_) (fun c_23_3 => ?_)
                · ---- to 36
                  have n_23_3 := (nq_eq_n (dg cd 2) 7 (by omega) (by omega)).mp c_23_3
                  refine lv_aload_n hx hb dX3_choosePlan_36 rfl (lv_at hl 2 rfl) ?_
                  refine va_get (D := (dC, dI)) (ci := 3) (v := .ref a0) (C := RX3) (T := TX3) (N := 8) hx hb hts hin_X3 hown hK hP 0 rfl rfl 0 (by decide) hw_1 (fun _ h9 => h9) rfl dX3_choosePlan_37 ?_
                  refine lv_iload hx hb dX3_choosePlan_40 (lv_at hl 0 rfl) ?_
                  refine ra_cR (q := (RX0, TX0, 8)) (ci := 0) (As := [.int (nI (dg cd 2))]) (rest := []) (wc := [ob a0 0 [.int (nI n), .ref a1, .ref a2, .ref a3, .ref a4, .int vs, .int vb, .int vd], ai a1 cyI 7 fh, ai a2 cyI 7 fg, ai a3 cyI 7 ff, ai a4 cyI 7 fk]) ⟨hx, hb, hml, hown, hts⟩ (c_X0_has l dC dI cyI cyA a0 a1 a2 a3 a4 n fh fg ff fk vs vb vd (nI (dg cd 2)) ) (cwV 1 hts gX3_choosePlan_X0_has rfl rfl rfl (by decide +kernel) ⟨Nat.le_of_ble_eq_true rfl, Nat.le_of_ble_eq_true rfl⟩) hK hN hP [1, 2, 3, 4, 5] rfl rfl rfl rfl hl.1 rfl (Nat.le_of_ble_eq_true rfl) dX3_choosePlan_42 ⟨Nat.le_of_ble_eq_true rfl, Nat.le_of_ble_eq_true rfl⟩ ?_
                  refine lv_if_eq (tgt := 64) hx hb dX3_choosePlan_45 (by decide) (fun c_45_2 => ?_) (fun c_45_2 => ?_)
                  · ---- to 64
                    have c_45_2 := bi_0 c_45_2
                    have m_45_2 : n ≤ dg cd _ := Nat.not_lt.mp (fun q => c_45_2 ⟨nI_pos' (by omega), (nq_lt _ n (by omega) (by omega)).mpr q⟩)
                    refine lv_iconst (v := 0) hx hb dX3_choosePlan_64 (by decide) ?_
                    rw [hQ]
                    exact ra_iretW (upd (upd fp 0 (nI (dg cd 0))) 1 (-1)) hx hb hr hlocks rfl hK hP hD hS ⟨(bj_f (by unfold okP okY; omega)).symm, fun q => absurd q (by unfold okP okY; omega)⟩ dX3_choosePlan_65
                  · ---- on
                    have c_45_2 := bi_1 c_45_2
                    have m_45_2 := (nq_lt _ n (by omega) (by omega)).mp c_45_2.2
                    refine lv_iload_n hx hb dX3_choosePlan_48 rfl (lv_at hl 1 rfl) ?_
                    refine lv_iload_n hx hb dX3_choosePlan_49 rfl (lv_at hl 4 rfl) ?_
                    refine lv_icmp_gt (tgt := 64) hx hb dX3_choosePlan_50 (by decide) (fun c_50_2 => ?_) (fun c_50_2 => ?_)
                    · ---- to 64
                      have n_50_2 := (nq_lt ly 2 (by omega) (by omega)).mp c_50_2
                      refine lv_iconst (v := 0) hx hb dX3_choosePlan_64 (by decide) ?_
                      rw [hQ]
                      exact ra_iretW (upd (upd fp 0 (nI (dg cd 0))) 1 (-1)) hx hb hr hlocks rfl hK hP hD hS ⟨(bj_f (by unfold okP okY; omega)).symm, fun q => absurd q (by unfold okP okY; omega)⟩ dX3_choosePlan_65
                    · ---- on
                      have n_50_2 := (nq_lt_n ly 2 (by omega) (by omega)).mp c_50_2
                      refine lv_aload_n hx hb dX3_choosePlan_53 rfl (lv_at hl 2 rfl) ?_
                      refine va_get (D := (dC, dI)) (ci := 3) (v := .ref g0) (C := RX3) (T := TX3) (N := 8) hx hb hts hin_X3 hown hK hP 0 rfl rfl 7 (by decide) hw_3 (fun _ h9 => h9) rfl dX3_choosePlan_54 ?_
                      refine lv_iload_n hx hb dX3_choosePlan_57 rfl (lv_at hl 1 rfl) ?_
                      refine lv_iload hx hb dX3_choosePlan_58 (lv_at hl 0 rfl) ?_
                      refine ra_iast hx hb hK hP hD hS 6 rfl 2 rfl (by omega) (Nat.le_of_ble_eq_true rfl) dX3_choosePlan_60 (fun H locs hP hD hS => ?_)
                      have hP : va_P (dC, dI) vwCl [ob q0 3 [.ref a0, .ref t0, .ref z0, .int isv, .ref d0, .ref e0, .int fz, .ref g0], ob a0 0 [.int (nI n), .ref a1, .ref a2, .ref a3, .ref a4, .int vs, .int vb, .int vd], ai a1 cyI 7 fh, ai a2 cyI 7 fg, ai a3 cyI 7 ff, ai a4 cyI 7 fk, ai g0 cyI 3 (upd (upd (upd fp 0 (nI (dg cd 0))) 1 (-1)) 2 (nI (dg cd 2)))] H := hP
                      have hD : va_D A [ob q0 3 [.ref a0, .ref t0, .ref z0, .int isv, .ref d0, .ref e0, .int fz, .ref g0], ob a0 0 [.int (nI n), .ref a1, .ref a2, .ref a3, .ref a4, .int vs, .int vb, .int vd], ai a1 cyI 7 fh, ai a2 cyI 7 fg, ai a3 cyI 7 ff, ai a4 cyI 7 fk, ai g0 cyI 3 (upd (upd (upd fp 0 (nI (dg cd 0))) 1 (-1)) 2 (nI (dg cd 2)))] := hD
                      refine lv_goto (tgt := 66) hx hb dX3_choosePlan_61 (by decide) ?_
                      refine lv_iinc (v := 3) (lv' := [(3, .int 3), (4, .int (nI (dg cd 2))), (0, .ref q0), (1, .int (nI cd)), (2, .int (nI ly))]) hx hb dX3_choosePlan_66 hl (k := 1) rfl (by decide) (by decide) rfl (fun ls hl => ?_)
                      refine lv_goto (tgt := 2) hx hb dX3_choosePlan_69 (by decide) ?_
                      refine lv_iload_n hx hb dX3_choosePlan_2 rfl (lv_at hl 0 rfl) ?_
                      refine lv_iconst (v := 3) hx hb dX3_choosePlan_3 (by decide) ?_
                      refine lv_icmp_ge (tgt := 72) hx hb dX3_choosePlan_4 (by decide) (fun c_4_4 => ?_) (fun c_4_4 => ?_)
                      · ---- to 72
                        refine lv_iconst (v := 1) hx hb dX3_choosePlan_72 (by decide) ?_
                        rw [hQ]
                        exact ra_iretW (upd (upd (upd fp 0 (nI (dg cd 0))) 1 (-1)) 2 (nI (dg cd 2))) hx hb hr hlocks rfl hK hP hD hS ⟨(bj_t (by unfold okP okY; omega)).symm, fun _ y hy => by rcases (show y = 0 ∨ y = 1 ∨ y = 2 by omega) with rfl | rfl | rfl <;> (unfold dcd; first | (rw [if_pos (by omega)]; rfl) | (rw [if_neg (by omega)]; rfl))⟩ dX3_choosePlan_73
                      · ---- on
                        exact absurd c_4_4 (by decide)
                · ---- on
                  have n_23_3 := (nq_eq (dg cd 2) 7 (by omega) (by omega)).mp c_23_3
                  refine lv_aload_n hx hb dX3_choosePlan_26 rfl (lv_at hl 2 rfl) ?_
                  refine va_get (D := (dC, dI)) (ci := 3) (v := .ref g0) (C := RX3) (T := TX3) (N := 8) hx hb hts hin_X3 hown hK hP 0 rfl rfl 7 (by decide) hw_3 (fun _ h9 => h9) rfl dX3_choosePlan_27 ?_
                  refine lv_iload_n hx hb dX3_choosePlan_30 rfl (lv_at hl 1 rfl) ?_
                  refine lv_iconst (v := (-1)) hx hb dX3_choosePlan_31 (by decide) ?_
                  refine ra_iast hx hb hK hP hD hS 6 rfl 2 rfl (by omega) (Nat.le_of_ble_eq_true rfl) dX3_choosePlan_32 (fun H locs hP hD hS => ?_)
                  have hP : va_P (dC, dI) vwCl [ob q0 3 [.ref a0, .ref t0, .ref z0, .int isv, .ref d0, .ref e0, .int fz, .ref g0], ob a0 0 [.int (nI n), .ref a1, .ref a2, .ref a3, .ref a4, .int vs, .int vb, .int vd], ai a1 cyI 7 fh, ai a2 cyI 7 fg, ai a3 cyI 7 ff, ai a4 cyI 7 fk, ai g0 cyI 3 (upd (upd (upd fp 0 (nI (dg cd 0))) 1 (-1)) 2 (-1))] H := hP
                  have hD : va_D A [ob q0 3 [.ref a0, .ref t0, .ref z0, .int isv, .ref d0, .ref e0, .int fz, .ref g0], ob a0 0 [.int (nI n), .ref a1, .ref a2, .ref a3, .ref a4, .int vs, .int vb, .int vd], ai a1 cyI 7 fh, ai a2 cyI 7 fg, ai a3 cyI 7 ff, ai a4 cyI 7 fk, ai g0 cyI 3 (upd (upd (upd fp 0 (nI (dg cd 0))) 1 (-1)) 2 (-1))] := hD
                  refine lv_goto (tgt := 66) hx hb dX3_choosePlan_33 (by decide) ?_
                  refine lv_iinc (v := 3) (lv' := [(3, .int 3), (4, .int (nI (dg cd 2))), (0, .ref q0), (1, .int (nI cd)), (2, .int (nI ly))]) hx hb dX3_choosePlan_66 hl (k := 1) rfl (by decide) (by decide) rfl (fun ls hl => ?_)
                  refine lv_goto (tgt := 2) hx hb dX3_choosePlan_69 (by decide) ?_
                  refine lv_iload_n hx hb dX3_choosePlan_2 rfl (lv_at hl 0 rfl) ?_
                  refine lv_iconst (v := 3) hx hb dX3_choosePlan_3 (by decide) ?_
                  refine lv_icmp_ge (tgt := 72) hx hb dX3_choosePlan_4 (by decide) (fun c_4_4 => ?_) (fun c_4_4 => ?_)
                  · ---- to 72
                    refine lv_iconst (v := 1) hx hb dX3_choosePlan_72 (by decide) ?_
                    rw [hQ]
                    exact ra_iretW (upd (upd (upd fp 0 (nI (dg cd 0))) 1 (-1)) 2 (-1)) hx hb hr hlocks rfl hK hP hD hS ⟨(bj_t (by unfold okP okY; omega)).symm, fun _ y hy => by rcases (show y = 0 ∨ y = 1 ∨ y = 2 by omega) with rfl | rfl | rfl <;> (unfold dcd; first | (rw [if_pos (by omega)]; rfl) | (rw [if_neg (by omega)]; rfl))⟩ dX3_choosePlan_73
                  · ---- on
                    exact absurd c_4_4 (by decide)
    · ---- on
      have n_23 := (nq_eq (dg cd 0) 7 (by omega) (by omega)).mp c_23
      refine lv_aload_n hx hb dX3_choosePlan_26 rfl (lv_at hl 2 rfl) ?_
      refine va_get (D := (dC, dI)) (ci := 3) (v := .ref g0) (C := RX3) (T := TX3) (N := 8) hx hb hts hin_X3 hown hK hP 0 rfl rfl 7 (by decide) hw_3 (fun _ h9 => h9) rfl dX3_choosePlan_27 ?_
      refine lv_iload_n hx hb dX3_choosePlan_30 rfl (lv_at hl 1 rfl) ?_
      refine lv_iconst (v := (-1)) hx hb dX3_choosePlan_31 (by decide) ?_
      refine ra_iast hx hb hK hP hD hS 6 rfl 0 rfl (by omega) (Nat.le_of_ble_eq_true rfl) dX3_choosePlan_32 (fun H locs hP hD hS => ?_)
      have hP : va_P (dC, dI) vwCl [ob q0 3 [.ref a0, .ref t0, .ref z0, .int isv, .ref d0, .ref e0, .int fz, .ref g0], ob a0 0 [.int (nI n), .ref a1, .ref a2, .ref a3, .ref a4, .int vs, .int vb, .int vd], ai a1 cyI 7 fh, ai a2 cyI 7 fg, ai a3 cyI 7 ff, ai a4 cyI 7 fk, ai g0 cyI 3 (upd fp 0 (-1))] H := hP
      have hD : va_D A [ob q0 3 [.ref a0, .ref t0, .ref z0, .int isv, .ref d0, .ref e0, .int fz, .ref g0], ob a0 0 [.int (nI n), .ref a1, .ref a2, .ref a3, .ref a4, .int vs, .int vb, .int vd], ai a1 cyI 7 fh, ai a2 cyI 7 fg, ai a3 cyI 7 ff, ai a4 cyI 7 fk, ai g0 cyI 3 (upd fp 0 (-1))] := hD
      refine lv_goto (tgt := 66) hx hb dX3_choosePlan_33 (by decide) ?_
      refine lv_iinc (v := 1) (lv' := [(3, .int 1), (4, .int (nI (dg cd 0))), (0, .ref q0), (1, .int (nI cd)), (2, .int (nI ly))]) hx hb dX3_choosePlan_66 hl (k := 1) rfl (by decide) (by decide) rfl (fun ls hl => ?_)
      refine lv_goto (tgt := 2) hx hb dX3_choosePlan_69 (by decide) ?_
      refine lv_iload_n hx hb dX3_choosePlan_2 rfl (lv_at hl 0 rfl) ?_
      refine lv_iconst (v := 3) hx hb dX3_choosePlan_3 (by decide) ?_
      refine lv_icmp_ge (tgt := 72) hx hb dX3_choosePlan_4 (by decide) (fun c_4_2 => ?_) (fun c_4_2 => ?_)
      · ---- to 72
        exact absurd c_4_2 (by decide)
      · ---- on
        refine lv_iload_n hx hb dX3_choosePlan_7 rfl (lv_at hl 3 rfl) ?_
        refine lv_iconst (v := 3) hx hb dX3_choosePlan_8 (by decide) ?_
        refine lv_iconst (v := 2) hx hb dX3_choosePlan_9 (by decide) ?_
        refine lv_iload_n hx hb dX3_choosePlan_10 rfl (lv_at hl 0 rfl) ?_
        refine lv_isub hx hb dX3_choosePlan_11 ?_
        refine ra_top (1) (by decide) ?_
        refine lv_imul hx hb dX3_choosePlan_12 ?_
        refine ra_top (3) (by decide) ?_
        refine lv_ishr hx hb dX3_choosePlan_13 ?_
        refine lv_bipush (v := 7) hx hb dX3_choosePlan_14 (by decide) ?_
        refine lv_iand hx hb dX3_choosePlan_16 ?_
        refine ra_top (nI (dg cd 1)) (dg_1 hcd) ?_
        refine lv_istore (lv' := [(4, .int (nI (dg cd 1))), (3, .int 1), (0, .ref q0), (1, .int (nI cd)), (2, .int (nI ly))]) hx hb dX3_choosePlan_17 hl (by decide) rfl (fun ls hl => ?_)
        refine lv_iload hx hb dX3_choosePlan_19 (lv_at hl 0 rfl) ?_
        refine lv_bipush (v := 7) hx hb dX3_choosePlan_21 (by decide) ?_
        refine lv_icmp_ne (tgt := 36) hx hb dX3_choosePlan_23 (by decide) (fun c_23_2 => ?_) (fun c_23_2 => ?_)
        · ---- to 36
          have n_23_2 := (nq_eq_n (dg cd 1) 7 (by omega) (by omega)).mp c_23_2
          refine lv_aload_n hx hb dX3_choosePlan_36 rfl (lv_at hl 2 rfl) ?_
          refine va_get (D := (dC, dI)) (ci := 3) (v := .ref a0) (C := RX3) (T := TX3) (N := 8) hx hb hts hin_X3 hown hK hP 0 rfl rfl 0 (by decide) hw_1 (fun _ h9 => h9) rfl dX3_choosePlan_37 ?_
          refine lv_iload hx hb dX3_choosePlan_40 (lv_at hl 0 rfl) ?_
          refine ra_cR (q := (RX0, TX0, 8)) (ci := 0) (As := [.int (nI (dg cd 1))]) (rest := []) (wc := [ob a0 0 [.int (nI n), .ref a1, .ref a2, .ref a3, .ref a4, .int vs, .int vb, .int vd], ai a1 cyI 7 fh, ai a2 cyI 7 fg, ai a3 cyI 7 ff, ai a4 cyI 7 fk]) ⟨hx, hb, hml, hown, hts⟩ (c_X0_has l dC dI cyI cyA a0 a1 a2 a3 a4 n fh fg ff fk vs vb vd (nI (dg cd 1)) ) (cwV 1 hts gX3_choosePlan_X0_has rfl rfl rfl (by decide +kernel) ⟨Nat.le_of_ble_eq_true rfl, Nat.le_of_ble_eq_true rfl⟩) hK hN hP [1, 2, 3, 4, 5] rfl rfl rfl rfl hl.1 rfl (Nat.le_of_ble_eq_true rfl) dX3_choosePlan_42 ⟨Nat.le_of_ble_eq_true rfl, Nat.le_of_ble_eq_true rfl⟩ ?_
          refine lv_if_eq (tgt := 64) hx hb dX3_choosePlan_45 (by decide) (fun c_45 => ?_) (fun c_45 => ?_)
          · ---- to 64
            have c_45 := bi_0 c_45
            have m_45 : n ≤ dg cd _ := Nat.not_lt.mp (fun q => c_45 ⟨nI_pos' (by omega), (nq_lt _ n (by omega) (by omega)).mpr q⟩)
            refine lv_iconst (v := 0) hx hb dX3_choosePlan_64 (by decide) ?_
            rw [hQ]
            exact ra_iretW (upd fp 0 (-1)) hx hb hr hlocks rfl hK hP hD hS ⟨(bj_f (by unfold okP okY; omega)).symm, fun q => absurd q (by unfold okP okY; omega)⟩ dX3_choosePlan_65
          · ---- on
            have c_45 := bi_1 c_45
            have m_45 := (nq_lt _ n (by omega) (by omega)).mp c_45.2
            refine lv_iload_n hx hb dX3_choosePlan_48 rfl (lv_at hl 1 rfl) ?_
            refine lv_iload_n hx hb dX3_choosePlan_49 rfl (lv_at hl 4 rfl) ?_
            refine lv_icmp_gt (tgt := 64) hx hb dX3_choosePlan_50 (by decide) (fun c_50 => ?_) (fun c_50 => ?_)
            · ---- to 64
              have n_50 := (nq_lt ly 1 (by omega) (by omega)).mp c_50
              refine lv_iconst (v := 0) hx hb dX3_choosePlan_64 (by decide) ?_
              rw [hQ]
              exact ra_iretW (upd fp 0 (-1)) hx hb hr hlocks rfl hK hP hD hS ⟨(bj_f (by unfold okP okY; omega)).symm, fun q => absurd q (by unfold okP okY; omega)⟩ dX3_choosePlan_65
            · ---- on
              have n_50 := (nq_lt_n ly 1 (by omega) (by omega)).mp c_50
              refine lv_aload_n hx hb dX3_choosePlan_53 rfl (lv_at hl 2 rfl) ?_
              refine va_get (D := (dC, dI)) (ci := 3) (v := .ref g0) (C := RX3) (T := TX3) (N := 8) hx hb hts hin_X3 hown hK hP 0 rfl rfl 7 (by decide) hw_3 (fun _ h9 => h9) rfl dX3_choosePlan_54 ?_
              refine lv_iload_n hx hb dX3_choosePlan_57 rfl (lv_at hl 1 rfl) ?_
              refine lv_iload hx hb dX3_choosePlan_58 (lv_at hl 0 rfl) ?_
              refine ra_iast hx hb hK hP hD hS 6 rfl 1 rfl (by omega) (Nat.le_of_ble_eq_true rfl) dX3_choosePlan_60 (fun H locs hP hD hS => ?_)
              have hP : va_P (dC, dI) vwCl [ob q0 3 [.ref a0, .ref t0, .ref z0, .int isv, .ref d0, .ref e0, .int fz, .ref g0], ob a0 0 [.int (nI n), .ref a1, .ref a2, .ref a3, .ref a4, .int vs, .int vb, .int vd], ai a1 cyI 7 fh, ai a2 cyI 7 fg, ai a3 cyI 7 ff, ai a4 cyI 7 fk, ai g0 cyI 3 (upd (upd fp 0 (-1)) 1 (nI (dg cd 1)))] H := hP
              have hD : va_D A [ob q0 3 [.ref a0, .ref t0, .ref z0, .int isv, .ref d0, .ref e0, .int fz, .ref g0], ob a0 0 [.int (nI n), .ref a1, .ref a2, .ref a3, .ref a4, .int vs, .int vb, .int vd], ai a1 cyI 7 fh, ai a2 cyI 7 fg, ai a3 cyI 7 ff, ai a4 cyI 7 fk, ai g0 cyI 3 (upd (upd fp 0 (-1)) 1 (nI (dg cd 1)))] := hD
              refine lv_goto (tgt := 66) hx hb dX3_choosePlan_61 (by decide) ?_
              refine lv_iinc (v := 2) (lv' := [(3, .int 2), (4, .int (nI (dg cd 1))), (0, .ref q0), (1, .int (nI cd)), (2, .int (nI ly))]) hx hb dX3_choosePlan_66 hl (k := 1) rfl (by decide) (by decide) rfl (fun ls hl => ?_)
              refine lv_goto (tgt := 2) hx hb dX3_choosePlan_69 (by decide) ?_
              refine lv_iload_n hx hb dX3_choosePlan_2 rfl (lv_at hl 0 rfl) ?_
              refine lv_iconst (v := 3) hx hb dX3_choosePlan_3 (by decide) ?_
              refine lv_icmp_ge (tgt := 72) hx hb dX3_choosePlan_4 (by decide) (fun c_4_3 => ?_) (fun c_4_3 => ?_)
              · ---- to 72
                exact absurd c_4_3 (by decide)
              · ---- on
                refine lv_iload_n hx hb dX3_choosePlan_7 rfl (lv_at hl 3 rfl) ?_
                refine lv_iconst (v := 3) hx hb dX3_choosePlan_8 (by decide) ?_
                refine lv_iconst (v := 2) hx hb dX3_choosePlan_9 (by decide) ?_
                refine lv_iload_n hx hb dX3_choosePlan_10 rfl (lv_at hl 0 rfl) ?_
                refine lv_isub hx hb dX3_choosePlan_11 ?_
                refine ra_top (0) (by decide) ?_
                refine lv_imul hx hb dX3_choosePlan_12 ?_
                refine ra_top (0) (by decide) ?_
                refine lv_ishr hx hb dX3_choosePlan_13 ?_
                refine lv_bipush (v := 7) hx hb dX3_choosePlan_14 (by decide) ?_
                refine lv_iand hx hb dX3_choosePlan_16 ?_
                refine ra_top (nI (dg cd 2)) (dg_2 hcd) ?_
                refine lv_istore (lv' := [(4, .int (nI (dg cd 2))), (3, .int 2), (0, .ref q0), (1, .int (nI cd)), (2, .int (nI ly))]) hx hb dX3_choosePlan_17 hl (by decide) rfl (fun ls hl => ?_)
                refine lv_iload hx hb dX3_choosePlan_19 (lv_at hl 0 rfl) ?_
                refine lv_bipush (v := 7) hx hb dX3_choosePlan_21 (by decide) ?_
                refine lv_icmp_ne (tgt := 36) hx hb dX3_choosePlan_23 (by decide) (fun c_23_3 => ?_) (fun c_23_3 => ?_)
                · ---- to 36
                  have n_23_3 := (nq_eq_n (dg cd 2) 7 (by omega) (by omega)).mp c_23_3
                  refine lv_aload_n hx hb dX3_choosePlan_36 rfl (lv_at hl 2 rfl) ?_
                  refine va_get (D := (dC, dI)) (ci := 3) (v := .ref a0) (C := RX3) (T := TX3) (N := 8) hx hb hts hin_X3 hown hK hP 0 rfl rfl 0 (by decide) hw_1 (fun _ h9 => h9) rfl dX3_choosePlan_37 ?_
                  refine lv_iload hx hb dX3_choosePlan_40 (lv_at hl 0 rfl) ?_
                  refine ra_cR (q := (RX0, TX0, 8)) (ci := 0) (As := [.int (nI (dg cd 2))]) (rest := []) (wc := [ob a0 0 [.int (nI n), .ref a1, .ref a2, .ref a3, .ref a4, .int vs, .int vb, .int vd], ai a1 cyI 7 fh, ai a2 cyI 7 fg, ai a3 cyI 7 ff, ai a4 cyI 7 fk]) ⟨hx, hb, hml, hown, hts⟩ (c_X0_has l dC dI cyI cyA a0 a1 a2 a3 a4 n fh fg ff fk vs vb vd (nI (dg cd 2)) ) (cwV 1 hts gX3_choosePlan_X0_has rfl rfl rfl (by decide +kernel) ⟨Nat.le_of_ble_eq_true rfl, Nat.le_of_ble_eq_true rfl⟩) hK hN hP [1, 2, 3, 4, 5] rfl rfl rfl rfl hl.1 rfl (Nat.le_of_ble_eq_true rfl) dX3_choosePlan_42 ⟨Nat.le_of_ble_eq_true rfl, Nat.le_of_ble_eq_true rfl⟩ ?_
                  refine lv_if_eq (tgt := 64) hx hb dX3_choosePlan_45 (by decide) (fun c_45_2 => ?_) (fun c_45_2 => ?_)
                  · ---- to 64
                    have c_45_2 := bi_0 c_45_2
                    have m_45_2 : n ≤ dg cd _ := Nat.not_lt.mp (fun q => c_45_2 ⟨nI_pos' (by omega), (nq_lt _ n (by omega) (by omega)).mpr q⟩)
                    refine lv_iconst (v := 0) hx hb dX3_choosePlan_64 (by decide) ?_
                    rw [hQ]
                    exact ra_iretW (upd (upd fp 0 (-1)) 1 (nI (dg cd 1))) hx hb hr hlocks rfl hK hP hD hS ⟨(bj_f (by unfold okP okY; omega)).symm, fun q => absurd q (by unfold okP okY; omega)⟩ dX3_choosePlan_65
                  · ---- on
                    have c_45_2 := bi_1 c_45_2
                    have m_45_2 := (nq_lt _ n (by omega) (by omega)).mp c_45_2.2
                    refine lv_iload_n hx hb dX3_choosePlan_48 rfl (lv_at hl 1 rfl) ?_
                    refine lv_iload_n hx hb dX3_choosePlan_49 rfl (lv_at hl 4 rfl) ?_
                    refine lv_icmp_gt (tgt := 64) hx hb dX3_choosePlan_50 (by decide) (fun c_50_2 => ?_) (fun c_50_2 => ?_)
                    · ---- to 64
                      have n_50_2 := (nq_lt ly 2 (by omega) (by omega)).mp c_50_2
                      refine lv_iconst (v := 0) hx hb dX3_choosePlan_64 (by decide) ?_
                      rw [hQ]
                      exact ra_iretW (upd (upd fp 0 (-1)) 1 (nI (dg cd 1))) hx hb hr hlocks rfl hK hP hD hS ⟨(bj_f (by unfold okP okY; omega)).symm, fun q => absurd q (by unfold okP okY; omega)⟩ dX3_choosePlan_65
                    · ---- on
                      have n_50_2 := (nq_lt_n ly 2 (by omega) (by omega)).mp c_50_2
                      refine lv_aload_n hx hb dX3_choosePlan_53 rfl (lv_at hl 2 rfl) ?_
                      refine va_get (D := (dC, dI)) (ci := 3) (v := .ref g0) (C := RX3) (T := TX3) (N := 8) hx hb hts hin_X3 hown hK hP 0 rfl rfl 7 (by decide) hw_3 (fun _ h9 => h9) rfl dX3_choosePlan_54 ?_
                      refine lv_iload_n hx hb dX3_choosePlan_57 rfl (lv_at hl 1 rfl) ?_
                      refine lv_iload hx hb dX3_choosePlan_58 (lv_at hl 0 rfl) ?_
                      refine ra_iast hx hb hK hP hD hS 6 rfl 2 rfl (by omega) (Nat.le_of_ble_eq_true rfl) dX3_choosePlan_60 (fun H locs hP hD hS => ?_)
                      have hP : va_P (dC, dI) vwCl [ob q0 3 [.ref a0, .ref t0, .ref z0, .int isv, .ref d0, .ref e0, .int fz, .ref g0], ob a0 0 [.int (nI n), .ref a1, .ref a2, .ref a3, .ref a4, .int vs, .int vb, .int vd], ai a1 cyI 7 fh, ai a2 cyI 7 fg, ai a3 cyI 7 ff, ai a4 cyI 7 fk, ai g0 cyI 3 (upd (upd (upd fp 0 (-1)) 1 (nI (dg cd 1))) 2 (nI (dg cd 2)))] H := hP
                      have hD : va_D A [ob q0 3 [.ref a0, .ref t0, .ref z0, .int isv, .ref d0, .ref e0, .int fz, .ref g0], ob a0 0 [.int (nI n), .ref a1, .ref a2, .ref a3, .ref a4, .int vs, .int vb, .int vd], ai a1 cyI 7 fh, ai a2 cyI 7 fg, ai a3 cyI 7 ff, ai a4 cyI 7 fk, ai g0 cyI 3 (upd (upd (upd fp 0 (-1)) 1 (nI (dg cd 1))) 2 (nI (dg cd 2)))] := hD
                      refine lv_goto (tgt := 66) hx hb dX3_choosePlan_61 (by decide) ?_
                      refine lv_iinc (v := 3) (lv' := [(3, .int 3), (4, .int (nI (dg cd 2))), (0, .ref q0), (1, .int (nI cd)), (2, .int (nI ly))]) hx hb dX3_choosePlan_66 hl (k := 1) rfl (by decide) (by decide) rfl (fun ls hl => ?_)
                      refine lv_goto (tgt := 2) hx hb dX3_choosePlan_69 (by decide) ?_
                      refine lv_iload_n hx hb dX3_choosePlan_2 rfl (lv_at hl 0 rfl) ?_
                      refine lv_iconst (v := 3) hx hb dX3_choosePlan_3 (by decide) ?_
                      refine lv_icmp_ge (tgt := 72) hx hb dX3_choosePlan_4 (by decide) (fun c_4_4 => ?_) (fun c_4_4 => ?_)
                      · ---- to 72
                        refine lv_iconst (v := 1) hx hb dX3_choosePlan_72 (by decide) ?_
                        rw [hQ]
                        exact ra_iretW (upd (upd (upd fp 0 (-1)) 1 (nI (dg cd 1))) 2 (nI (dg cd 2))) hx hb hr hlocks rfl hK hP hD hS ⟨(bj_t (by unfold okP okY; omega)).symm, fun _ y hy => by rcases (show y = 0 ∨ y = 1 ∨ y = 2 by omega) with rfl | rfl | rfl <;> (unfold dcd; first | (rw [if_pos (by omega)]; rfl) | (rw [if_neg (by omega)]; rfl))⟩ dX3_choosePlan_73
                      · ---- on
                        exact absurd c_4_4 (by decide)
                · ---- on
                  have n_23_3 := (nq_eq (dg cd 2) 7 (by omega) (by omega)).mp c_23_3
                  refine lv_aload_n hx hb dX3_choosePlan_26 rfl (lv_at hl 2 rfl) ?_
                  refine va_get (D := (dC, dI)) (ci := 3) (v := .ref g0) (C := RX3) (T := TX3) (N := 8) hx hb hts hin_X3 hown hK hP 0 rfl rfl 7 (by decide) hw_3 (fun _ h9 => h9) rfl dX3_choosePlan_27 ?_
                  refine lv_iload_n hx hb dX3_choosePlan_30 rfl (lv_at hl 1 rfl) ?_
                  refine lv_iconst (v := (-1)) hx hb dX3_choosePlan_31 (by decide) ?_
                  refine ra_iast hx hb hK hP hD hS 6 rfl 2 rfl (by omega) (Nat.le_of_ble_eq_true rfl) dX3_choosePlan_32 (fun H locs hP hD hS => ?_)
                  have hP : va_P (dC, dI) vwCl [ob q0 3 [.ref a0, .ref t0, .ref z0, .int isv, .ref d0, .ref e0, .int fz, .ref g0], ob a0 0 [.int (nI n), .ref a1, .ref a2, .ref a3, .ref a4, .int vs, .int vb, .int vd], ai a1 cyI 7 fh, ai a2 cyI 7 fg, ai a3 cyI 7 ff, ai a4 cyI 7 fk, ai g0 cyI 3 (upd (upd (upd fp 0 (-1)) 1 (nI (dg cd 1))) 2 (-1))] H := hP
                  have hD : va_D A [ob q0 3 [.ref a0, .ref t0, .ref z0, .int isv, .ref d0, .ref e0, .int fz, .ref g0], ob a0 0 [.int (nI n), .ref a1, .ref a2, .ref a3, .ref a4, .int vs, .int vb, .int vd], ai a1 cyI 7 fh, ai a2 cyI 7 fg, ai a3 cyI 7 ff, ai a4 cyI 7 fk, ai g0 cyI 3 (upd (upd (upd fp 0 (-1)) 1 (nI (dg cd 1))) 2 (-1))] := hD
                  refine lv_goto (tgt := 66) hx hb dX3_choosePlan_33 (by decide) ?_
                  refine lv_iinc (v := 3) (lv' := [(3, .int 3), (4, .int (nI (dg cd 2))), (0, .ref q0), (1, .int (nI cd)), (2, .int (nI ly))]) hx hb dX3_choosePlan_66 hl (k := 1) rfl (by decide) (by decide) rfl (fun ls hl => ?_)
                  refine lv_goto (tgt := 2) hx hb dX3_choosePlan_69 (by decide) ?_
                  refine lv_iload_n hx hb dX3_choosePlan_2 rfl (lv_at hl 0 rfl) ?_
                  refine lv_iconst (v := 3) hx hb dX3_choosePlan_3 (by decide) ?_
                  refine lv_icmp_ge (tgt := 72) hx hb dX3_choosePlan_4 (by decide) (fun c_4_4 => ?_) (fun c_4_4 => ?_)
                  · ---- to 72
                    refine lv_iconst (v := 1) hx hb dX3_choosePlan_72 (by decide) ?_
                    rw [hQ]
                    exact ra_iretW (upd (upd (upd fp 0 (-1)) 1 (nI (dg cd 1))) 2 (-1)) hx hb hr hlocks rfl hK hP hD hS ⟨(bj_t (by unfold okP okY; omega)).symm, fun _ y hy => by rcases (show y = 0 ∨ y = 1 ∨ y = 2 by omega) with rfl | rfl | rfl <;> (unfold dcd; first | (rw [if_pos (by omega)]; rfl) | (rw [if_neg (by omega)]; rfl))⟩ dX3_choosePlan_73
                  · ---- on
                    exact absurd c_4_4 (by decide)
        · ---- on
          have n_23_2 := (nq_eq (dg cd 1) 7 (by omega) (by omega)).mp c_23_2
          refine lv_aload_n hx hb dX3_choosePlan_26 rfl (lv_at hl 2 rfl) ?_
          refine va_get (D := (dC, dI)) (ci := 3) (v := .ref g0) (C := RX3) (T := TX3) (N := 8) hx hb hts hin_X3 hown hK hP 0 rfl rfl 7 (by decide) hw_3 (fun _ h9 => h9) rfl dX3_choosePlan_27 ?_
          refine lv_iload_n hx hb dX3_choosePlan_30 rfl (lv_at hl 1 rfl) ?_
          refine lv_iconst (v := (-1)) hx hb dX3_choosePlan_31 (by decide) ?_
          refine ra_iast hx hb hK hP hD hS 6 rfl 1 rfl (by omega) (Nat.le_of_ble_eq_true rfl) dX3_choosePlan_32 (fun H locs hP hD hS => ?_)
          have hP : va_P (dC, dI) vwCl [ob q0 3 [.ref a0, .ref t0, .ref z0, .int isv, .ref d0, .ref e0, .int fz, .ref g0], ob a0 0 [.int (nI n), .ref a1, .ref a2, .ref a3, .ref a4, .int vs, .int vb, .int vd], ai a1 cyI 7 fh, ai a2 cyI 7 fg, ai a3 cyI 7 ff, ai a4 cyI 7 fk, ai g0 cyI 3 (upd (upd fp 0 (-1)) 1 (-1))] H := hP
          have hD : va_D A [ob q0 3 [.ref a0, .ref t0, .ref z0, .int isv, .ref d0, .ref e0, .int fz, .ref g0], ob a0 0 [.int (nI n), .ref a1, .ref a2, .ref a3, .ref a4, .int vs, .int vb, .int vd], ai a1 cyI 7 fh, ai a2 cyI 7 fg, ai a3 cyI 7 ff, ai a4 cyI 7 fk, ai g0 cyI 3 (upd (upd fp 0 (-1)) 1 (-1))] := hD
          refine lv_goto (tgt := 66) hx hb dX3_choosePlan_33 (by decide) ?_
          refine lv_iinc (v := 2) (lv' := [(3, .int 2), (4, .int (nI (dg cd 1))), (0, .ref q0), (1, .int (nI cd)), (2, .int (nI ly))]) hx hb dX3_choosePlan_66 hl (k := 1) rfl (by decide) (by decide) rfl (fun ls hl => ?_)
          refine lv_goto (tgt := 2) hx hb dX3_choosePlan_69 (by decide) ?_
          refine lv_iload_n hx hb dX3_choosePlan_2 rfl (lv_at hl 0 rfl) ?_
          refine lv_iconst (v := 3) hx hb dX3_choosePlan_3 (by decide) ?_
          refine lv_icmp_ge (tgt := 72) hx hb dX3_choosePlan_4 (by decide) (fun c_4_3 => ?_) (fun c_4_3 => ?_)
          · ---- to 72
            exact absurd c_4_3 (by decide)
          · ---- on
            refine lv_iload_n hx hb dX3_choosePlan_7 rfl (lv_at hl 3 rfl) ?_
            refine lv_iconst (v := 3) hx hb dX3_choosePlan_8 (by decide) ?_
            refine lv_iconst (v := 2) hx hb dX3_choosePlan_9 (by decide) ?_
            refine lv_iload_n hx hb dX3_choosePlan_10 rfl (lv_at hl 0 rfl) ?_
            refine lv_isub hx hb dX3_choosePlan_11 ?_
            refine ra_top (0) (by decide) ?_
            refine lv_imul hx hb dX3_choosePlan_12 ?_
            refine ra_top (0) (by decide) ?_
            refine lv_ishr hx hb dX3_choosePlan_13 ?_
            refine lv_bipush (v := 7) hx hb dX3_choosePlan_14 (by decide) ?_
            refine lv_iand hx hb dX3_choosePlan_16 ?_
            refine ra_top (nI (dg cd 2)) (dg_2 hcd) ?_
            refine lv_istore (lv' := [(4, .int (nI (dg cd 2))), (3, .int 2), (0, .ref q0), (1, .int (nI cd)), (2, .int (nI ly))]) hx hb dX3_choosePlan_17 hl (by decide) rfl (fun ls hl => ?_)
            refine lv_iload hx hb dX3_choosePlan_19 (lv_at hl 0 rfl) ?_
            refine lv_bipush (v := 7) hx hb dX3_choosePlan_21 (by decide) ?_
            refine lv_icmp_ne (tgt := 36) hx hb dX3_choosePlan_23 (by decide) (fun c_23_3 => ?_) (fun c_23_3 => ?_)
            · ---- to 36
              have n_23_3 := (nq_eq_n (dg cd 2) 7 (by omega) (by omega)).mp c_23_3
              refine lv_aload_n hx hb dX3_choosePlan_36 rfl (lv_at hl 2 rfl) ?_
              refine va_get (D := (dC, dI)) (ci := 3) (v := .ref a0) (C := RX3) (T := TX3) (N := 8) hx hb hts hin_X3 hown hK hP 0 rfl rfl 0 (by decide) hw_1 (fun _ h9 => h9) rfl dX3_choosePlan_37 ?_
              refine lv_iload hx hb dX3_choosePlan_40 (lv_at hl 0 rfl) ?_
              refine ra_cR (q := (RX0, TX0, 8)) (ci := 0) (As := [.int (nI (dg cd 2))]) (rest := []) (wc := [ob a0 0 [.int (nI n), .ref a1, .ref a2, .ref a3, .ref a4, .int vs, .int vb, .int vd], ai a1 cyI 7 fh, ai a2 cyI 7 fg, ai a3 cyI 7 ff, ai a4 cyI 7 fk]) ⟨hx, hb, hml, hown, hts⟩ (c_X0_has l dC dI cyI cyA a0 a1 a2 a3 a4 n fh fg ff fk vs vb vd (nI (dg cd 2)) ) (cwV 1 hts gX3_choosePlan_X0_has rfl rfl rfl (by decide +kernel) ⟨Nat.le_of_ble_eq_true rfl, Nat.le_of_ble_eq_true rfl⟩) hK hN hP [1, 2, 3, 4, 5] rfl rfl rfl rfl hl.1 rfl (Nat.le_of_ble_eq_true rfl) dX3_choosePlan_42 ⟨Nat.le_of_ble_eq_true rfl, Nat.le_of_ble_eq_true rfl⟩ ?_
              refine lv_if_eq (tgt := 64) hx hb dX3_choosePlan_45 (by decide) (fun c_45 => ?_) (fun c_45 => ?_)
              · ---- to 64
                have c_45 := bi_0 c_45
                have m_45 : n ≤ dg cd _ := Nat.not_lt.mp (fun q => c_45 ⟨nI_pos' (by omega), (nq_lt _ n (by omega) (by omega)).mpr q⟩)
                refine lv_iconst (v := 0) hx hb dX3_choosePlan_64 (by decide) ?_
                rw [hQ]
                exact ra_iretW (upd (upd fp 0 (-1)) 1 (-1)) hx hb hr hlocks rfl hK hP hD hS ⟨(bj_f (by unfold okP okY; omega)).symm, fun q => absurd q (by unfold okP okY; omega)⟩ dX3_choosePlan_65
              · ---- on
                have c_45 := bi_1 c_45
                have m_45 := (nq_lt _ n (by omega) (by omega)).mp c_45.2
                refine lv_iload_n hx hb dX3_choosePlan_48 rfl (lv_at hl 1 rfl) ?_
                refine lv_iload_n hx hb dX3_choosePlan_49 rfl (lv_at hl 4 rfl) ?_
                refine lv_icmp_gt (tgt := 64) hx hb dX3_choosePlan_50 (by decide) (fun c_50 => ?_) (fun c_50 => ?_)
                · ---- to 64
                  have n_50 := (nq_lt ly 2 (by omega) (by omega)).mp c_50
                  refine lv_iconst (v := 0) hx hb dX3_choosePlan_64 (by decide) ?_
                  rw [hQ]
                  exact ra_iretW (upd (upd fp 0 (-1)) 1 (-1)) hx hb hr hlocks rfl hK hP hD hS ⟨(bj_f (by unfold okP okY; omega)).symm, fun q => absurd q (by unfold okP okY; omega)⟩ dX3_choosePlan_65
                · ---- on
                  have n_50 := (nq_lt_n ly 2 (by omega) (by omega)).mp c_50
                  refine lv_aload_n hx hb dX3_choosePlan_53 rfl (lv_at hl 2 rfl) ?_
                  refine va_get (D := (dC, dI)) (ci := 3) (v := .ref g0) (C := RX3) (T := TX3) (N := 8) hx hb hts hin_X3 hown hK hP 0 rfl rfl 7 (by decide) hw_3 (fun _ h9 => h9) rfl dX3_choosePlan_54 ?_
                  refine lv_iload_n hx hb dX3_choosePlan_57 rfl (lv_at hl 1 rfl) ?_
                  refine lv_iload hx hb dX3_choosePlan_58 (lv_at hl 0 rfl) ?_
                  refine ra_iast hx hb hK hP hD hS 6 rfl 2 rfl (by omega) (Nat.le_of_ble_eq_true rfl) dX3_choosePlan_60 (fun H locs hP hD hS => ?_)
                  have hP : va_P (dC, dI) vwCl [ob q0 3 [.ref a0, .ref t0, .ref z0, .int isv, .ref d0, .ref e0, .int fz, .ref g0], ob a0 0 [.int (nI n), .ref a1, .ref a2, .ref a3, .ref a4, .int vs, .int vb, .int vd], ai a1 cyI 7 fh, ai a2 cyI 7 fg, ai a3 cyI 7 ff, ai a4 cyI 7 fk, ai g0 cyI 3 (upd (upd (upd fp 0 (-1)) 1 (-1)) 2 (nI (dg cd 2)))] H := hP
                  have hD : va_D A [ob q0 3 [.ref a0, .ref t0, .ref z0, .int isv, .ref d0, .ref e0, .int fz, .ref g0], ob a0 0 [.int (nI n), .ref a1, .ref a2, .ref a3, .ref a4, .int vs, .int vb, .int vd], ai a1 cyI 7 fh, ai a2 cyI 7 fg, ai a3 cyI 7 ff, ai a4 cyI 7 fk, ai g0 cyI 3 (upd (upd (upd fp 0 (-1)) 1 (-1)) 2 (nI (dg cd 2)))] := hD
                  refine lv_goto (tgt := 66) hx hb dX3_choosePlan_61 (by decide) ?_
                  refine lv_iinc (v := 3) (lv' := [(3, .int 3), (4, .int (nI (dg cd 2))), (0, .ref q0), (1, .int (nI cd)), (2, .int (nI ly))]) hx hb dX3_choosePlan_66 hl (k := 1) rfl (by decide) (by decide) rfl (fun ls hl => ?_)
                  refine lv_goto (tgt := 2) hx hb dX3_choosePlan_69 (by decide) ?_
                  refine lv_iload_n hx hb dX3_choosePlan_2 rfl (lv_at hl 0 rfl) ?_
                  refine lv_iconst (v := 3) hx hb dX3_choosePlan_3 (by decide) ?_
                  refine lv_icmp_ge (tgt := 72) hx hb dX3_choosePlan_4 (by decide) (fun c_4_4 => ?_) (fun c_4_4 => ?_)
                  · ---- to 72
                    refine lv_iconst (v := 1) hx hb dX3_choosePlan_72 (by decide) ?_
                    rw [hQ]
                    exact ra_iretW (upd (upd (upd fp 0 (-1)) 1 (-1)) 2 (nI (dg cd 2))) hx hb hr hlocks rfl hK hP hD hS ⟨(bj_t (by unfold okP okY; omega)).symm, fun _ y hy => by rcases (show y = 0 ∨ y = 1 ∨ y = 2 by omega) with rfl | rfl | rfl <;> (unfold dcd; first | (rw [if_pos (by omega)]; rfl) | (rw [if_neg (by omega)]; rfl))⟩ dX3_choosePlan_73
                  · ---- on
                    exact absurd c_4_4 (by decide)
            · ---- on
              have n_23_3 := (nq_eq (dg cd 2) 7 (by omega) (by omega)).mp c_23_3
              refine lv_aload_n hx hb dX3_choosePlan_26 rfl (lv_at hl 2 rfl) ?_
              refine va_get (D := (dC, dI)) (ci := 3) (v := .ref g0) (C := RX3) (T := TX3) (N := 8) hx hb hts hin_X3 hown hK hP 0 rfl rfl 7 (by decide) hw_3 (fun _ h9 => h9) rfl dX3_choosePlan_27 ?_
              refine lv_iload_n hx hb dX3_choosePlan_30 rfl (lv_at hl 1 rfl) ?_
              refine lv_iconst (v := (-1)) hx hb dX3_choosePlan_31 (by decide) ?_
              refine ra_iast hx hb hK hP hD hS 6 rfl 2 rfl (by omega) (Nat.le_of_ble_eq_true rfl) dX3_choosePlan_32 (fun H locs hP hD hS => ?_)
              have hP : va_P (dC, dI) vwCl [ob q0 3 [.ref a0, .ref t0, .ref z0, .int isv, .ref d0, .ref e0, .int fz, .ref g0], ob a0 0 [.int (nI n), .ref a1, .ref a2, .ref a3, .ref a4, .int vs, .int vb, .int vd], ai a1 cyI 7 fh, ai a2 cyI 7 fg, ai a3 cyI 7 ff, ai a4 cyI 7 fk, ai g0 cyI 3 (upd (upd (upd fp 0 (-1)) 1 (-1)) 2 (-1))] H := hP
              have hD : va_D A [ob q0 3 [.ref a0, .ref t0, .ref z0, .int isv, .ref d0, .ref e0, .int fz, .ref g0], ob a0 0 [.int (nI n), .ref a1, .ref a2, .ref a3, .ref a4, .int vs, .int vb, .int vd], ai a1 cyI 7 fh, ai a2 cyI 7 fg, ai a3 cyI 7 ff, ai a4 cyI 7 fk, ai g0 cyI 3 (upd (upd (upd fp 0 (-1)) 1 (-1)) 2 (-1))] := hD
              refine lv_goto (tgt := 66) hx hb dX3_choosePlan_33 (by decide) ?_
              refine lv_iinc (v := 3) (lv' := [(3, .int 3), (4, .int (nI (dg cd 2))), (0, .ref q0), (1, .int (nI cd)), (2, .int (nI ly))]) hx hb dX3_choosePlan_66 hl (k := 1) rfl (by decide) (by decide) rfl (fun ls hl => ?_)
              refine lv_goto (tgt := 2) hx hb dX3_choosePlan_69 (by decide) ?_
              refine lv_iload_n hx hb dX3_choosePlan_2 rfl (lv_at hl 0 rfl) ?_
              refine lv_iconst (v := 3) hx hb dX3_choosePlan_3 (by decide) ?_
              refine lv_icmp_ge (tgt := 72) hx hb dX3_choosePlan_4 (by decide) (fun c_4_4 => ?_) (fun c_4_4 => ?_)
              · ---- to 72
                refine lv_iconst (v := 1) hx hb dX3_choosePlan_72 (by decide) ?_
                rw [hQ]
                exact ra_iretW (upd (upd (upd fp 0 (-1)) 1 (-1)) 2 (-1)) hx hb hr hlocks rfl hK hP hD hS ⟨(bj_t (by unfold okP okY; omega)).symm, fun _ y hy => by rcases (show y = 0 ∨ y = 1 ∨ y = 2 by omega) with rfl | rfl | rfl <;> (unfold dcd; first | (rw [if_pos (by omega)]; rfl) | (rw [if_neg (by omega)]; rfl))⟩ dX3_choosePlan_73
              · ---- on
                exact absurd c_4_4 (by decide)

set_option maxHeartbeats 4000000 in
set_option maxRecDepth 100000 in
theorem c_X3_worstCrest (l : Launch) (dC : Nat → ClassId) (dI : Nat → Nat → Nat) (cyI cyA : ClassId) (q0 z0 e0 g0 : Nat) (isv fz : Int32) (a0 a1 a2 a3 a4 n : Nat) (fh fg ff fk : FN) (vs vb vd : Int32) (t0 t1 t2 t3 t4 tn : Nat) (th tg tf tk : FN) (ts tb td : Int32) (d0 d1 d2 d3 : Nat) (ct : Nat → Nat) (k0 k1 k2 v0 v1 v2 : Nat) (kd vl : Nat → FN) (fp : FN) (fo : Int32) (hn : n ≤ 7) (hct : ∀ w, w < 3 → ct w ≤ 12) (sz : Nat) : Met l yX3_worstCrest wsX3_worstCrest (rm 4) (kW dC dI cyI cyA [.ref q0, .int fo] sz [ob q0 3 [.ref a0, .ref t0, .ref z0, .int isv, .ref d0, .ref e0, .int fz, .ref g0], ob a0 0 [.int (nI n), .ref a1, .ref a2, .ref a3, .ref a4, .int vs, .int vb, .int vd], ai a1 cyI 7 fh, ai a2 cyI 7 fg, ai a3 cyI 7 ff, ai a4 cyI 7 fk, ob t0 0 [.int (nI tn), .ref t1, .ref t2, .ref t3, .ref t4, .int ts, .int tb, .int td], ai t1 cyI 7 th, ai t2 cyI 7 tg, ai t3 cyI 7 tf, ai t4 cyI 7 tk, ob d0 2 [.ref d1, .ref d2, .ref d3], ai d1 cyI 3 (nF ct), aa d2 cyA 3 (r3 k0 k1 k2), aa d3 cyA 3 (r3 v0 v1 v2), ai k0 cyI 12 (kd 0), ai k1 cyI 12 (kd 1), ai k2 cyI 12 (kd 2), ai v0 cyI 12 (vl 0), ai v1 cyI 12 (vl 1), ai v2 cyI 12 (vl 2), ai g0 cyI 3 fp]) (qI dC dI cyI cyA (fun (r : Int32) (u : Nat × FN × FN × FN × FN × Int32 × Int32 × Int32) => match u with | (xn, xh, xg, xf, xk, xs, xb, xd) => r = wCr ct (crW phc psc nuc n fz ct kd vl fh fg ff fk vs vb fp) (flW phc psc nuc n fz ct kd vl fh fg ff fk vs vb fp) fo) (va_A [ob q0 3 [.ref a0, .ref t0, .ref z0, .int isv, .ref d0, .ref e0, .int fz, .ref g0], ob a0 0 [.int (nI n), .ref a1, .ref a2, .ref a3, .ref a4, .int vs, .int vb, .int vd], ai a1 cyI 7 fh, ai a2 cyI 7 fg, ai a3 cyI 7 ff, ai a4 cyI 7 fk, ob t0 0 [.int (nI tn), .ref t1, .ref t2, .ref t3, .ref t4, .int ts, .int tb, .int td], ai t1 cyI 7 th, ai t2 cyI 7 tg, ai t3 cyI 7 tf, ai t4 cyI 7 tk, ob d0 2 [.ref d1, .ref d2, .ref d3], ai d1 cyI 3 (nF ct), aa d2 cyA 3 (r3 k0 k1 k2), aa d3 cyA 3 (r3 v0 v1 v2), ai k0 cyI 12 (kd 0), ai k1 cyI 12 (kd 1), ai k2 cyI 12 (kd 2), ai v0 cyI 12 (vl 0), ai v1 cyI 12 (vl 1), ai v2 cyI 12 (vl 2), ai g0 cyI 3 fp] sz) (fun u : Nat × FN × FN × FN × FN × Int32 × Int32 × Int32 => match u with | (xn, xh, xg, xf, xk, xs, xb, xd) => [ob q0 3 [.ref a0, .ref t0, .ref z0, .int isv, .ref d0, .ref e0, .int fz, .ref g0], ob a0 0 [.int (nI n), .ref a1, .ref a2, .ref a3, .ref a4, .int vs, .int vb, .int vd], ai a1 cyI 7 fh, ai a2 cyI 7 fg, ai a3 cyI 7 ff, ai a4 cyI 7 fk, ob t0 0 [.int (nI xn), .ref t1, .ref t2, .ref t3, .ref t4, .int xs, .int xb, .int xd], ai t1 cyI 7 xh, ai t2 cyI 7 xg, ai t3 cyI 7 xf, ai t4 cyI 7 xk, ob d0 2 [.ref d1, .ref d2, .ref d3], ai d1 cyI 3 (nF ct), aa d2 cyA 3 (r3 k0 k1 k2), aa d3 cyA 3 (r3 v0 v1 v2), ai k0 cyI 12 (kd 0), ai k1 cyI 12 (kd 1), ai k2 cyI 12 (kd 2), ai v0 cyI 12 (vl 0), ai v1 cyI 12 (vl 1), ai v2 cyI 12 (vl 2), ai g0 cyI 3 fp])) 0 0 (va_A [ob q0 3 [.ref a0, .ref t0, .ref z0, .int isv, .ref d0, .ref e0, .int fz, .ref g0], ob a0 0 [.int (nI n), .ref a1, .ref a2, .ref a3, .ref a4, .int vs, .int vb, .int vd], ai a1 cyI 7 fh, ai a2 cyI 7 fg, ai a3 cyI 7 ff, ai a4 cyI 7 fk, ob t0 0 [.int (nI tn), .ref t1, .ref t2, .ref t3, .ref t4, .int ts, .int tb, .int td], ai t1 cyI 7 th, ai t2 cyI 7 tg, ai t3 cyI 7 tf, ai t4 cyI 7 tk, ob d0 2 [.ref d1, .ref d2, .ref d3], ai d1 cyI 3 (nF ct), aa d2 cyA 3 (r3 k0 k1 k2), aa d3 cyA 3 (r3 v0 v1 v2), ai k0 cyI 12 (kd 0), ai k1 cyI 12 (kd 1), ai k2 cyI 12 (kd 2), ai v0 cyI 12 (vl 0), ai v1 cyI 12 (vl 1), ai v2 cyI 12 (vl 2), ai g0 cyI 3 fp] sz) := by
  refine ra_metW (cc := cX3_worstCrest) (maxL := 4) (Qc := fun A => qI dC dI cyI cyA (fun (r : Int32) (u : Nat × FN × FN × FN × FN × Int32 × Int32 × Int32) => match u with | (xn, xh, xg, xf, xk, xs, xb, xd) => r = wCr ct (crW phc psc nuc n fz ct kd vl fh fg ff fk vs vb fp) (flW phc psc nuc n fz ct kd vl fh fg ff fk vs vb fp) fo) A (fun u : Nat × FN × FN × FN × FN × Int32 × Int32 × Int32 => match u with | (xn, xh, xg, xf, xk, xs, xb, xd) => [ob q0 3 [.ref a0, .ref t0, .ref z0, .int isv, .ref d0, .ref e0, .int fz, .ref g0], ob a0 0 [.int (nI n), .ref a1, .ref a2, .ref a3, .ref a4, .int vs, .int vb, .int vd], ai a1 cyI 7 fh, ai a2 cyI 7 fg, ai a3 cyI 7 ff, ai a4 cyI 7 fk, ob t0 0 [.int (nI xn), .ref t1, .ref t2, .ref t3, .ref t4, .int xs, .int xb, .int xd], ai t1 cyI 7 xh, ai t2 cyI 7 xg, ai t3 cyI 7 xf, ai t4 cyI 7 xk, ob d0 2 [.ref d1, .ref d2, .ref d3], ai d1 cyI 3 (nF ct), aa d2 cyA 3 (r3 k0 k1 k2), aa d3 cyA 3 (r3 v0 v1 v2), ai k0 cyI 12 (kd 0), ai k1 cyI 12 (kd 1), ai k2 cyI 12 (kd 2), ai v0 cyI 12 (vl 0), ai v1 cyI 12 (vl 1), ai v2 cyI 12 (vl 2), ai g0 cyI 3 fp])) (by decide) rfl (Nat.le_of_ble_eq_true rfl) ?_
  intro p e s m below meth c A args Q hQ hx hb hr hlocks hml hts hown hnm hK hN hP hD hA hS ls hl
  have hl : lv_has ls 4 [(0, .ref q0), (1, .int fo)] := hl
  have hown : s.vm.findClass RX3 = some m.cls := hown
  have hw_1 := hts (.fieldLink RX3 29 "DuneBench" "weathers" "LDuneBench$Weathers;") (by decide +kernel)
  have hin_X3 : ∀ w ∈ u_ws RX3 TX3 8, w ∈ wsX3_worstCrest := by decide +kernel
  have hw_3 := hts (.fieldLink RX3 91 "DuneBench$Weathers" "count" "[I") (by decide +kernel)
  have hin_X2 : ∀ w ∈ u_ws RX2 TX2 3, w ∈ wsX3_worstCrest := by decide +kernel
  have hw_5 := hts (.fieldLink RX3 16 "DuneBench" "trial" "LDuneBench$Coast;") (by decide +kernel)
  have hw_6 := hts (.methodLink RX3 195 Lib.Math.min.name) (by decide +kernel)
  have hw_7 := hts (.static Lib.Math.min.name) (by decide +kernel)
  have hw_8 := hts (.initialized "java/lang/Math") (by decide +kernel)
  have hw_9 := hts (.code Lib.Math.min.name Lib.Math.min.code 2 (some .int)) (by decide +kernel)
  have hw_10 := hts (.fieldLink RX3 105 "DuneBench$Coast" "flooded" "I") (by decide +kernel)
  have hin_X0 : ∀ w ∈ u_ws RX0 TX0 8, w ∈ wsX3_worstCrest := by decide +kernel
  obtain ⟨H, hHe⟩ : ∃ H, H = s.heap := ⟨_, rfl⟩
  obtain ⟨locs, hLe⟩ : ∃ locs : List Loc, locs = [] := ⟨_, rfl⟩
  have hP : va_P (dC, dI) vwCl [ob q0 3 [.ref a0, .ref t0, .ref z0, .int isv, .ref d0, .ref e0, .int fz, .ref g0], ob a0 0 [.int (nI n), .ref a1, .ref a2, .ref a3, .ref a4, .int vs, .int vb, .int vd], ai a1 cyI 7 fh, ai a2 cyI 7 fg, ai a3 cyI 7 ff, ai a4 cyI 7 fk, ob t0 0 [.int (nI tn), .ref t1, .ref t2, .ref t3, .ref t4, .int ts, .int tb, .int td], ai t1 cyI 7 th, ai t2 cyI 7 tg, ai t3 cyI 7 tf, ai t4 cyI 7 tk, ob d0 2 [.ref d1, .ref d2, .ref d3], ai d1 cyI 3 (nF ct), aa d2 cyA 3 (r3 k0 k1 k2), aa d3 cyA 3 (r3 v0 v1 v2), ai k0 cyI 12 (kd 0), ai k1 cyI 12 (kd 1), ai k2 cyI 12 (kd 2), ai v0 cyI 12 (vl 0), ai v1 cyI 12 (vl 1), ai v2 cyI 12 (vl 2), ai g0 cyI 3 fp] H := by rw [hHe]; exact hP
  have hS : va_S A s.heap H locs := by rw [hHe, hLe]; exact hS
  suffices hgo : W p l e (rm 4) s m args below meth c H locs 0 0 Q (F0 m 0 ls []) by rw [hHe, hLe] at hgo; exact hgo
  have hc0 := hct 0 (by omega)
  have hc1 := hct 1 (by omega)
  have hc2 := hct 2 (by omega)
  refine lv_bipush (v := 99) hx hb dX3_worstCrest_0 (by decide) ?_
  refine lv_istore_n (lv' := [(2, .int 99), (0, .ref q0), (1, .int fo)]) hx hb dX3_worstCrest_2 rfl hl (by decide) rfl (fun ls hl => ?_)
  refine lv_iconst (v := 0) hx hb dX3_worstCrest_3 (by decide) ?_
  refine lv_istore_n (lv' := [(3, .int 0), (2, .int 99), (0, .ref q0), (1, .int fo)]) hx hb dX3_worstCrest_4 rfl hl (by decide) rfl (fun ls hl => ?_)
  refine lv_iload_n hx hb dX3_worstCrest_5 rfl (lv_at hl 0 rfl) ?_
  refine lv_iconst (v := 3) hx hb dX3_worstCrest_6 (by decide) ?_
  refine lv_icmp_ge (tgt := 62) hx hb dX3_worstCrest_7 (by decide) (fun c_7 => ?_) (fun c_7 => ?_)
  · ---- to 62
    exact absurd c_7 (by decide)
  · ---- on
    refine lv_aload_n hx hb dX3_worstCrest_10 rfl (lv_at hl 2 rfl) ?_
    refine va_get (D := (dC, dI)) (ci := 3) (v := .ref d0) (C := RX3) (T := TX3) (N := 8) hx hb hts hin_X3 hown hK hP 0 rfl rfl 4 (by decide) hw_1 (fun _ h9 => h9) rfl dX3_worstCrest_11 ?_
    refine va_get (D := (dC, dI)) (ci := 2) (v := .ref d1) (C := RX2) (T := TX2) (N := 3) hx hb hts hin_X2 hown hK hP 11 rfl rfl 0 (by decide) hw_3 (fun _ h9 => h9) rfl dX3_worstCrest_14 ?_
    refine lv_iload_n hx hb dX3_worstCrest_17 rfl (lv_at hl 0 rfl) ?_
    refine ra_iald hx hb hK hP 12 rfl 0 rfl (by omega) (Nat.le_of_ble_eq_true rfl) dX3_worstCrest_18 ?_
    refine ra_top (nI (ct 0)) rfl ?_
    refine lv_if_le (tgt := 56) hx hb dX3_worstCrest_19 (by decide) (fun c_19 => ?_) (fun c_19 => ?_)
    · ---- to 56
      have n_19 := (nq_le (ct 0) 0 (by omega) (by omega)).mp c_19
      refine lv_iinc (v := 1) (lv' := [(3, .int 1), (2, .int 99), (0, .ref q0), (1, .int fo)]) hx hb dX3_worstCrest_56 hl (k := 0) rfl (by decide) (by decide) rfl (fun ls hl => ?_)
      refine lv_goto (tgt := 5) hx hb dX3_worstCrest_59 (by decide) ?_
      refine lv_iload_n hx hb dX3_worstCrest_5 rfl (lv_at hl 0 rfl) ?_
      refine lv_iconst (v := 3) hx hb dX3_worstCrest_6 (by decide) ?_
      refine lv_icmp_ge (tgt := 62) hx hb dX3_worstCrest_7 (by decide) (fun c_7_2 => ?_) (fun c_7_2 => ?_)
      · ---- to 62
        exact absurd c_7_2 (by decide)
      · ---- on
        refine lv_aload_n hx hb dX3_worstCrest_10 rfl (lv_at hl 2 rfl) ?_
        refine va_get (D := (dC, dI)) (ci := 3) (v := .ref d0) (C := RX3) (T := TX3) (N := 8) hx hb hts hin_X3 hown hK hP 0 rfl rfl 4 (by decide) hw_1 (fun _ h9 => h9) rfl dX3_worstCrest_11 ?_
        refine va_get (D := (dC, dI)) (ci := 2) (v := .ref d1) (C := RX2) (T := TX2) (N := 3) hx hb hts hin_X2 hown hK hP 11 rfl rfl 0 (by decide) hw_3 (fun _ h9 => h9) rfl dX3_worstCrest_14 ?_
        refine lv_iload_n hx hb dX3_worstCrest_17 rfl (lv_at hl 0 rfl) ?_
        refine ra_iald hx hb hK hP 12 rfl 1 rfl (by omega) (Nat.le_of_ble_eq_true rfl) dX3_worstCrest_18 ?_
        refine ra_top (nI (ct 1)) rfl ?_
        refine lv_if_le (tgt := 56) hx hb dX3_worstCrest_19 (by decide) (fun c_19_2 => ?_) (fun c_19_2 => ?_)
        · ---- to 56
          have n_19_2 := (nq_le (ct 1) 0 (by omega) (by omega)).mp c_19_2
          refine lv_iinc (v := 2) (lv' := [(3, .int 2), (2, .int 99), (0, .ref q0), (1, .int fo)]) hx hb dX3_worstCrest_56 hl (k := 0) rfl (by decide) (by decide) rfl (fun ls hl => ?_)
          refine lv_goto (tgt := 5) hx hb dX3_worstCrest_59 (by decide) ?_
          refine lv_iload_n hx hb dX3_worstCrest_5 rfl (lv_at hl 0 rfl) ?_
          refine lv_iconst (v := 3) hx hb dX3_worstCrest_6 (by decide) ?_
          refine lv_icmp_ge (tgt := 62) hx hb dX3_worstCrest_7 (by decide) (fun c_7_3 => ?_) (fun c_7_3 => ?_)
          · ---- to 62
            exact absurd c_7_3 (by decide)
          · ---- on
            refine lv_aload_n hx hb dX3_worstCrest_10 rfl (lv_at hl 2 rfl) ?_
            refine va_get (D := (dC, dI)) (ci := 3) (v := .ref d0) (C := RX3) (T := TX3) (N := 8) hx hb hts hin_X3 hown hK hP 0 rfl rfl 4 (by decide) hw_1 (fun _ h9 => h9) rfl dX3_worstCrest_11 ?_
            refine va_get (D := (dC, dI)) (ci := 2) (v := .ref d1) (C := RX2) (T := TX2) (N := 3) hx hb hts hin_X2 hown hK hP 11 rfl rfl 0 (by decide) hw_3 (fun _ h9 => h9) rfl dX3_worstCrest_14 ?_
            refine lv_iload_n hx hb dX3_worstCrest_17 rfl (lv_at hl 0 rfl) ?_
            refine ra_iald hx hb hK hP 12 rfl 2 rfl (by omega) (Nat.le_of_ble_eq_true rfl) dX3_worstCrest_18 ?_
            refine ra_top (nI (ct 2)) rfl ?_
            refine lv_if_le (tgt := 56) hx hb dX3_worstCrest_19 (by decide) (fun c_19_3 => ?_) (fun c_19_3 => ?_)
            · ---- to 56
              have n_19_3 := (nq_le (ct 2) 0 (by omega) (by omega)).mp c_19_3
              refine lv_iinc (v := 3) (lv' := [(3, .int 3), (2, .int 99), (0, .ref q0), (1, .int fo)]) hx hb dX3_worstCrest_56 hl (k := 0) rfl (by decide) (by decide) rfl (fun ls hl => ?_)
              refine lv_goto (tgt := 5) hx hb dX3_worstCrest_59 (by decide) ?_
              refine lv_iload_n hx hb dX3_worstCrest_5 rfl (lv_at hl 0 rfl) ?_
              refine lv_iconst (v := 3) hx hb dX3_worstCrest_6 (by decide) ?_
              refine lv_icmp_ge (tgt := 62) hx hb dX3_worstCrest_7 (by decide) (fun c_7_4 => ?_) (fun c_7_4 => ?_)
              · ---- to 62
                refine lv_iload_n hx hb dX3_worstCrest_62 rfl (lv_at hl 1 rfl) ?_
                rw [hQ]
                exact ra_iretW (tn, th, tg, tf, tk, ts, tb, td) hx hb hr hlocks rfl hK hP hD hS (Eq.symm ((wSt_0 (ct := ct) (cr := crW phc psc nuc n fz ct kd vl fh fg ff fk vs vb fp) (fl := flW phc psc nuc n fz ct kd vl fh fg ff fk vs vb fp) (fo := fo) (w := 0) n_19).trans ((wSt_0 (ct := ct) (cr := crW phc psc nuc n fz ct kd vl fh fg ff fk vs vb fp) (fl := flW phc psc nuc n fz ct kd vl fh fg ff fk vs vb fp) (fo := fo) (w := 1) n_19_2).trans (wSt_0 (ct := ct) (cr := crW phc psc nuc n fz ct kd vl fh fg ff fk vs vb fp) (fl := flW phc psc nuc n fz ct kd vl fh fg ff fk vs vb fp) (fo := fo) (w := 2) n_19_3)))) dX3_worstCrest_63
              · ---- on
                exact absurd c_7_4 (by decide)
            · ---- on
              have n_19_3 := (nq_le_n (ct 2) 0 (by omega) (by omega)).mp c_19_3
              refine lv_aload_n hx hb dX3_worstCrest_22 rfl (lv_at hl 2 rfl) ?_
              refine lv_iload_n hx hb dX3_worstCrest_23 rfl (lv_at hl 0 rfl) ?_
              refine ra_cV (q := (RX3, TX3, 8)) (ci := 3) (As := [.int 2]) (rest := []) (wc := [ob q0 3 [.ref a0, .ref t0, .ref z0, .int isv, .ref d0, .ref e0, .int fz, .ref g0], ob a0 0 [.int (nI n), .ref a1, .ref a2, .ref a3, .ref a4, .int vs, .int vb, .int vd], ai a1 cyI 7 fh, ai a2 cyI 7 fg, ai a3 cyI 7 ff, ai a4 cyI 7 fk, ob t0 0 [.int (nI tn), .ref t1, .ref t2, .ref t3, .ref t4, .int ts, .int tb, .int td], ai t1 cyI 7 th, ai t2 cyI 7 tg, ai t3 cyI 7 tf, ai t4 cyI 7 tk, ob d0 2 [.ref d1, .ref d2, .ref d3], ai d1 cyI 3 (nF ct), aa d2 cyA 3 (r3 k0 k1 k2), aa d3 cyA 3 (r3 v0 v1 v2), ai k2 cyI 12 (kd 2), ai v2 cyI 12 (vl 2), ai g0 cyI 3 fp]) (wr := [ai k0 cyI 12 (kd 0), ai k1 cyI 12 (kd 1), ai v0 cyI 12 (vl 0), ai v1 cyI 12 (vl 1)]) ⟨hx, hb, hml, hown, hts⟩ (c_X3_play l dC dI cyI cyA q0 z0 e0 g0 isv fz a0 a1 a2 a3 a4 n fh fg ff fk vs vb vd t0 t1 t2 t3 t4 tn th tg tf tk ts tb td d0 d1 d2 d3 ct (r3 k0 k1 k2) (r3 v0 v1 v2) 2 k2 v2 (kd 2) (vl 2) fp (by omega) (by omega) (by omega) rfl rfl H.size) (cwV 1 hts gX3_worstCrest_X3_play rfl rfl rfl (by decide +kernel) ⟨Nat.le_of_ble_eq_true rfl, Nat.le_of_ble_eq_true rfl⟩) hK hN hP hD hA hS [0, 1, 2, 3, 4, 5, 6, 7, 8, 9, 10, 11, 12, 13, 14, 17, 20, 21] [15, 16, 18, 19] rfl rfl (by decide) (by decide) (by decide) rfl rfl rfl hl.1 rfl (Nat.le_of_ble_eq_true rfl) dX3_worstCrest_24 ⟨Nat.le_of_ble_eq_true rfl, Nat.le_of_ble_eq_true rfl⟩ (fun u_1 hw_c1 H locs hP hD hS => ?_)
              have hP : va_P (dC, dI) vwCl [ai k0 cyI 12 (kd 0), ai k1 cyI 12 (kd 1), ai v0 cyI 12 (vl 0), ai v1 cyI 12 (vl 1), ob q0 3 [.ref a0, .ref t0, .ref z0, .int isv, .ref d0, .ref e0, .int fz, .ref g0], ob a0 0 [.int (nI n), .ref a1, .ref a2, .ref a3, .ref a4, .int vs, .int vb, .int vd], ai a1 cyI 7 fh, ai a2 cyI 7 fg, ai a3 cyI 7 ff, ai a4 cyI 7 fk, ob t0 0 [.int (nI n), .ref t1, .ref t2, .ref t3, .ref t4, .int ((pl phc psc nuc n fp fz (kd 2) (vl 2) (ct 2) 0 0 fh fg (bgY n ff fp fz 0) fk vs vb 0).2.2.2.2.1), .int ((pl phc psc nuc n fp fz (kd 2) (vl 2) (ct 2) 0 0 fh fg (bgY n ff fp fz 0) fk vs vb 0).2.2.2.2.2.1), .int ((pl phc psc nuc n fp fz (kd 2) (vl 2) (ct 2) 0 0 fh fg (bgY n ff fp fz 0) fk vs vb 0).2.2.2.2.2.2)], ai t1 cyI 7 ((pl phc psc nuc n fp fz (kd 2) (vl 2) (ct 2) 0 0 fh fg (bgY n ff fp fz 0) fk vs vb 0).1), ai t2 cyI 7 ((pl phc psc nuc n fp fz (kd 2) (vl 2) (ct 2) 0 0 fh fg (bgY n ff fp fz 0) fk vs vb 0).2.1), ai t3 cyI 7 ((pl phc psc nuc n fp fz (kd 2) (vl 2) (ct 2) 0 0 fh fg (bgY n ff fp fz 0) fk vs vb 0).2.2.1), ai t4 cyI 7 ((pl phc psc nuc n fp fz (kd 2) (vl 2) (ct 2) 0 0 fh fg (bgY n ff fp fz 0) fk vs vb 0).2.2.2.1), ob d0 2 [.ref d1, .ref d2, .ref d3], ai d1 cyI 3 (nF ct), aa d2 cyA 3 (r3 k0 k1 k2), aa d3 cyA 3 (r3 v0 v1 v2), ai k2 cyI 12 (kd 2), ai v2 cyI 12 (vl 2), ai g0 cyI 3 fp] H := hP
              have hD : va_D A [ai k0 cyI 12 (kd 0), ai k1 cyI 12 (kd 1), ai v0 cyI 12 (vl 0), ai v1 cyI 12 (vl 1), ob q0 3 [.ref a0, .ref t0, .ref z0, .int isv, .ref d0, .ref e0, .int fz, .ref g0], ob a0 0 [.int (nI n), .ref a1, .ref a2, .ref a3, .ref a4, .int vs, .int vb, .int vd], ai a1 cyI 7 fh, ai a2 cyI 7 fg, ai a3 cyI 7 ff, ai a4 cyI 7 fk, ob t0 0 [.int (nI n), .ref t1, .ref t2, .ref t3, .ref t4, .int ((pl phc psc nuc n fp fz (kd 2) (vl 2) (ct 2) 0 0 fh fg (bgY n ff fp fz 0) fk vs vb 0).2.2.2.2.1), .int ((pl phc psc nuc n fp fz (kd 2) (vl 2) (ct 2) 0 0 fh fg (bgY n ff fp fz 0) fk vs vb 0).2.2.2.2.2.1), .int ((pl phc psc nuc n fp fz (kd 2) (vl 2) (ct 2) 0 0 fh fg (bgY n ff fp fz 0) fk vs vb 0).2.2.2.2.2.2)], ai t1 cyI 7 ((pl phc psc nuc n fp fz (kd 2) (vl 2) (ct 2) 0 0 fh fg (bgY n ff fp fz 0) fk vs vb 0).1), ai t2 cyI 7 ((pl phc psc nuc n fp fz (kd 2) (vl 2) (ct 2) 0 0 fh fg (bgY n ff fp fz 0) fk vs vb 0).2.1), ai t3 cyI 7 ((pl phc psc nuc n fp fz (kd 2) (vl 2) (ct 2) 0 0 fh fg (bgY n ff fp fz 0) fk vs vb 0).2.2.1), ai t4 cyI 7 ((pl phc psc nuc n fp fz (kd 2) (vl 2) (ct 2) 0 0 fh fg (bgY n ff fp fz 0) fk vs vb 0).2.2.2.1), ob d0 2 [.ref d1, .ref d2, .ref d3], ai d1 cyI 3 (nF ct), aa d2 cyA 3 (r3 k0 k1 k2), aa d3 cyA 3 (r3 v0 v1 v2), ai k2 cyI 12 (kd 2), ai v2 cyI 12 (vl 2), ai g0 cyI 3 fp] := hD
              refine lv_iload_n hx hb dX3_worstCrest_27 rfl (lv_at hl 1 rfl) ?_
              refine lv_aload_n hx hb dX3_worstCrest_28 rfl (lv_at hl 2 rfl) ?_
              refine va_get (D := (dC, dI)) (ci := 3) (v := .ref t0) (C := RX3) (T := TX3) (N := 8) hx hb hts hin_X3 hown hK hP 4 rfl rfl 1 (by decide) hw_5 (fun _ h9 => h9) rfl dX3_worstCrest_29 ?_
              refine ra_cR (q := (RX0, TX0, 8)) (ci := 0) (As := []) (rest := [.int 99]) (wc := [ob t0 0 [.int (nI n), .ref t1, .ref t2, .ref t3, .ref t4, .int ((pl phc psc nuc n fp fz (kd 2) (vl 2) (ct 2) 0 0 fh fg (bgY n ff fp fz 0) fk vs vb 0).2.2.2.2.1), .int ((pl phc psc nuc n fp fz (kd 2) (vl 2) (ct 2) 0 0 fh fg (bgY n ff fp fz 0) fk vs vb 0).2.2.2.2.2.1), .int ((pl phc psc nuc n fp fz (kd 2) (vl 2) (ct 2) 0 0 fh fg (bgY n ff fp fz 0) fk vs vb 0).2.2.2.2.2.2)], ai t1 cyI 7 ((pl phc psc nuc n fp fz (kd 2) (vl 2) (ct 2) 0 0 fh fg (bgY n ff fp fz 0) fk vs vb 0).1), ai t2 cyI 7 ((pl phc psc nuc n fp fz (kd 2) (vl 2) (ct 2) 0 0 fh fg (bgY n ff fp fz 0) fk vs vb 0).2.1), ai t3 cyI 7 ((pl phc psc nuc n fp fz (kd 2) (vl 2) (ct 2) 0 0 fh fg (bgY n ff fp fz 0) fk vs vb 0).2.2.1), ai t4 cyI 7 ((pl phc psc nuc n fp fz (kd 2) (vl 2) (ct 2) 0 0 fh fg (bgY n ff fp fz 0) fk vs vb 0).2.2.2.1)]) ⟨hx, hb, hml, hown, hts⟩ (c_X0_greatestHeight l dC dI cyI cyA t0 t1 t2 t3 t4 n ((pl phc psc nuc n fp fz (kd 2) (vl 2) (ct 2) 0 0 fh fg (bgY n ff fp fz 0) fk vs vb 0).1) ((pl phc psc nuc n fp fz (kd 2) (vl 2) (ct 2) 0 0 fh fg (bgY n ff fp fz 0) fk vs vb 0).2.1) ((pl phc psc nuc n fp fz (kd 2) (vl 2) (ct 2) 0 0 fh fg (bgY n ff fp fz 0) fk vs vb 0).2.2.1) ((pl phc psc nuc n fp fz (kd 2) (vl 2) (ct 2) 0 0 fh fg (bgY n ff fp fz 0) fk vs vb 0).2.2.2.1) ((pl phc psc nuc n fp fz (kd 2) (vl 2) (ct 2) 0 0 fh fg (bgY n ff fp fz 0) fk vs vb 0).2.2.2.2.1) ((pl phc psc nuc n fp fz (kd 2) (vl 2) (ct 2) 0 0 fh fg (bgY n ff fp fz 0) fk vs vb 0).2.2.2.2.2.1) ((pl phc psc nuc n fp fz (kd 2) (vl 2) (ct 2) 0 0 fh fg (bgY n ff fp fz 0) fk vs vb 0).2.2.2.2.2.2) (by omega)) (cwV 0 hts gX3_worstCrest_X0_greatestHeight rfl rfl rfl (by decide +kernel) ⟨Nat.le_of_ble_eq_true rfl, Nat.le_of_ble_eq_true rfl⟩) hK hN hP [10, 11, 12, 13, 14] rfl rfl rfl rfl hl.1 rfl (Nat.le_of_ble_eq_true rfl) dX3_worstCrest_32 ⟨Nat.le_of_ble_eq_true rfl, Nat.le_of_ble_eq_true rfl⟩ ?_
              refine va_mmin hx hb (hml.trans hl.1.symm) hown hw_6 hw_7 hw_8 hw_9 (Nat.le_of_ble_eq_true rfl) (Nat.le_of_ble_eq_true rfl) (Nat.le_of_ble_eq_true rfl) (Nat.le_of_ble_eq_true rfl) dX3_worstCrest_35 ?_
              refine ra_top (jmin 99 (gMax ((pl phc psc nuc n fp fz (kd 2) (vl 2) (ct 2) 0 0 fh fg (bgY n ff fp fz 0) fk vs vb 0).1) n 0 0)) rfl ?_
              refine lv_istore_n (lv' := [(2, .int (jmin 99 (gMax ((pl phc psc nuc n fp fz (kd 2) (vl 2) (ct 2) 0 0 fh fg (bgY n ff fp fz 0) fk vs vb 0).1) n 0 0))), (3, .int 2), (0, .ref q0), (1, .int fo)]) hx hb dX3_worstCrest_38 rfl hl (by decide) rfl (fun ls hl => ?_)
              refine lv_aload_n hx hb dX3_worstCrest_39 rfl (lv_at hl 2 rfl) ?_
              refine va_get (D := (dC, dI)) (ci := 3) (v := .ref t0) (C := RX3) (T := TX3) (N := 8) hx hb hts hin_X3 hown hK hP 4 rfl rfl 1 (by decide) hw_5 (fun _ h9 => h9) rfl dX3_worstCrest_40 ?_
              refine va_get (D := (dC, dI)) (ci := 0) (v := .int ((pl phc psc nuc n fp fz (kd 2) (vl 2) (ct 2) 0 0 fh fg (bgY n ff fp fz 0) fk vs vb 0).2.2.2.2.2.2)) (C := RX0) (T := TX0) (N := 8) hx hb hts hin_X0 hown hK hP 10 rfl rfl 7 (by decide) hw_10 (fun _ h9 => h9) rfl dX3_worstCrest_43 ?_
              refine lv_if_gt (tgt := 54) hx hb dX3_worstCrest_46 (by decide) (fun c_46 => ?_) (fun c_46 => ?_)
              · ---- to 54
                refine lv_iconst (v := (-1)) hx hb dX3_worstCrest_54 (by decide) ?_
                rw [hQ]
                exact ra_iretW (n, (pl phc psc nuc n fp fz (kd 2) (vl 2) (ct 2) 0 0 fh fg (bgY n ff fp fz 0) fk vs vb 0).1, (pl phc psc nuc n fp fz (kd 2) (vl 2) (ct 2) 0 0 fh fg (bgY n ff fp fz 0) fk vs vb 0).2.1, (pl phc psc nuc n fp fz (kd 2) (vl 2) (ct 2) 0 0 fh fg (bgY n ff fp fz 0) fk vs vb 0).2.2.1, (pl phc psc nuc n fp fz (kd 2) (vl 2) (ct 2) 0 0 fh fg (bgY n ff fp fz 0) fk vs vb 0).2.2.2.1, (pl phc psc nuc n fp fz (kd 2) (vl 2) (ct 2) 0 0 fh fg (bgY n ff fp fz 0) fk vs vb 0).2.2.2.2.1, (pl phc psc nuc n fp fz (kd 2) (vl 2) (ct 2) 0 0 fh fg (bgY n ff fp fz 0) fk vs vb 0).2.2.2.2.2.1, (pl phc psc nuc n fp fz (kd 2) (vl 2) (ct 2) 0 0 fh fg (bgY n ff fp fz 0) fk vs vb 0).2.2.2.2.2.2) hx hb hr hlocks rfl hK (hP.sub [4, 5, 6, 7, 8, 9, 10, 11, 12, 13, 14, 15, 16, 17, 18, 0, 1, 19, 2, 3, 20, 21] rfl) (hD.sub [4, 5, 6, 7, 8, 9, 10, 11, 12, 13, 14, 15, 16, 17, 18, 0, 1, 19, 2, 3, 20, 21] (by decide) rfl) hS (Eq.symm ((wSt_0 (ct := ct) (cr := crW phc psc nuc n fz ct kd vl fh fg ff fk vs vb fp) (fl := flW phc psc nuc n fz ct kd vl fh fg ff fk vs vb fp) (fo := fo) (w := 0) n_19).trans ((wSt_0 (ct := ct) (cr := crW phc psc nuc n fz ct kd vl fh fg ff fk vs vb fp) (fl := flW phc psc nuc n fz ct kd vl fh fg ff fk vs vb fp) (fo := fo) (w := 1) n_19_2).trans (wSt_f (ct := ct) (cr := crW phc psc nuc n fz ct kd vl fh fg ff fk vs vb fp) (fl := flW phc psc nuc n fz ct kd vl fh fg ff fk vs vb fp) (fo := fo) (w := 2) n_19_3 c_46)))) dX3_worstCrest_55
              · ---- on
                refine lv_iload_n hx hb dX3_worstCrest_49 rfl (lv_at hl 0 rfl) ?_
                refine lv_iload_n hx hb dX3_worstCrest_50 rfl (lv_at hl 3 rfl) ?_
                refine lv_icmp_ge (tgt := 56) hx hb dX3_worstCrest_51 (by decide) (fun c_51 => ?_) (fun c_51 => ?_)
                · ---- to 56
                  refine lv_iinc (v := 3) (lv' := [(3, .int 3), (2, .int (jmin 99 (gMax ((pl phc psc nuc n fp fz (kd 2) (vl 2) (ct 2) 0 0 fh fg (bgY n ff fp fz 0) fk vs vb 0).1) n 0 0))), (0, .ref q0), (1, .int fo)]) hx hb dX3_worstCrest_56 hl (k := 1) rfl (by decide) (by decide) rfl (fun ls hl => ?_)
                  refine lv_goto (tgt := 5) hx hb dX3_worstCrest_59 (by decide) ?_
                  refine lv_iload_n hx hb dX3_worstCrest_5 rfl (lv_at hl 0 rfl) ?_
                  refine lv_iconst (v := 3) hx hb dX3_worstCrest_6 (by decide) ?_
                  refine lv_icmp_ge (tgt := 62) hx hb dX3_worstCrest_7 (by decide) (fun c_7_4 => ?_) (fun c_7_4 => ?_)
                  · ---- to 62
                    refine lv_iload_n hx hb dX3_worstCrest_62 rfl (lv_at hl 1 rfl) ?_
                    rw [hQ]
                    exact ra_iretW (n, (pl phc psc nuc n fp fz (kd 2) (vl 2) (ct 2) 0 0 fh fg (bgY n ff fp fz 0) fk vs vb 0).1, (pl phc psc nuc n fp fz (kd 2) (vl 2) (ct 2) 0 0 fh fg (bgY n ff fp fz 0) fk vs vb 0).2.1, (pl phc psc nuc n fp fz (kd 2) (vl 2) (ct 2) 0 0 fh fg (bgY n ff fp fz 0) fk vs vb 0).2.2.1, (pl phc psc nuc n fp fz (kd 2) (vl 2) (ct 2) 0 0 fh fg (bgY n ff fp fz 0) fk vs vb 0).2.2.2.1, (pl phc psc nuc n fp fz (kd 2) (vl 2) (ct 2) 0 0 fh fg (bgY n ff fp fz 0) fk vs vb 0).2.2.2.2.1, (pl phc psc nuc n fp fz (kd 2) (vl 2) (ct 2) 0 0 fh fg (bgY n ff fp fz 0) fk vs vb 0).2.2.2.2.2.1, (pl phc psc nuc n fp fz (kd 2) (vl 2) (ct 2) 0 0 fh fg (bgY n ff fp fz 0) fk vs vb 0).2.2.2.2.2.2) hx hb hr hlocks rfl hK (hP.sub [4, 5, 6, 7, 8, 9, 10, 11, 12, 13, 14, 15, 16, 17, 18, 0, 1, 19, 2, 3, 20, 21] rfl) (hD.sub [4, 5, 6, 7, 8, 9, 10, 11, 12, 13, 14, 15, 16, 17, 18, 0, 1, 19, 2, 3, 20, 21] (by decide) rfl) hS (Eq.symm ((wSt_0 (ct := ct) (cr := crW phc psc nuc n fz ct kd vl fh fg ff fk vs vb fp) (fl := flW phc psc nuc n fz ct kd vl fh fg ff fk vs vb fp) (fo := fo) (w := 0) n_19).trans ((wSt_0 (ct := ct) (cr := crW phc psc nuc n fz ct kd vl fh fg ff fk vs vb fp) (fl := flW phc psc nuc n fz ct kd vl fh fg ff fk vs vb fp) (fo := fo) (w := 1) n_19_2).trans (wSt_k (ct := ct) (cr := crW phc psc nuc n fz ct kd vl fh fg ff fk vs vb fp) (fl := flW phc psc nuc n fz ct kd vl fh fg ff fk vs vb fp) (fo := fo) (w := 2) n_19_3 c_46 c_51)))) dX3_worstCrest_63
                  · ---- on
                    exact absurd c_7_4 (by decide)
                · ---- on
                  refine lv_iconst (v := (-1)) hx hb dX3_worstCrest_54 (by decide) ?_
                  rw [hQ]
                  exact ra_iretW (n, (pl phc psc nuc n fp fz (kd 2) (vl 2) (ct 2) 0 0 fh fg (bgY n ff fp fz 0) fk vs vb 0).1, (pl phc psc nuc n fp fz (kd 2) (vl 2) (ct 2) 0 0 fh fg (bgY n ff fp fz 0) fk vs vb 0).2.1, (pl phc psc nuc n fp fz (kd 2) (vl 2) (ct 2) 0 0 fh fg (bgY n ff fp fz 0) fk vs vb 0).2.2.1, (pl phc psc nuc n fp fz (kd 2) (vl 2) (ct 2) 0 0 fh fg (bgY n ff fp fz 0) fk vs vb 0).2.2.2.1, (pl phc psc nuc n fp fz (kd 2) (vl 2) (ct 2) 0 0 fh fg (bgY n ff fp fz 0) fk vs vb 0).2.2.2.2.1, (pl phc psc nuc n fp fz (kd 2) (vl 2) (ct 2) 0 0 fh fg (bgY n ff fp fz 0) fk vs vb 0).2.2.2.2.2.1, (pl phc psc nuc n fp fz (kd 2) (vl 2) (ct 2) 0 0 fh fg (bgY n ff fp fz 0) fk vs vb 0).2.2.2.2.2.2) hx hb hr hlocks rfl hK (hP.sub [4, 5, 6, 7, 8, 9, 10, 11, 12, 13, 14, 15, 16, 17, 18, 0, 1, 19, 2, 3, 20, 21] rfl) (hD.sub [4, 5, 6, 7, 8, 9, 10, 11, 12, 13, 14, 15, 16, 17, 18, 0, 1, 19, 2, 3, 20, 21] (by decide) rfl) hS (Eq.symm ((wSt_0 (ct := ct) (cr := crW phc psc nuc n fz ct kd vl fh fg ff fk vs vb fp) (fl := flW phc psc nuc n fz ct kd vl fh fg ff fk vs vb fp) (fo := fo) (w := 0) n_19).trans ((wSt_0 (ct := ct) (cr := crW phc psc nuc n fz ct kd vl fh fg ff fk vs vb fp) (fl := flW phc psc nuc n fz ct kd vl fh fg ff fk vs vb fp) (fo := fo) (w := 1) n_19_2).trans (wSt_l (ct := ct) (cr := crW phc psc nuc n fz ct kd vl fh fg ff fk vs vb fp) (fl := flW phc psc nuc n fz ct kd vl fh fg ff fk vs vb fp) (fo := fo) (w := 2) n_19_3 c_46 c_51)))) dX3_worstCrest_55
        · ---- on
          have n_19_2 := (nq_le_n (ct 1) 0 (by omega) (by omega)).mp c_19_2
          refine lv_aload_n hx hb dX3_worstCrest_22 rfl (lv_at hl 2 rfl) ?_
          refine lv_iload_n hx hb dX3_worstCrest_23 rfl (lv_at hl 0 rfl) ?_
          refine ra_cV (q := (RX3, TX3, 8)) (ci := 3) (As := [.int 1]) (rest := []) (wc := [ob q0 3 [.ref a0, .ref t0, .ref z0, .int isv, .ref d0, .ref e0, .int fz, .ref g0], ob a0 0 [.int (nI n), .ref a1, .ref a2, .ref a3, .ref a4, .int vs, .int vb, .int vd], ai a1 cyI 7 fh, ai a2 cyI 7 fg, ai a3 cyI 7 ff, ai a4 cyI 7 fk, ob t0 0 [.int (nI tn), .ref t1, .ref t2, .ref t3, .ref t4, .int ts, .int tb, .int td], ai t1 cyI 7 th, ai t2 cyI 7 tg, ai t3 cyI 7 tf, ai t4 cyI 7 tk, ob d0 2 [.ref d1, .ref d2, .ref d3], ai d1 cyI 3 (nF ct), aa d2 cyA 3 (r3 k0 k1 k2), aa d3 cyA 3 (r3 v0 v1 v2), ai k1 cyI 12 (kd 1), ai v1 cyI 12 (vl 1), ai g0 cyI 3 fp]) (wr := [ai k0 cyI 12 (kd 0), ai k2 cyI 12 (kd 2), ai v0 cyI 12 (vl 0), ai v2 cyI 12 (vl 2)]) ⟨hx, hb, hml, hown, hts⟩ (c_X3_play l dC dI cyI cyA q0 z0 e0 g0 isv fz a0 a1 a2 a3 a4 n fh fg ff fk vs vb vd t0 t1 t2 t3 t4 tn th tg tf tk ts tb td d0 d1 d2 d3 ct (r3 k0 k1 k2) (r3 v0 v1 v2) 1 k1 v1 (kd 1) (vl 1) fp (by omega) (by omega) (by omega) rfl rfl H.size) (cwV 1 hts gX3_worstCrest_X3_play rfl rfl rfl (by decide +kernel) ⟨Nat.le_of_ble_eq_true rfl, Nat.le_of_ble_eq_true rfl⟩) hK hN hP hD hA hS [0, 1, 2, 3, 4, 5, 6, 7, 8, 9, 10, 11, 12, 13, 14, 16, 19, 21] [15, 17, 18, 20] rfl rfl (by decide) (by decide) (by decide) rfl rfl rfl hl.1 rfl (Nat.le_of_ble_eq_true rfl) dX3_worstCrest_24 ⟨Nat.le_of_ble_eq_true rfl, Nat.le_of_ble_eq_true rfl⟩ (fun u_2 hw_c2 H locs hP hD hS => ?_)
          have hP : va_P (dC, dI) vwCl [ai k0 cyI 12 (kd 0), ai k2 cyI 12 (kd 2), ai v0 cyI 12 (vl 0), ai v2 cyI 12 (vl 2), ob q0 3 [.ref a0, .ref t0, .ref z0, .int isv, .ref d0, .ref e0, .int fz, .ref g0], ob a0 0 [.int (nI n), .ref a1, .ref a2, .ref a3, .ref a4, .int vs, .int vb, .int vd], ai a1 cyI 7 fh, ai a2 cyI 7 fg, ai a3 cyI 7 ff, ai a4 cyI 7 fk, ob t0 0 [.int (nI n), .ref t1, .ref t2, .ref t3, .ref t4, .int ((pl phc psc nuc n fp fz (kd 1) (vl 1) (ct 1) 0 0 fh fg (bgY n ff fp fz 0) fk vs vb 0).2.2.2.2.1), .int ((pl phc psc nuc n fp fz (kd 1) (vl 1) (ct 1) 0 0 fh fg (bgY n ff fp fz 0) fk vs vb 0).2.2.2.2.2.1), .int ((pl phc psc nuc n fp fz (kd 1) (vl 1) (ct 1) 0 0 fh fg (bgY n ff fp fz 0) fk vs vb 0).2.2.2.2.2.2)], ai t1 cyI 7 ((pl phc psc nuc n fp fz (kd 1) (vl 1) (ct 1) 0 0 fh fg (bgY n ff fp fz 0) fk vs vb 0).1), ai t2 cyI 7 ((pl phc psc nuc n fp fz (kd 1) (vl 1) (ct 1) 0 0 fh fg (bgY n ff fp fz 0) fk vs vb 0).2.1), ai t3 cyI 7 ((pl phc psc nuc n fp fz (kd 1) (vl 1) (ct 1) 0 0 fh fg (bgY n ff fp fz 0) fk vs vb 0).2.2.1), ai t4 cyI 7 ((pl phc psc nuc n fp fz (kd 1) (vl 1) (ct 1) 0 0 fh fg (bgY n ff fp fz 0) fk vs vb 0).2.2.2.1), ob d0 2 [.ref d1, .ref d2, .ref d3], ai d1 cyI 3 (nF ct), aa d2 cyA 3 (r3 k0 k1 k2), aa d3 cyA 3 (r3 v0 v1 v2), ai k1 cyI 12 (kd 1), ai v1 cyI 12 (vl 1), ai g0 cyI 3 fp] H := hP
          have hD : va_D A [ai k0 cyI 12 (kd 0), ai k2 cyI 12 (kd 2), ai v0 cyI 12 (vl 0), ai v2 cyI 12 (vl 2), ob q0 3 [.ref a0, .ref t0, .ref z0, .int isv, .ref d0, .ref e0, .int fz, .ref g0], ob a0 0 [.int (nI n), .ref a1, .ref a2, .ref a3, .ref a4, .int vs, .int vb, .int vd], ai a1 cyI 7 fh, ai a2 cyI 7 fg, ai a3 cyI 7 ff, ai a4 cyI 7 fk, ob t0 0 [.int (nI n), .ref t1, .ref t2, .ref t3, .ref t4, .int ((pl phc psc nuc n fp fz (kd 1) (vl 1) (ct 1) 0 0 fh fg (bgY n ff fp fz 0) fk vs vb 0).2.2.2.2.1), .int ((pl phc psc nuc n fp fz (kd 1) (vl 1) (ct 1) 0 0 fh fg (bgY n ff fp fz 0) fk vs vb 0).2.2.2.2.2.1), .int ((pl phc psc nuc n fp fz (kd 1) (vl 1) (ct 1) 0 0 fh fg (bgY n ff fp fz 0) fk vs vb 0).2.2.2.2.2.2)], ai t1 cyI 7 ((pl phc psc nuc n fp fz (kd 1) (vl 1) (ct 1) 0 0 fh fg (bgY n ff fp fz 0) fk vs vb 0).1), ai t2 cyI 7 ((pl phc psc nuc n fp fz (kd 1) (vl 1) (ct 1) 0 0 fh fg (bgY n ff fp fz 0) fk vs vb 0).2.1), ai t3 cyI 7 ((pl phc psc nuc n fp fz (kd 1) (vl 1) (ct 1) 0 0 fh fg (bgY n ff fp fz 0) fk vs vb 0).2.2.1), ai t4 cyI 7 ((pl phc psc nuc n fp fz (kd 1) (vl 1) (ct 1) 0 0 fh fg (bgY n ff fp fz 0) fk vs vb 0).2.2.2.1), ob d0 2 [.ref d1, .ref d2, .ref d3], ai d1 cyI 3 (nF ct), aa d2 cyA 3 (r3 k0 k1 k2), aa d3 cyA 3 (r3 v0 v1 v2), ai k1 cyI 12 (kd 1), ai v1 cyI 12 (vl 1), ai g0 cyI 3 fp] := hD
          refine lv_iload_n hx hb dX3_worstCrest_27 rfl (lv_at hl 1 rfl) ?_
          refine lv_aload_n hx hb dX3_worstCrest_28 rfl (lv_at hl 2 rfl) ?_
          refine va_get (D := (dC, dI)) (ci := 3) (v := .ref t0) (C := RX3) (T := TX3) (N := 8) hx hb hts hin_X3 hown hK hP 4 rfl rfl 1 (by decide) hw_5 (fun _ h9 => h9) rfl dX3_worstCrest_29 ?_
          refine ra_cR (q := (RX0, TX0, 8)) (ci := 0) (As := []) (rest := [.int 99]) (wc := [ob t0 0 [.int (nI n), .ref t1, .ref t2, .ref t3, .ref t4, .int ((pl phc psc nuc n fp fz (kd 1) (vl 1) (ct 1) 0 0 fh fg (bgY n ff fp fz 0) fk vs vb 0).2.2.2.2.1), .int ((pl phc psc nuc n fp fz (kd 1) (vl 1) (ct 1) 0 0 fh fg (bgY n ff fp fz 0) fk vs vb 0).2.2.2.2.2.1), .int ((pl phc psc nuc n fp fz (kd 1) (vl 1) (ct 1) 0 0 fh fg (bgY n ff fp fz 0) fk vs vb 0).2.2.2.2.2.2)], ai t1 cyI 7 ((pl phc psc nuc n fp fz (kd 1) (vl 1) (ct 1) 0 0 fh fg (bgY n ff fp fz 0) fk vs vb 0).1), ai t2 cyI 7 ((pl phc psc nuc n fp fz (kd 1) (vl 1) (ct 1) 0 0 fh fg (bgY n ff fp fz 0) fk vs vb 0).2.1), ai t3 cyI 7 ((pl phc psc nuc n fp fz (kd 1) (vl 1) (ct 1) 0 0 fh fg (bgY n ff fp fz 0) fk vs vb 0).2.2.1), ai t4 cyI 7 ((pl phc psc nuc n fp fz (kd 1) (vl 1) (ct 1) 0 0 fh fg (bgY n ff fp fz 0) fk vs vb 0).2.2.2.1)]) ⟨hx, hb, hml, hown, hts⟩ (c_X0_greatestHeight l dC dI cyI cyA t0 t1 t2 t3 t4 n ((pl phc psc nuc n fp fz (kd 1) (vl 1) (ct 1) 0 0 fh fg (bgY n ff fp fz 0) fk vs vb 0).1) ((pl phc psc nuc n fp fz (kd 1) (vl 1) (ct 1) 0 0 fh fg (bgY n ff fp fz 0) fk vs vb 0).2.1) ((pl phc psc nuc n fp fz (kd 1) (vl 1) (ct 1) 0 0 fh fg (bgY n ff fp fz 0) fk vs vb 0).2.2.1) ((pl phc psc nuc n fp fz (kd 1) (vl 1) (ct 1) 0 0 fh fg (bgY n ff fp fz 0) fk vs vb 0).2.2.2.1) ((pl phc psc nuc n fp fz (kd 1) (vl 1) (ct 1) 0 0 fh fg (bgY n ff fp fz 0) fk vs vb 0).2.2.2.2.1) ((pl phc psc nuc n fp fz (kd 1) (vl 1) (ct 1) 0 0 fh fg (bgY n ff fp fz 0) fk vs vb 0).2.2.2.2.2.1) ((pl phc psc nuc n fp fz (kd 1) (vl 1) (ct 1) 0 0 fh fg (bgY n ff fp fz 0) fk vs vb 0).2.2.2.2.2.2) (by omega)) (cwV 0 hts gX3_worstCrest_X0_greatestHeight rfl rfl rfl (by decide +kernel) ⟨Nat.le_of_ble_eq_true rfl, Nat.le_of_ble_eq_true rfl⟩) hK hN hP [10, 11, 12, 13, 14] rfl rfl rfl rfl hl.1 rfl (Nat.le_of_ble_eq_true rfl) dX3_worstCrest_32 ⟨Nat.le_of_ble_eq_true rfl, Nat.le_of_ble_eq_true rfl⟩ ?_
          refine va_mmin hx hb (hml.trans hl.1.symm) hown hw_6 hw_7 hw_8 hw_9 (Nat.le_of_ble_eq_true rfl) (Nat.le_of_ble_eq_true rfl) (Nat.le_of_ble_eq_true rfl) (Nat.le_of_ble_eq_true rfl) dX3_worstCrest_35 ?_
          refine ra_top (jmin 99 (gMax ((pl phc psc nuc n fp fz (kd 1) (vl 1) (ct 1) 0 0 fh fg (bgY n ff fp fz 0) fk vs vb 0).1) n 0 0)) rfl ?_
          refine lv_istore_n (lv' := [(2, .int (jmin 99 (gMax ((pl phc psc nuc n fp fz (kd 1) (vl 1) (ct 1) 0 0 fh fg (bgY n ff fp fz 0) fk vs vb 0).1) n 0 0))), (3, .int 1), (0, .ref q0), (1, .int fo)]) hx hb dX3_worstCrest_38 rfl hl (by decide) rfl (fun ls hl => ?_)
          refine lv_aload_n hx hb dX3_worstCrest_39 rfl (lv_at hl 2 rfl) ?_
          refine va_get (D := (dC, dI)) (ci := 3) (v := .ref t0) (C := RX3) (T := TX3) (N := 8) hx hb hts hin_X3 hown hK hP 4 rfl rfl 1 (by decide) hw_5 (fun _ h9 => h9) rfl dX3_worstCrest_40 ?_
          refine va_get (D := (dC, dI)) (ci := 0) (v := .int ((pl phc psc nuc n fp fz (kd 1) (vl 1) (ct 1) 0 0 fh fg (bgY n ff fp fz 0) fk vs vb 0).2.2.2.2.2.2)) (C := RX0) (T := TX0) (N := 8) hx hb hts hin_X0 hown hK hP 10 rfl rfl 7 (by decide) hw_10 (fun _ h9 => h9) rfl dX3_worstCrest_43 ?_
          refine lv_if_gt (tgt := 54) hx hb dX3_worstCrest_46 (by decide) (fun c_46 => ?_) (fun c_46 => ?_)
          · ---- to 54
            refine lv_iconst (v := (-1)) hx hb dX3_worstCrest_54 (by decide) ?_
            rw [hQ]
            exact ra_iretW (n, (pl phc psc nuc n fp fz (kd 1) (vl 1) (ct 1) 0 0 fh fg (bgY n ff fp fz 0) fk vs vb 0).1, (pl phc psc nuc n fp fz (kd 1) (vl 1) (ct 1) 0 0 fh fg (bgY n ff fp fz 0) fk vs vb 0).2.1, (pl phc psc nuc n fp fz (kd 1) (vl 1) (ct 1) 0 0 fh fg (bgY n ff fp fz 0) fk vs vb 0).2.2.1, (pl phc psc nuc n fp fz (kd 1) (vl 1) (ct 1) 0 0 fh fg (bgY n ff fp fz 0) fk vs vb 0).2.2.2.1, (pl phc psc nuc n fp fz (kd 1) (vl 1) (ct 1) 0 0 fh fg (bgY n ff fp fz 0) fk vs vb 0).2.2.2.2.1, (pl phc psc nuc n fp fz (kd 1) (vl 1) (ct 1) 0 0 fh fg (bgY n ff fp fz 0) fk vs vb 0).2.2.2.2.2.1, (pl phc psc nuc n fp fz (kd 1) (vl 1) (ct 1) 0 0 fh fg (bgY n ff fp fz 0) fk vs vb 0).2.2.2.2.2.2) hx hb hr hlocks rfl hK (hP.sub [4, 5, 6, 7, 8, 9, 10, 11, 12, 13, 14, 15, 16, 17, 18, 0, 19, 1, 2, 20, 3, 21] rfl) (hD.sub [4, 5, 6, 7, 8, 9, 10, 11, 12, 13, 14, 15, 16, 17, 18, 0, 19, 1, 2, 20, 3, 21] (by decide) rfl) hS (Eq.symm ((wSt_0 (ct := ct) (cr := crW phc psc nuc n fz ct kd vl fh fg ff fk vs vb fp) (fl := flW phc psc nuc n fz ct kd vl fh fg ff fk vs vb fp) (fo := fo) (w := 0) n_19).trans (wSt_f (ct := ct) (cr := crW phc psc nuc n fz ct kd vl fh fg ff fk vs vb fp) (fl := flW phc psc nuc n fz ct kd vl fh fg ff fk vs vb fp) (fo := fo) (w := 1) n_19_2 c_46))) dX3_worstCrest_55
          · ---- on
            refine lv_iload_n hx hb dX3_worstCrest_49 rfl (lv_at hl 0 rfl) ?_
            refine lv_iload_n hx hb dX3_worstCrest_50 rfl (lv_at hl 3 rfl) ?_
            refine lv_icmp_ge (tgt := 56) hx hb dX3_worstCrest_51 (by decide) (fun c_51 => ?_) (fun c_51 => ?_)
            · ---- to 56
              refine lv_iinc (v := 2) (lv' := [(3, .int 2), (2, .int (jmin 99 (gMax ((pl phc psc nuc n fp fz (kd 1) (vl 1) (ct 1) 0 0 fh fg (bgY n ff fp fz 0) fk vs vb 0).1) n 0 0))), (0, .ref q0), (1, .int fo)]) hx hb dX3_worstCrest_56 hl (k := 1) rfl (by decide) (by decide) rfl (fun ls hl => ?_)
              refine lv_goto (tgt := 5) hx hb dX3_worstCrest_59 (by decide) ?_
              refine lv_iload_n hx hb dX3_worstCrest_5 rfl (lv_at hl 0 rfl) ?_
              refine lv_iconst (v := 3) hx hb dX3_worstCrest_6 (by decide) ?_
              refine lv_icmp_ge (tgt := 62) hx hb dX3_worstCrest_7 (by decide) (fun c_7_3 => ?_) (fun c_7_3 => ?_)
              · ---- to 62
                exact absurd c_7_3 (by decide)
              · ---- on
                refine lv_aload_n hx hb dX3_worstCrest_10 rfl (lv_at hl 2 rfl) ?_
                refine va_get (D := (dC, dI)) (ci := 3) (v := .ref d0) (C := RX3) (T := TX3) (N := 8) hx hb hts hin_X3 hown hK hP 4 rfl rfl 4 (by decide) hw_1 (fun _ h9 => h9) rfl dX3_worstCrest_11 ?_
                refine va_get (D := (dC, dI)) (ci := 2) (v := .ref d1) (C := RX2) (T := TX2) (N := 3) hx hb hts hin_X2 hown hK hP 15 rfl rfl 0 (by decide) hw_3 (fun _ h9 => h9) rfl dX3_worstCrest_14 ?_
                refine lv_iload_n hx hb dX3_worstCrest_17 rfl (lv_at hl 0 rfl) ?_
                refine ra_iald hx hb hK hP 16 rfl 2 rfl (by omega) (Nat.le_of_ble_eq_true rfl) dX3_worstCrest_18 ?_
                refine ra_top (nI (ct 2)) rfl ?_
                refine lv_if_le (tgt := 56) hx hb dX3_worstCrest_19 (by decide) (fun c_19_3 => ?_) (fun c_19_3 => ?_)
                · ---- to 56
                  have n_19_3 := (nq_le (ct 2) 0 (by omega) (by omega)).mp c_19_3
                  refine lv_iinc (v := 3) (lv' := [(3, .int 3), (2, .int (jmin 99 (gMax ((pl phc psc nuc n fp fz (kd 1) (vl 1) (ct 1) 0 0 fh fg (bgY n ff fp fz 0) fk vs vb 0).1) n 0 0))), (0, .ref q0), (1, .int fo)]) hx hb dX3_worstCrest_56 hl (k := 0) rfl (by decide) (by decide) rfl (fun ls hl => ?_)
                  refine lv_goto (tgt := 5) hx hb dX3_worstCrest_59 (by decide) ?_
                  refine lv_iload_n hx hb dX3_worstCrest_5 rfl (lv_at hl 0 rfl) ?_
                  refine lv_iconst (v := 3) hx hb dX3_worstCrest_6 (by decide) ?_
                  refine lv_icmp_ge (tgt := 62) hx hb dX3_worstCrest_7 (by decide) (fun c_7_4 => ?_) (fun c_7_4 => ?_)
                  · ---- to 62
                    refine lv_iload_n hx hb dX3_worstCrest_62 rfl (lv_at hl 1 rfl) ?_
                    rw [hQ]
                    exact ra_iretW (n, (pl phc psc nuc n fp fz (kd 1) (vl 1) (ct 1) 0 0 fh fg (bgY n ff fp fz 0) fk vs vb 0).1, (pl phc psc nuc n fp fz (kd 1) (vl 1) (ct 1) 0 0 fh fg (bgY n ff fp fz 0) fk vs vb 0).2.1, (pl phc psc nuc n fp fz (kd 1) (vl 1) (ct 1) 0 0 fh fg (bgY n ff fp fz 0) fk vs vb 0).2.2.1, (pl phc psc nuc n fp fz (kd 1) (vl 1) (ct 1) 0 0 fh fg (bgY n ff fp fz 0) fk vs vb 0).2.2.2.1, (pl phc psc nuc n fp fz (kd 1) (vl 1) (ct 1) 0 0 fh fg (bgY n ff fp fz 0) fk vs vb 0).2.2.2.2.1, (pl phc psc nuc n fp fz (kd 1) (vl 1) (ct 1) 0 0 fh fg (bgY n ff fp fz 0) fk vs vb 0).2.2.2.2.2.1, (pl phc psc nuc n fp fz (kd 1) (vl 1) (ct 1) 0 0 fh fg (bgY n ff fp fz 0) fk vs vb 0).2.2.2.2.2.2) hx hb hr hlocks rfl hK (hP.sub [4, 5, 6, 7, 8, 9, 10, 11, 12, 13, 14, 15, 16, 17, 18, 0, 19, 1, 2, 20, 3, 21] rfl) (hD.sub [4, 5, 6, 7, 8, 9, 10, 11, 12, 13, 14, 15, 16, 17, 18, 0, 19, 1, 2, 20, 3, 21] (by decide) rfl) hS (Eq.symm ((wSt_0 (ct := ct) (cr := crW phc psc nuc n fz ct kd vl fh fg ff fk vs vb fp) (fl := flW phc psc nuc n fz ct kd vl fh fg ff fk vs vb fp) (fo := fo) (w := 0) n_19).trans ((wSt_k (ct := ct) (cr := crW phc psc nuc n fz ct kd vl fh fg ff fk vs vb fp) (fl := flW phc psc nuc n fz ct kd vl fh fg ff fk vs vb fp) (fo := fo) (w := 1) n_19_2 c_46 c_51).trans (wSt_0 (ct := ct) (cr := crW phc psc nuc n fz ct kd vl fh fg ff fk vs vb fp) (fl := flW phc psc nuc n fz ct kd vl fh fg ff fk vs vb fp) (fo := fo) (w := 2) n_19_3)))) dX3_worstCrest_63
                  · ---- on
                    exact absurd c_7_4 (by decide)
                · ---- on
                  have n_19_3 := (nq_le_n (ct 2) 0 (by omega) (by omega)).mp c_19_3
                  refine lv_aload_n hx hb dX3_worstCrest_22 rfl (lv_at hl 2 rfl) ?_
                  refine lv_iload_n hx hb dX3_worstCrest_23 rfl (lv_at hl 0 rfl) ?_
                  refine ra_cV (q := (RX3, TX3, 8)) (ci := 3) (As := [.int 2]) (rest := []) (wc := [ob q0 3 [.ref a0, .ref t0, .ref z0, .int isv, .ref d0, .ref e0, .int fz, .ref g0], ob a0 0 [.int (nI n), .ref a1, .ref a2, .ref a3, .ref a4, .int vs, .int vb, .int vd], ai a1 cyI 7 fh, ai a2 cyI 7 fg, ai a3 cyI 7 ff, ai a4 cyI 7 fk, ob t0 0 [.int (nI n), .ref t1, .ref t2, .ref t3, .ref t4, .int ((pl phc psc nuc n fp fz (kd 1) (vl 1) (ct 1) 0 0 fh fg (bgY n ff fp fz 0) fk vs vb 0).2.2.2.2.1), .int ((pl phc psc nuc n fp fz (kd 1) (vl 1) (ct 1) 0 0 fh fg (bgY n ff fp fz 0) fk vs vb 0).2.2.2.2.2.1), .int ((pl phc psc nuc n fp fz (kd 1) (vl 1) (ct 1) 0 0 fh fg (bgY n ff fp fz 0) fk vs vb 0).2.2.2.2.2.2)], ai t1 cyI 7 ((pl phc psc nuc n fp fz (kd 1) (vl 1) (ct 1) 0 0 fh fg (bgY n ff fp fz 0) fk vs vb 0).1), ai t2 cyI 7 ((pl phc psc nuc n fp fz (kd 1) (vl 1) (ct 1) 0 0 fh fg (bgY n ff fp fz 0) fk vs vb 0).2.1), ai t3 cyI 7 ((pl phc psc nuc n fp fz (kd 1) (vl 1) (ct 1) 0 0 fh fg (bgY n ff fp fz 0) fk vs vb 0).2.2.1), ai t4 cyI 7 ((pl phc psc nuc n fp fz (kd 1) (vl 1) (ct 1) 0 0 fh fg (bgY n ff fp fz 0) fk vs vb 0).2.2.2.1), ob d0 2 [.ref d1, .ref d2, .ref d3], ai d1 cyI 3 (nF ct), aa d2 cyA 3 (r3 k0 k1 k2), aa d3 cyA 3 (r3 v0 v1 v2), ai k2 cyI 12 (kd 2), ai v2 cyI 12 (vl 2), ai g0 cyI 3 fp]) (wr := [ai k0 cyI 12 (kd 0), ai v0 cyI 12 (vl 0), ai k1 cyI 12 (kd 1), ai v1 cyI 12 (vl 1)]) ⟨hx, hb, hml, hown, hts⟩ (c_X3_play l dC dI cyI cyA q0 z0 e0 g0 isv fz a0 a1 a2 a3 a4 n fh fg ff fk vs vb vd t0 t1 t2 t3 t4 n ((pl phc psc nuc n fp fz (kd 1) (vl 1) (ct 1) 0 0 fh fg (bgY n ff fp fz 0) fk vs vb 0).1) ((pl phc psc nuc n fp fz (kd 1) (vl 1) (ct 1) 0 0 fh fg (bgY n ff fp fz 0) fk vs vb 0).2.1) ((pl phc psc nuc n fp fz (kd 1) (vl 1) (ct 1) 0 0 fh fg (bgY n ff fp fz 0) fk vs vb 0).2.2.1) ((pl phc psc nuc n fp fz (kd 1) (vl 1) (ct 1) 0 0 fh fg (bgY n ff fp fz 0) fk vs vb 0).2.2.2.1) ((pl phc psc nuc n fp fz (kd 1) (vl 1) (ct 1) 0 0 fh fg (bgY n ff fp fz 0) fk vs vb 0).2.2.2.2.1) ((pl phc psc nuc n fp fz (kd 1) (vl 1) (ct 1) 0 0 fh fg (bgY n ff fp fz 0) fk vs vb 0).2.2.2.2.2.1) ((pl phc psc nuc n fp fz (kd 1) (vl 1) (ct 1) 0 0 fh fg (bgY n ff fp fz 0) fk vs vb 0).2.2.2.2.2.2) d0 d1 d2 d3 ct (r3 k0 k1 k2) (r3 v0 v1 v2) 2 k2 v2 (kd 2) (vl 2) fp (by omega) (by omega) (by omega) rfl rfl H.size) (cwV 1 hts gX3_worstCrest_X3_play rfl rfl rfl (by decide +kernel) ⟨Nat.le_of_ble_eq_true rfl, Nat.le_of_ble_eq_true rfl⟩) hK hN hP hD hA hS [4, 5, 6, 7, 8, 9, 10, 11, 12, 13, 14, 15, 16, 17, 18, 1, 3, 21] [0, 2, 19, 20] rfl rfl (by decide) (by decide) (by decide) rfl rfl rfl hl.1 rfl (Nat.le_of_ble_eq_true rfl) dX3_worstCrest_24 ⟨Nat.le_of_ble_eq_true rfl, Nat.le_of_ble_eq_true rfl⟩ (fun u_3 hw_c3 H locs hP hD hS => ?_)
                  have hP : va_P (dC, dI) vwCl [ai k0 cyI 12 (kd 0), ai v0 cyI 12 (vl 0), ai k1 cyI 12 (kd 1), ai v1 cyI 12 (vl 1), ob q0 3 [.ref a0, .ref t0, .ref z0, .int isv, .ref d0, .ref e0, .int fz, .ref g0], ob a0 0 [.int (nI n), .ref a1, .ref a2, .ref a3, .ref a4, .int vs, .int vb, .int vd], ai a1 cyI 7 fh, ai a2 cyI 7 fg, ai a3 cyI 7 ff, ai a4 cyI 7 fk, ob t0 0 [.int (nI n), .ref t1, .ref t2, .ref t3, .ref t4, .int ((pl phc psc nuc n fp fz (kd 2) (vl 2) (ct 2) 0 0 fh fg (bgY n ff fp fz 0) fk vs vb 0).2.2.2.2.1), .int ((pl phc psc nuc n fp fz (kd 2) (vl 2) (ct 2) 0 0 fh fg (bgY n ff fp fz 0) fk vs vb 0).2.2.2.2.2.1), .int ((pl phc psc nuc n fp fz (kd 2) (vl 2) (ct 2) 0 0 fh fg (bgY n ff fp fz 0) fk vs vb 0).2.2.2.2.2.2)], ai t1 cyI 7 ((pl phc psc nuc n fp fz (kd 2) (vl 2) (ct 2) 0 0 fh fg (bgY n ff fp fz 0) fk vs vb 0).1), ai t2 cyI 7 ((pl phc psc nuc n fp fz (kd 2) (vl 2) (ct 2) 0 0 fh fg (bgY n ff fp fz 0) fk vs vb 0).2.1), ai t3 cyI 7 ((pl phc psc nuc n fp fz (kd 2) (vl 2) (ct 2) 0 0 fh fg (bgY n ff fp fz 0) fk vs vb 0).2.2.1), ai t4 cyI 7 ((pl phc psc nuc n fp fz (kd 2) (vl 2) (ct 2) 0 0 fh fg (bgY n ff fp fz 0) fk vs vb 0).2.2.2.1), ob d0 2 [.ref d1, .ref d2, .ref d3], ai d1 cyI 3 (nF ct), aa d2 cyA 3 (r3 k0 k1 k2), aa d3 cyA 3 (r3 v0 v1 v2), ai k2 cyI 12 (kd 2), ai v2 cyI 12 (vl 2), ai g0 cyI 3 fp] H := hP
                  have hD : va_D A [ai k0 cyI 12 (kd 0), ai v0 cyI 12 (vl 0), ai k1 cyI 12 (kd 1), ai v1 cyI 12 (vl 1), ob q0 3 [.ref a0, .ref t0, .ref z0, .int isv, .ref d0, .ref e0, .int fz, .ref g0], ob a0 0 [.int (nI n), .ref a1, .ref a2, .ref a3, .ref a4, .int vs, .int vb, .int vd], ai a1 cyI 7 fh, ai a2 cyI 7 fg, ai a3 cyI 7 ff, ai a4 cyI 7 fk, ob t0 0 [.int (nI n), .ref t1, .ref t2, .ref t3, .ref t4, .int ((pl phc psc nuc n fp fz (kd 2) (vl 2) (ct 2) 0 0 fh fg (bgY n ff fp fz 0) fk vs vb 0).2.2.2.2.1), .int ((pl phc psc nuc n fp fz (kd 2) (vl 2) (ct 2) 0 0 fh fg (bgY n ff fp fz 0) fk vs vb 0).2.2.2.2.2.1), .int ((pl phc psc nuc n fp fz (kd 2) (vl 2) (ct 2) 0 0 fh fg (bgY n ff fp fz 0) fk vs vb 0).2.2.2.2.2.2)], ai t1 cyI 7 ((pl phc psc nuc n fp fz (kd 2) (vl 2) (ct 2) 0 0 fh fg (bgY n ff fp fz 0) fk vs vb 0).1), ai t2 cyI 7 ((pl phc psc nuc n fp fz (kd 2) (vl 2) (ct 2) 0 0 fh fg (bgY n ff fp fz 0) fk vs vb 0).2.1), ai t3 cyI 7 ((pl phc psc nuc n fp fz (kd 2) (vl 2) (ct 2) 0 0 fh fg (bgY n ff fp fz 0) fk vs vb 0).2.2.1), ai t4 cyI 7 ((pl phc psc nuc n fp fz (kd 2) (vl 2) (ct 2) 0 0 fh fg (bgY n ff fp fz 0) fk vs vb 0).2.2.2.1), ob d0 2 [.ref d1, .ref d2, .ref d3], ai d1 cyI 3 (nF ct), aa d2 cyA 3 (r3 k0 k1 k2), aa d3 cyA 3 (r3 v0 v1 v2), ai k2 cyI 12 (kd 2), ai v2 cyI 12 (vl 2), ai g0 cyI 3 fp] := hD
                  refine lv_iload_n hx hb dX3_worstCrest_27 rfl (lv_at hl 1 rfl) ?_
                  refine lv_aload_n hx hb dX3_worstCrest_28 rfl (lv_at hl 2 rfl) ?_
                  refine va_get (D := (dC, dI)) (ci := 3) (v := .ref t0) (C := RX3) (T := TX3) (N := 8) hx hb hts hin_X3 hown hK hP 4 rfl rfl 1 (by decide) hw_5 (fun _ h9 => h9) rfl dX3_worstCrest_29 ?_
                  refine ra_cR (q := (RX0, TX0, 8)) (ci := 0) (As := []) (rest := [.int (jmin 99 (gMax ((pl phc psc nuc n fp fz (kd 1) (vl 1) (ct 1) 0 0 fh fg (bgY n ff fp fz 0) fk vs vb 0).1) n 0 0))]) (wc := [ob t0 0 [.int (nI n), .ref t1, .ref t2, .ref t3, .ref t4, .int ((pl phc psc nuc n fp fz (kd 2) (vl 2) (ct 2) 0 0 fh fg (bgY n ff fp fz 0) fk vs vb 0).2.2.2.2.1), .int ((pl phc psc nuc n fp fz (kd 2) (vl 2) (ct 2) 0 0 fh fg (bgY n ff fp fz 0) fk vs vb 0).2.2.2.2.2.1), .int ((pl phc psc nuc n fp fz (kd 2) (vl 2) (ct 2) 0 0 fh fg (bgY n ff fp fz 0) fk vs vb 0).2.2.2.2.2.2)], ai t1 cyI 7 ((pl phc psc nuc n fp fz (kd 2) (vl 2) (ct 2) 0 0 fh fg (bgY n ff fp fz 0) fk vs vb 0).1), ai t2 cyI 7 ((pl phc psc nuc n fp fz (kd 2) (vl 2) (ct 2) 0 0 fh fg (bgY n ff fp fz 0) fk vs vb 0).2.1), ai t3 cyI 7 ((pl phc psc nuc n fp fz (kd 2) (vl 2) (ct 2) 0 0 fh fg (bgY n ff fp fz 0) fk vs vb 0).2.2.1), ai t4 cyI 7 ((pl phc psc nuc n fp fz (kd 2) (vl 2) (ct 2) 0 0 fh fg (bgY n ff fp fz 0) fk vs vb 0).2.2.2.1)]) ⟨hx, hb, hml, hown, hts⟩ (c_X0_greatestHeight l dC dI cyI cyA t0 t1 t2 t3 t4 n ((pl phc psc nuc n fp fz (kd 2) (vl 2) (ct 2) 0 0 fh fg (bgY n ff fp fz 0) fk vs vb 0).1) ((pl phc psc nuc n fp fz (kd 2) (vl 2) (ct 2) 0 0 fh fg (bgY n ff fp fz 0) fk vs vb 0).2.1) ((pl phc psc nuc n fp fz (kd 2) (vl 2) (ct 2) 0 0 fh fg (bgY n ff fp fz 0) fk vs vb 0).2.2.1) ((pl phc psc nuc n fp fz (kd 2) (vl 2) (ct 2) 0 0 fh fg (bgY n ff fp fz 0) fk vs vb 0).2.2.2.1) ((pl phc psc nuc n fp fz (kd 2) (vl 2) (ct 2) 0 0 fh fg (bgY n ff fp fz 0) fk vs vb 0).2.2.2.2.1) ((pl phc psc nuc n fp fz (kd 2) (vl 2) (ct 2) 0 0 fh fg (bgY n ff fp fz 0) fk vs vb 0).2.2.2.2.2.1) ((pl phc psc nuc n fp fz (kd 2) (vl 2) (ct 2) 0 0 fh fg (bgY n ff fp fz 0) fk vs vb 0).2.2.2.2.2.2) (by omega)) (cwV 0 hts gX3_worstCrest_X0_greatestHeight rfl rfl rfl (by decide +kernel) ⟨Nat.le_of_ble_eq_true rfl, Nat.le_of_ble_eq_true rfl⟩) hK hN hP [10, 11, 12, 13, 14] rfl rfl rfl rfl hl.1 rfl (Nat.le_of_ble_eq_true rfl) dX3_worstCrest_32 ⟨Nat.le_of_ble_eq_true rfl, Nat.le_of_ble_eq_true rfl⟩ ?_
                  refine va_mmin hx hb (hml.trans hl.1.symm) hown hw_6 hw_7 hw_8 hw_9 (Nat.le_of_ble_eq_true rfl) (Nat.le_of_ble_eq_true rfl) (Nat.le_of_ble_eq_true rfl) (Nat.le_of_ble_eq_true rfl) dX3_worstCrest_35 ?_
                  refine ra_top (jmin (jmin 99 (gMax ((pl phc psc nuc n fp fz (kd 1) (vl 1) (ct 1) 0 0 fh fg (bgY n ff fp fz 0) fk vs vb 0).1) n 0 0)) (gMax ((pl phc psc nuc n fp fz (kd 2) (vl 2) (ct 2) 0 0 fh fg (bgY n ff fp fz 0) fk vs vb 0).1) n 0 0)) rfl ?_
                  refine lv_istore_n (lv' := [(2, .int (jmin (jmin 99 (gMax ((pl phc psc nuc n fp fz (kd 1) (vl 1) (ct 1) 0 0 fh fg (bgY n ff fp fz 0) fk vs vb 0).1) n 0 0)) (gMax ((pl phc psc nuc n fp fz (kd 2) (vl 2) (ct 2) 0 0 fh fg (bgY n ff fp fz 0) fk vs vb 0).1) n 0 0))), (3, .int 2), (0, .ref q0), (1, .int fo)]) hx hb dX3_worstCrest_38 rfl hl (by decide) rfl (fun ls hl => ?_)
                  refine lv_aload_n hx hb dX3_worstCrest_39 rfl (lv_at hl 2 rfl) ?_
                  refine va_get (D := (dC, dI)) (ci := 3) (v := .ref t0) (C := RX3) (T := TX3) (N := 8) hx hb hts hin_X3 hown hK hP 4 rfl rfl 1 (by decide) hw_5 (fun _ h9 => h9) rfl dX3_worstCrest_40 ?_
                  refine va_get (D := (dC, dI)) (ci := 0) (v := .int ((pl phc psc nuc n fp fz (kd 2) (vl 2) (ct 2) 0 0 fh fg (bgY n ff fp fz 0) fk vs vb 0).2.2.2.2.2.2)) (C := RX0) (T := TX0) (N := 8) hx hb hts hin_X0 hown hK hP 10 rfl rfl 7 (by decide) hw_10 (fun _ h9 => h9) rfl dX3_worstCrest_43 ?_
                  refine lv_if_gt (tgt := 54) hx hb dX3_worstCrest_46 (by decide) (fun c_46_2 => ?_) (fun c_46_2 => ?_)
                  · ---- to 54
                    refine lv_iconst (v := (-1)) hx hb dX3_worstCrest_54 (by decide) ?_
                    rw [hQ]
                    exact ra_iretW (n, (pl phc psc nuc n fp fz (kd 2) (vl 2) (ct 2) 0 0 fh fg (bgY n ff fp fz 0) fk vs vb 0).1, (pl phc psc nuc n fp fz (kd 2) (vl 2) (ct 2) 0 0 fh fg (bgY n ff fp fz 0) fk vs vb 0).2.1, (pl phc psc nuc n fp fz (kd 2) (vl 2) (ct 2) 0 0 fh fg (bgY n ff fp fz 0) fk vs vb 0).2.2.1, (pl phc psc nuc n fp fz (kd 2) (vl 2) (ct 2) 0 0 fh fg (bgY n ff fp fz 0) fk vs vb 0).2.2.2.1, (pl phc psc nuc n fp fz (kd 2) (vl 2) (ct 2) 0 0 fh fg (bgY n ff fp fz 0) fk vs vb 0).2.2.2.2.1, (pl phc psc nuc n fp fz (kd 2) (vl 2) (ct 2) 0 0 fh fg (bgY n ff fp fz 0) fk vs vb 0).2.2.2.2.2.1, (pl phc psc nuc n fp fz (kd 2) (vl 2) (ct 2) 0 0 fh fg (bgY n ff fp fz 0) fk vs vb 0).2.2.2.2.2.2) hx hb hr hlocks rfl hK (hP.sub [4, 5, 6, 7, 8, 9, 10, 11, 12, 13, 14, 15, 16, 17, 18, 0, 2, 19, 1, 3, 20, 21] rfl) (hD.sub [4, 5, 6, 7, 8, 9, 10, 11, 12, 13, 14, 15, 16, 17, 18, 0, 2, 19, 1, 3, 20, 21] (by decide) rfl) hS (Eq.symm ((wSt_0 (ct := ct) (cr := crW phc psc nuc n fz ct kd vl fh fg ff fk vs vb fp) (fl := flW phc psc nuc n fz ct kd vl fh fg ff fk vs vb fp) (fo := fo) (w := 0) n_19).trans ((wSt_k (ct := ct) (cr := crW phc psc nuc n fz ct kd vl fh fg ff fk vs vb fp) (fl := flW phc psc nuc n fz ct kd vl fh fg ff fk vs vb fp) (fo := fo) (w := 1) n_19_2 c_46 c_51).trans (wSt_f (ct := ct) (cr := crW phc psc nuc n fz ct kd vl fh fg ff fk vs vb fp) (fl := flW phc psc nuc n fz ct kd vl fh fg ff fk vs vb fp) (fo := fo) (w := 2) n_19_3 c_46_2)))) dX3_worstCrest_55
                  · ---- on
                    refine lv_iload_n hx hb dX3_worstCrest_49 rfl (lv_at hl 0 rfl) ?_
                    refine lv_iload_n hx hb dX3_worstCrest_50 rfl (lv_at hl 3 rfl) ?_
                    refine lv_icmp_ge (tgt := 56) hx hb dX3_worstCrest_51 (by decide) (fun c_51_2 => ?_) (fun c_51_2 => ?_)
                    · ---- to 56
                      refine lv_iinc (v := 3) (lv' := [(3, .int 3), (2, .int (jmin (jmin 99 (gMax ((pl phc psc nuc n fp fz (kd 1) (vl 1) (ct 1) 0 0 fh fg (bgY n ff fp fz 0) fk vs vb 0).1) n 0 0)) (gMax ((pl phc psc nuc n fp fz (kd 2) (vl 2) (ct 2) 0 0 fh fg (bgY n ff fp fz 0) fk vs vb 0).1) n 0 0))), (0, .ref q0), (1, .int fo)]) hx hb dX3_worstCrest_56 hl (k := 1) rfl (by decide) (by decide) rfl (fun ls hl => ?_)
                      refine lv_goto (tgt := 5) hx hb dX3_worstCrest_59 (by decide) ?_
                      refine lv_iload_n hx hb dX3_worstCrest_5 rfl (lv_at hl 0 rfl) ?_
                      refine lv_iconst (v := 3) hx hb dX3_worstCrest_6 (by decide) ?_
                      refine lv_icmp_ge (tgt := 62) hx hb dX3_worstCrest_7 (by decide) (fun c_7_4 => ?_) (fun c_7_4 => ?_)
                      · ---- to 62
                        refine lv_iload_n hx hb dX3_worstCrest_62 rfl (lv_at hl 1 rfl) ?_
                        rw [hQ]
                        exact ra_iretW (n, (pl phc psc nuc n fp fz (kd 2) (vl 2) (ct 2) 0 0 fh fg (bgY n ff fp fz 0) fk vs vb 0).1, (pl phc psc nuc n fp fz (kd 2) (vl 2) (ct 2) 0 0 fh fg (bgY n ff fp fz 0) fk vs vb 0).2.1, (pl phc psc nuc n fp fz (kd 2) (vl 2) (ct 2) 0 0 fh fg (bgY n ff fp fz 0) fk vs vb 0).2.2.1, (pl phc psc nuc n fp fz (kd 2) (vl 2) (ct 2) 0 0 fh fg (bgY n ff fp fz 0) fk vs vb 0).2.2.2.1, (pl phc psc nuc n fp fz (kd 2) (vl 2) (ct 2) 0 0 fh fg (bgY n ff fp fz 0) fk vs vb 0).2.2.2.2.1, (pl phc psc nuc n fp fz (kd 2) (vl 2) (ct 2) 0 0 fh fg (bgY n ff fp fz 0) fk vs vb 0).2.2.2.2.2.1, (pl phc psc nuc n fp fz (kd 2) (vl 2) (ct 2) 0 0 fh fg (bgY n ff fp fz 0) fk vs vb 0).2.2.2.2.2.2) hx hb hr hlocks rfl hK (hP.sub [4, 5, 6, 7, 8, 9, 10, 11, 12, 13, 14, 15, 16, 17, 18, 0, 2, 19, 1, 3, 20, 21] rfl) (hD.sub [4, 5, 6, 7, 8, 9, 10, 11, 12, 13, 14, 15, 16, 17, 18, 0, 2, 19, 1, 3, 20, 21] (by decide) rfl) hS (Eq.symm ((wSt_0 (ct := ct) (cr := crW phc psc nuc n fz ct kd vl fh fg ff fk vs vb fp) (fl := flW phc psc nuc n fz ct kd vl fh fg ff fk vs vb fp) (fo := fo) (w := 0) n_19).trans ((wSt_k (ct := ct) (cr := crW phc psc nuc n fz ct kd vl fh fg ff fk vs vb fp) (fl := flW phc psc nuc n fz ct kd vl fh fg ff fk vs vb fp) (fo := fo) (w := 1) n_19_2 c_46 c_51).trans (wSt_k (ct := ct) (cr := crW phc psc nuc n fz ct kd vl fh fg ff fk vs vb fp) (fl := flW phc psc nuc n fz ct kd vl fh fg ff fk vs vb fp) (fo := fo) (w := 2) n_19_3 c_46_2 c_51_2)))) dX3_worstCrest_63
                      · ---- on
                        exact absurd c_7_4 (by decide)
                    · ---- on
                      refine lv_iconst (v := (-1)) hx hb dX3_worstCrest_54 (by decide) ?_
                      rw [hQ]
                      exact ra_iretW (n, (pl phc psc nuc n fp fz (kd 2) (vl 2) (ct 2) 0 0 fh fg (bgY n ff fp fz 0) fk vs vb 0).1, (pl phc psc nuc n fp fz (kd 2) (vl 2) (ct 2) 0 0 fh fg (bgY n ff fp fz 0) fk vs vb 0).2.1, (pl phc psc nuc n fp fz (kd 2) (vl 2) (ct 2) 0 0 fh fg (bgY n ff fp fz 0) fk vs vb 0).2.2.1, (pl phc psc nuc n fp fz (kd 2) (vl 2) (ct 2) 0 0 fh fg (bgY n ff fp fz 0) fk vs vb 0).2.2.2.1, (pl phc psc nuc n fp fz (kd 2) (vl 2) (ct 2) 0 0 fh fg (bgY n ff fp fz 0) fk vs vb 0).2.2.2.2.1, (pl phc psc nuc n fp fz (kd 2) (vl 2) (ct 2) 0 0 fh fg (bgY n ff fp fz 0) fk vs vb 0).2.2.2.2.2.1, (pl phc psc nuc n fp fz (kd 2) (vl 2) (ct 2) 0 0 fh fg (bgY n ff fp fz 0) fk vs vb 0).2.2.2.2.2.2) hx hb hr hlocks rfl hK (hP.sub [4, 5, 6, 7, 8, 9, 10, 11, 12, 13, 14, 15, 16, 17, 18, 0, 2, 19, 1, 3, 20, 21] rfl) (hD.sub [4, 5, 6, 7, 8, 9, 10, 11, 12, 13, 14, 15, 16, 17, 18, 0, 2, 19, 1, 3, 20, 21] (by decide) rfl) hS (Eq.symm ((wSt_0 (ct := ct) (cr := crW phc psc nuc n fz ct kd vl fh fg ff fk vs vb fp) (fl := flW phc psc nuc n fz ct kd vl fh fg ff fk vs vb fp) (fo := fo) (w := 0) n_19).trans ((wSt_k (ct := ct) (cr := crW phc psc nuc n fz ct kd vl fh fg ff fk vs vb fp) (fl := flW phc psc nuc n fz ct kd vl fh fg ff fk vs vb fp) (fo := fo) (w := 1) n_19_2 c_46 c_51).trans (wSt_l (ct := ct) (cr := crW phc psc nuc n fz ct kd vl fh fg ff fk vs vb fp) (fl := flW phc psc nuc n fz ct kd vl fh fg ff fk vs vb fp) (fo := fo) (w := 2) n_19_3 c_46_2 c_51_2)))) dX3_worstCrest_55
            · ---- on
              refine lv_iconst (v := (-1)) hx hb dX3_worstCrest_54 (by decide) ?_
              rw [hQ]
              exact ra_iretW (n, (pl phc psc nuc n fp fz (kd 1) (vl 1) (ct 1) 0 0 fh fg (bgY n ff fp fz 0) fk vs vb 0).1, (pl phc psc nuc n fp fz (kd 1) (vl 1) (ct 1) 0 0 fh fg (bgY n ff fp fz 0) fk vs vb 0).2.1, (pl phc psc nuc n fp fz (kd 1) (vl 1) (ct 1) 0 0 fh fg (bgY n ff fp fz 0) fk vs vb 0).2.2.1, (pl phc psc nuc n fp fz (kd 1) (vl 1) (ct 1) 0 0 fh fg (bgY n ff fp fz 0) fk vs vb 0).2.2.2.1, (pl phc psc nuc n fp fz (kd 1) (vl 1) (ct 1) 0 0 fh fg (bgY n ff fp fz 0) fk vs vb 0).2.2.2.2.1, (pl phc psc nuc n fp fz (kd 1) (vl 1) (ct 1) 0 0 fh fg (bgY n ff fp fz 0) fk vs vb 0).2.2.2.2.2.1, (pl phc psc nuc n fp fz (kd 1) (vl 1) (ct 1) 0 0 fh fg (bgY n ff fp fz 0) fk vs vb 0).2.2.2.2.2.2) hx hb hr hlocks rfl hK (hP.sub [4, 5, 6, 7, 8, 9, 10, 11, 12, 13, 14, 15, 16, 17, 18, 0, 19, 1, 2, 20, 3, 21] rfl) (hD.sub [4, 5, 6, 7, 8, 9, 10, 11, 12, 13, 14, 15, 16, 17, 18, 0, 19, 1, 2, 20, 3, 21] (by decide) rfl) hS (Eq.symm ((wSt_0 (ct := ct) (cr := crW phc psc nuc n fz ct kd vl fh fg ff fk vs vb fp) (fl := flW phc psc nuc n fz ct kd vl fh fg ff fk vs vb fp) (fo := fo) (w := 0) n_19).trans (wSt_l (ct := ct) (cr := crW phc psc nuc n fz ct kd vl fh fg ff fk vs vb fp) (fl := flW phc psc nuc n fz ct kd vl fh fg ff fk vs vb fp) (fo := fo) (w := 1) n_19_2 c_46 c_51))) dX3_worstCrest_55
    · ---- on
      have n_19 := (nq_le_n (ct 0) 0 (by omega) (by omega)).mp c_19
      refine lv_aload_n hx hb dX3_worstCrest_22 rfl (lv_at hl 2 rfl) ?_
      refine lv_iload_n hx hb dX3_worstCrest_23 rfl (lv_at hl 0 rfl) ?_
      refine ra_cV (q := (RX3, TX3, 8)) (ci := 3) (As := [.int 0]) (rest := []) (wc := [ob q0 3 [.ref a0, .ref t0, .ref z0, .int isv, .ref d0, .ref e0, .int fz, .ref g0], ob a0 0 [.int (nI n), .ref a1, .ref a2, .ref a3, .ref a4, .int vs, .int vb, .int vd], ai a1 cyI 7 fh, ai a2 cyI 7 fg, ai a3 cyI 7 ff, ai a4 cyI 7 fk, ob t0 0 [.int (nI tn), .ref t1, .ref t2, .ref t3, .ref t4, .int ts, .int tb, .int td], ai t1 cyI 7 th, ai t2 cyI 7 tg, ai t3 cyI 7 tf, ai t4 cyI 7 tk, ob d0 2 [.ref d1, .ref d2, .ref d3], ai d1 cyI 3 (nF ct), aa d2 cyA 3 (r3 k0 k1 k2), aa d3 cyA 3 (r3 v0 v1 v2), ai k0 cyI 12 (kd 0), ai v0 cyI 12 (vl 0), ai g0 cyI 3 fp]) (wr := [ai k1 cyI 12 (kd 1), ai k2 cyI 12 (kd 2), ai v1 cyI 12 (vl 1), ai v2 cyI 12 (vl 2)]) ⟨hx, hb, hml, hown, hts⟩ (c_X3_play l dC dI cyI cyA q0 z0 e0 g0 isv fz a0 a1 a2 a3 a4 n fh fg ff fk vs vb vd t0 t1 t2 t3 t4 tn th tg tf tk ts tb td d0 d1 d2 d3 ct (r3 k0 k1 k2) (r3 v0 v1 v2) 0 k0 v0 (kd 0) (vl 0) fp (by omega) (by omega) (by omega) rfl rfl H.size) (cwV 1 hts gX3_worstCrest_X3_play rfl rfl rfl (by decide +kernel) ⟨Nat.le_of_ble_eq_true rfl, Nat.le_of_ble_eq_true rfl⟩) hK hN hP hD hA hS [0, 1, 2, 3, 4, 5, 6, 7, 8, 9, 10, 11, 12, 13, 14, 15, 18, 21] [16, 17, 19, 20] rfl rfl (by decide) (by decide) (by decide) rfl rfl rfl hl.1 rfl (Nat.le_of_ble_eq_true rfl) dX3_worstCrest_24 ⟨Nat.le_of_ble_eq_true rfl, Nat.le_of_ble_eq_true rfl⟩ (fun u_4 hw_c4 H locs hP hD hS => ?_)
      have hP : va_P (dC, dI) vwCl [ai k1 cyI 12 (kd 1), ai k2 cyI 12 (kd 2), ai v1 cyI 12 (vl 1), ai v2 cyI 12 (vl 2), ob q0 3 [.ref a0, .ref t0, .ref z0, .int isv, .ref d0, .ref e0, .int fz, .ref g0], ob a0 0 [.int (nI n), .ref a1, .ref a2, .ref a3, .ref a4, .int vs, .int vb, .int vd], ai a1 cyI 7 fh, ai a2 cyI 7 fg, ai a3 cyI 7 ff, ai a4 cyI 7 fk, ob t0 0 [.int (nI n), .ref t1, .ref t2, .ref t3, .ref t4, .int ((pl phc psc nuc n fp fz (kd 0) (vl 0) (ct 0) 0 0 fh fg (bgY n ff fp fz 0) fk vs vb 0).2.2.2.2.1), .int ((pl phc psc nuc n fp fz (kd 0) (vl 0) (ct 0) 0 0 fh fg (bgY n ff fp fz 0) fk vs vb 0).2.2.2.2.2.1), .int ((pl phc psc nuc n fp fz (kd 0) (vl 0) (ct 0) 0 0 fh fg (bgY n ff fp fz 0) fk vs vb 0).2.2.2.2.2.2)], ai t1 cyI 7 ((pl phc psc nuc n fp fz (kd 0) (vl 0) (ct 0) 0 0 fh fg (bgY n ff fp fz 0) fk vs vb 0).1), ai t2 cyI 7 ((pl phc psc nuc n fp fz (kd 0) (vl 0) (ct 0) 0 0 fh fg (bgY n ff fp fz 0) fk vs vb 0).2.1), ai t3 cyI 7 ((pl phc psc nuc n fp fz (kd 0) (vl 0) (ct 0) 0 0 fh fg (bgY n ff fp fz 0) fk vs vb 0).2.2.1), ai t4 cyI 7 ((pl phc psc nuc n fp fz (kd 0) (vl 0) (ct 0) 0 0 fh fg (bgY n ff fp fz 0) fk vs vb 0).2.2.2.1), ob d0 2 [.ref d1, .ref d2, .ref d3], ai d1 cyI 3 (nF ct), aa d2 cyA 3 (r3 k0 k1 k2), aa d3 cyA 3 (r3 v0 v1 v2), ai k0 cyI 12 (kd 0), ai v0 cyI 12 (vl 0), ai g0 cyI 3 fp] H := hP
      have hD : va_D A [ai k1 cyI 12 (kd 1), ai k2 cyI 12 (kd 2), ai v1 cyI 12 (vl 1), ai v2 cyI 12 (vl 2), ob q0 3 [.ref a0, .ref t0, .ref z0, .int isv, .ref d0, .ref e0, .int fz, .ref g0], ob a0 0 [.int (nI n), .ref a1, .ref a2, .ref a3, .ref a4, .int vs, .int vb, .int vd], ai a1 cyI 7 fh, ai a2 cyI 7 fg, ai a3 cyI 7 ff, ai a4 cyI 7 fk, ob t0 0 [.int (nI n), .ref t1, .ref t2, .ref t3, .ref t4, .int ((pl phc psc nuc n fp fz (kd 0) (vl 0) (ct 0) 0 0 fh fg (bgY n ff fp fz 0) fk vs vb 0).2.2.2.2.1), .int ((pl phc psc nuc n fp fz (kd 0) (vl 0) (ct 0) 0 0 fh fg (bgY n ff fp fz 0) fk vs vb 0).2.2.2.2.2.1), .int ((pl phc psc nuc n fp fz (kd 0) (vl 0) (ct 0) 0 0 fh fg (bgY n ff fp fz 0) fk vs vb 0).2.2.2.2.2.2)], ai t1 cyI 7 ((pl phc psc nuc n fp fz (kd 0) (vl 0) (ct 0) 0 0 fh fg (bgY n ff fp fz 0) fk vs vb 0).1), ai t2 cyI 7 ((pl phc psc nuc n fp fz (kd 0) (vl 0) (ct 0) 0 0 fh fg (bgY n ff fp fz 0) fk vs vb 0).2.1), ai t3 cyI 7 ((pl phc psc nuc n fp fz (kd 0) (vl 0) (ct 0) 0 0 fh fg (bgY n ff fp fz 0) fk vs vb 0).2.2.1), ai t4 cyI 7 ((pl phc psc nuc n fp fz (kd 0) (vl 0) (ct 0) 0 0 fh fg (bgY n ff fp fz 0) fk vs vb 0).2.2.2.1), ob d0 2 [.ref d1, .ref d2, .ref d3], ai d1 cyI 3 (nF ct), aa d2 cyA 3 (r3 k0 k1 k2), aa d3 cyA 3 (r3 v0 v1 v2), ai k0 cyI 12 (kd 0), ai v0 cyI 12 (vl 0), ai g0 cyI 3 fp] := hD
      refine lv_iload_n hx hb dX3_worstCrest_27 rfl (lv_at hl 1 rfl) ?_
      refine lv_aload_n hx hb dX3_worstCrest_28 rfl (lv_at hl 2 rfl) ?_
      refine va_get (D := (dC, dI)) (ci := 3) (v := .ref t0) (C := RX3) (T := TX3) (N := 8) hx hb hts hin_X3 hown hK hP 4 rfl rfl 1 (by decide) hw_5 (fun _ h9 => h9) rfl dX3_worstCrest_29 ?_
      refine ra_cR (q := (RX0, TX0, 8)) (ci := 0) (As := []) (rest := [.int 99]) (wc := [ob t0 0 [.int (nI n), .ref t1, .ref t2, .ref t3, .ref t4, .int ((pl phc psc nuc n fp fz (kd 0) (vl 0) (ct 0) 0 0 fh fg (bgY n ff fp fz 0) fk vs vb 0).2.2.2.2.1), .int ((pl phc psc nuc n fp fz (kd 0) (vl 0) (ct 0) 0 0 fh fg (bgY n ff fp fz 0) fk vs vb 0).2.2.2.2.2.1), .int ((pl phc psc nuc n fp fz (kd 0) (vl 0) (ct 0) 0 0 fh fg (bgY n ff fp fz 0) fk vs vb 0).2.2.2.2.2.2)], ai t1 cyI 7 ((pl phc psc nuc n fp fz (kd 0) (vl 0) (ct 0) 0 0 fh fg (bgY n ff fp fz 0) fk vs vb 0).1), ai t2 cyI 7 ((pl phc psc nuc n fp fz (kd 0) (vl 0) (ct 0) 0 0 fh fg (bgY n ff fp fz 0) fk vs vb 0).2.1), ai t3 cyI 7 ((pl phc psc nuc n fp fz (kd 0) (vl 0) (ct 0) 0 0 fh fg (bgY n ff fp fz 0) fk vs vb 0).2.2.1), ai t4 cyI 7 ((pl phc psc nuc n fp fz (kd 0) (vl 0) (ct 0) 0 0 fh fg (bgY n ff fp fz 0) fk vs vb 0).2.2.2.1)]) ⟨hx, hb, hml, hown, hts⟩ (c_X0_greatestHeight l dC dI cyI cyA t0 t1 t2 t3 t4 n ((pl phc psc nuc n fp fz (kd 0) (vl 0) (ct 0) 0 0 fh fg (bgY n ff fp fz 0) fk vs vb 0).1) ((pl phc psc nuc n fp fz (kd 0) (vl 0) (ct 0) 0 0 fh fg (bgY n ff fp fz 0) fk vs vb 0).2.1) ((pl phc psc nuc n fp fz (kd 0) (vl 0) (ct 0) 0 0 fh fg (bgY n ff fp fz 0) fk vs vb 0).2.2.1) ((pl phc psc nuc n fp fz (kd 0) (vl 0) (ct 0) 0 0 fh fg (bgY n ff fp fz 0) fk vs vb 0).2.2.2.1) ((pl phc psc nuc n fp fz (kd 0) (vl 0) (ct 0) 0 0 fh fg (bgY n ff fp fz 0) fk vs vb 0).2.2.2.2.1) ((pl phc psc nuc n fp fz (kd 0) (vl 0) (ct 0) 0 0 fh fg (bgY n ff fp fz 0) fk vs vb 0).2.2.2.2.2.1) ((pl phc psc nuc n fp fz (kd 0) (vl 0) (ct 0) 0 0 fh fg (bgY n ff fp fz 0) fk vs vb 0).2.2.2.2.2.2) (by omega)) (cwV 0 hts gX3_worstCrest_X0_greatestHeight rfl rfl rfl (by decide +kernel) ⟨Nat.le_of_ble_eq_true rfl, Nat.le_of_ble_eq_true rfl⟩) hK hN hP [10, 11, 12, 13, 14] rfl rfl rfl rfl hl.1 rfl (Nat.le_of_ble_eq_true rfl) dX3_worstCrest_32 ⟨Nat.le_of_ble_eq_true rfl, Nat.le_of_ble_eq_true rfl⟩ ?_
      refine va_mmin hx hb (hml.trans hl.1.symm) hown hw_6 hw_7 hw_8 hw_9 (Nat.le_of_ble_eq_true rfl) (Nat.le_of_ble_eq_true rfl) (Nat.le_of_ble_eq_true rfl) (Nat.le_of_ble_eq_true rfl) dX3_worstCrest_35 ?_
      refine ra_top (jmin 99 (gMax ((pl phc psc nuc n fp fz (kd 0) (vl 0) (ct 0) 0 0 fh fg (bgY n ff fp fz 0) fk vs vb 0).1) n 0 0)) rfl ?_
      refine lv_istore_n (lv' := [(2, .int (jmin 99 (gMax ((pl phc psc nuc n fp fz (kd 0) (vl 0) (ct 0) 0 0 fh fg (bgY n ff fp fz 0) fk vs vb 0).1) n 0 0))), (3, .int 0), (0, .ref q0), (1, .int fo)]) hx hb dX3_worstCrest_38 rfl hl (by decide) rfl (fun ls hl => ?_)
      refine lv_aload_n hx hb dX3_worstCrest_39 rfl (lv_at hl 2 rfl) ?_
      refine va_get (D := (dC, dI)) (ci := 3) (v := .ref t0) (C := RX3) (T := TX3) (N := 8) hx hb hts hin_X3 hown hK hP 4 rfl rfl 1 (by decide) hw_5 (fun _ h9 => h9) rfl dX3_worstCrest_40 ?_
      refine va_get (D := (dC, dI)) (ci := 0) (v := .int ((pl phc psc nuc n fp fz (kd 0) (vl 0) (ct 0) 0 0 fh fg (bgY n ff fp fz 0) fk vs vb 0).2.2.2.2.2.2)) (C := RX0) (T := TX0) (N := 8) hx hb hts hin_X0 hown hK hP 10 rfl rfl 7 (by decide) hw_10 (fun _ h9 => h9) rfl dX3_worstCrest_43 ?_
      refine lv_if_gt (tgt := 54) hx hb dX3_worstCrest_46 (by decide) (fun c_46 => ?_) (fun c_46 => ?_)
      · ---- to 54
        refine lv_iconst (v := (-1)) hx hb dX3_worstCrest_54 (by decide) ?_
        rw [hQ]
        exact ra_iretW (n, (pl phc psc nuc n fp fz (kd 0) (vl 0) (ct 0) 0 0 fh fg (bgY n ff fp fz 0) fk vs vb 0).1, (pl phc psc nuc n fp fz (kd 0) (vl 0) (ct 0) 0 0 fh fg (bgY n ff fp fz 0) fk vs vb 0).2.1, (pl phc psc nuc n fp fz (kd 0) (vl 0) (ct 0) 0 0 fh fg (bgY n ff fp fz 0) fk vs vb 0).2.2.1, (pl phc psc nuc n fp fz (kd 0) (vl 0) (ct 0) 0 0 fh fg (bgY n ff fp fz 0) fk vs vb 0).2.2.2.1, (pl phc psc nuc n fp fz (kd 0) (vl 0) (ct 0) 0 0 fh fg (bgY n ff fp fz 0) fk vs vb 0).2.2.2.2.1, (pl phc psc nuc n fp fz (kd 0) (vl 0) (ct 0) 0 0 fh fg (bgY n ff fp fz 0) fk vs vb 0).2.2.2.2.2.1, (pl phc psc nuc n fp fz (kd 0) (vl 0) (ct 0) 0 0 fh fg (bgY n ff fp fz 0) fk vs vb 0).2.2.2.2.2.2) hx hb hr hlocks rfl hK (hP.sub [4, 5, 6, 7, 8, 9, 10, 11, 12, 13, 14, 15, 16, 17, 18, 19, 0, 1, 20, 2, 3, 21] rfl) (hD.sub [4, 5, 6, 7, 8, 9, 10, 11, 12, 13, 14, 15, 16, 17, 18, 19, 0, 1, 20, 2, 3, 21] (by decide) rfl) hS (Eq.symm (wSt_f (ct := ct) (cr := crW phc psc nuc n fz ct kd vl fh fg ff fk vs vb fp) (fl := flW phc psc nuc n fz ct kd vl fh fg ff fk vs vb fp) (fo := fo) (w := 0) n_19 c_46)) dX3_worstCrest_55
      · ---- on
        refine lv_iload_n hx hb dX3_worstCrest_49 rfl (lv_at hl 0 rfl) ?_
        refine lv_iload_n hx hb dX3_worstCrest_50 rfl (lv_at hl 3 rfl) ?_
        refine lv_icmp_ge (tgt := 56) hx hb dX3_worstCrest_51 (by decide) (fun c_51 => ?_) (fun c_51 => ?_)
        · ---- to 56
          refine lv_iinc (v := 1) (lv' := [(3, .int 1), (2, .int (jmin 99 (gMax ((pl phc psc nuc n fp fz (kd 0) (vl 0) (ct 0) 0 0 fh fg (bgY n ff fp fz 0) fk vs vb 0).1) n 0 0))), (0, .ref q0), (1, .int fo)]) hx hb dX3_worstCrest_56 hl (k := 1) rfl (by decide) (by decide) rfl (fun ls hl => ?_)
          refine lv_goto (tgt := 5) hx hb dX3_worstCrest_59 (by decide) ?_
          refine lv_iload_n hx hb dX3_worstCrest_5 rfl (lv_at hl 0 rfl) ?_
          refine lv_iconst (v := 3) hx hb dX3_worstCrest_6 (by decide) ?_
          refine lv_icmp_ge (tgt := 62) hx hb dX3_worstCrest_7 (by decide) (fun c_7_2 => ?_) (fun c_7_2 => ?_)
          · ---- to 62
            exact absurd c_7_2 (by decide)
          · ---- on
            refine lv_aload_n hx hb dX3_worstCrest_10 rfl (lv_at hl 2 rfl) ?_
            refine va_get (D := (dC, dI)) (ci := 3) (v := .ref d0) (C := RX3) (T := TX3) (N := 8) hx hb hts hin_X3 hown hK hP 4 rfl rfl 4 (by decide) hw_1 (fun _ h9 => h9) rfl dX3_worstCrest_11 ?_
            refine va_get (D := (dC, dI)) (ci := 2) (v := .ref d1) (C := RX2) (T := TX2) (N := 3) hx hb hts hin_X2 hown hK hP 15 rfl rfl 0 (by decide) hw_3 (fun _ h9 => h9) rfl dX3_worstCrest_14 ?_
            refine lv_iload_n hx hb dX3_worstCrest_17 rfl (lv_at hl 0 rfl) ?_
            refine ra_iald hx hb hK hP 16 rfl 1 rfl (by omega) (Nat.le_of_ble_eq_true rfl) dX3_worstCrest_18 ?_
            refine ra_top (nI (ct 1)) rfl ?_
            refine lv_if_le (tgt := 56) hx hb dX3_worstCrest_19 (by decide) (fun c_19_2 => ?_) (fun c_19_2 => ?_)
            · ---- to 56
              have n_19_2 := (nq_le (ct 1) 0 (by omega) (by omega)).mp c_19_2
              refine lv_iinc (v := 2) (lv' := [(3, .int 2), (2, .int (jmin 99 (gMax ((pl phc psc nuc n fp fz (kd 0) (vl 0) (ct 0) 0 0 fh fg (bgY n ff fp fz 0) fk vs vb 0).1) n 0 0))), (0, .ref q0), (1, .int fo)]) hx hb dX3_worstCrest_56 hl (k := 0) rfl (by decide) (by decide) rfl (fun ls hl => ?_)
              refine lv_goto (tgt := 5) hx hb dX3_worstCrest_59 (by decide) ?_
              refine lv_iload_n hx hb dX3_worstCrest_5 rfl (lv_at hl 0 rfl) ?_
              refine lv_iconst (v := 3) hx hb dX3_worstCrest_6 (by decide) ?_
              refine lv_icmp_ge (tgt := 62) hx hb dX3_worstCrest_7 (by decide) (fun c_7_3 => ?_) (fun c_7_3 => ?_)
              · ---- to 62
                exact absurd c_7_3 (by decide)
              · ---- on
                refine lv_aload_n hx hb dX3_worstCrest_10 rfl (lv_at hl 2 rfl) ?_
                refine va_get (D := (dC, dI)) (ci := 3) (v := .ref d0) (C := RX3) (T := TX3) (N := 8) hx hb hts hin_X3 hown hK hP 4 rfl rfl 4 (by decide) hw_1 (fun _ h9 => h9) rfl dX3_worstCrest_11 ?_
                refine va_get (D := (dC, dI)) (ci := 2) (v := .ref d1) (C := RX2) (T := TX2) (N := 3) hx hb hts hin_X2 hown hK hP 15 rfl rfl 0 (by decide) hw_3 (fun _ h9 => h9) rfl dX3_worstCrest_14 ?_
                refine lv_iload_n hx hb dX3_worstCrest_17 rfl (lv_at hl 0 rfl) ?_
                refine ra_iald hx hb hK hP 16 rfl 2 rfl (by omega) (Nat.le_of_ble_eq_true rfl) dX3_worstCrest_18 ?_
                refine ra_top (nI (ct 2)) rfl ?_
                refine lv_if_le (tgt := 56) hx hb dX3_worstCrest_19 (by decide) (fun c_19_3 => ?_) (fun c_19_3 => ?_)
                · ---- to 56
                  have n_19_3 := (nq_le (ct 2) 0 (by omega) (by omega)).mp c_19_3
                  refine lv_iinc (v := 3) (lv' := [(3, .int 3), (2, .int (jmin 99 (gMax ((pl phc psc nuc n fp fz (kd 0) (vl 0) (ct 0) 0 0 fh fg (bgY n ff fp fz 0) fk vs vb 0).1) n 0 0))), (0, .ref q0), (1, .int fo)]) hx hb dX3_worstCrest_56 hl (k := 0) rfl (by decide) (by decide) rfl (fun ls hl => ?_)
                  refine lv_goto (tgt := 5) hx hb dX3_worstCrest_59 (by decide) ?_
                  refine lv_iload_n hx hb dX3_worstCrest_5 rfl (lv_at hl 0 rfl) ?_
                  refine lv_iconst (v := 3) hx hb dX3_worstCrest_6 (by decide) ?_
                  refine lv_icmp_ge (tgt := 62) hx hb dX3_worstCrest_7 (by decide) (fun c_7_4 => ?_) (fun c_7_4 => ?_)
                  · ---- to 62
                    refine lv_iload_n hx hb dX3_worstCrest_62 rfl (lv_at hl 1 rfl) ?_
                    rw [hQ]
                    exact ra_iretW (n, (pl phc psc nuc n fp fz (kd 0) (vl 0) (ct 0) 0 0 fh fg (bgY n ff fp fz 0) fk vs vb 0).1, (pl phc psc nuc n fp fz (kd 0) (vl 0) (ct 0) 0 0 fh fg (bgY n ff fp fz 0) fk vs vb 0).2.1, (pl phc psc nuc n fp fz (kd 0) (vl 0) (ct 0) 0 0 fh fg (bgY n ff fp fz 0) fk vs vb 0).2.2.1, (pl phc psc nuc n fp fz (kd 0) (vl 0) (ct 0) 0 0 fh fg (bgY n ff fp fz 0) fk vs vb 0).2.2.2.1, (pl phc psc nuc n fp fz (kd 0) (vl 0) (ct 0) 0 0 fh fg (bgY n ff fp fz 0) fk vs vb 0).2.2.2.2.1, (pl phc psc nuc n fp fz (kd 0) (vl 0) (ct 0) 0 0 fh fg (bgY n ff fp fz 0) fk vs vb 0).2.2.2.2.2.1, (pl phc psc nuc n fp fz (kd 0) (vl 0) (ct 0) 0 0 fh fg (bgY n ff fp fz 0) fk vs vb 0).2.2.2.2.2.2) hx hb hr hlocks rfl hK (hP.sub [4, 5, 6, 7, 8, 9, 10, 11, 12, 13, 14, 15, 16, 17, 18, 19, 0, 1, 20, 2, 3, 21] rfl) (hD.sub [4, 5, 6, 7, 8, 9, 10, 11, 12, 13, 14, 15, 16, 17, 18, 19, 0, 1, 20, 2, 3, 21] (by decide) rfl) hS (Eq.symm ((wSt_k (ct := ct) (cr := crW phc psc nuc n fz ct kd vl fh fg ff fk vs vb fp) (fl := flW phc psc nuc n fz ct kd vl fh fg ff fk vs vb fp) (fo := fo) (w := 0) n_19 c_46 c_51).trans ((wSt_0 (ct := ct) (cr := crW phc psc nuc n fz ct kd vl fh fg ff fk vs vb fp) (fl := flW phc psc nuc n fz ct kd vl fh fg ff fk vs vb fp) (fo := fo) (w := 1) n_19_2).trans (wSt_0 (ct := ct) (cr := crW phc psc nuc n fz ct kd vl fh fg ff fk vs vb fp) (fl := flW phc psc nuc n fz ct kd vl fh fg ff fk vs vb fp) (fo := fo) (w := 2) n_19_3)))) dX3_worstCrest_63
                  · ---- on
                    exact absurd c_7_4 (by decide)
                · ---- on
                  have n_19_3 := (nq_le_n (ct 2) 0 (by omega) (by omega)).mp c_19_3
                  refine lv_aload_n hx hb dX3_worstCrest_22 rfl (lv_at hl 2 rfl) ?_
                  refine lv_iload_n hx hb dX3_worstCrest_23 rfl (lv_at hl 0 rfl) ?_
                  refine ra_cV (q := (RX3, TX3, 8)) (ci := 3) (As := [.int 2]) (rest := []) (wc := [ob q0 3 [.ref a0, .ref t0, .ref z0, .int isv, .ref d0, .ref e0, .int fz, .ref g0], ob a0 0 [.int (nI n), .ref a1, .ref a2, .ref a3, .ref a4, .int vs, .int vb, .int vd], ai a1 cyI 7 fh, ai a2 cyI 7 fg, ai a3 cyI 7 ff, ai a4 cyI 7 fk, ob t0 0 [.int (nI n), .ref t1, .ref t2, .ref t3, .ref t4, .int ((pl phc psc nuc n fp fz (kd 0) (vl 0) (ct 0) 0 0 fh fg (bgY n ff fp fz 0) fk vs vb 0).2.2.2.2.1), .int ((pl phc psc nuc n fp fz (kd 0) (vl 0) (ct 0) 0 0 fh fg (bgY n ff fp fz 0) fk vs vb 0).2.2.2.2.2.1), .int ((pl phc psc nuc n fp fz (kd 0) (vl 0) (ct 0) 0 0 fh fg (bgY n ff fp fz 0) fk vs vb 0).2.2.2.2.2.2)], ai t1 cyI 7 ((pl phc psc nuc n fp fz (kd 0) (vl 0) (ct 0) 0 0 fh fg (bgY n ff fp fz 0) fk vs vb 0).1), ai t2 cyI 7 ((pl phc psc nuc n fp fz (kd 0) (vl 0) (ct 0) 0 0 fh fg (bgY n ff fp fz 0) fk vs vb 0).2.1), ai t3 cyI 7 ((pl phc psc nuc n fp fz (kd 0) (vl 0) (ct 0) 0 0 fh fg (bgY n ff fp fz 0) fk vs vb 0).2.2.1), ai t4 cyI 7 ((pl phc psc nuc n fp fz (kd 0) (vl 0) (ct 0) 0 0 fh fg (bgY n ff fp fz 0) fk vs vb 0).2.2.2.1), ob d0 2 [.ref d1, .ref d2, .ref d3], ai d1 cyI 3 (nF ct), aa d2 cyA 3 (r3 k0 k1 k2), aa d3 cyA 3 (r3 v0 v1 v2), ai k2 cyI 12 (kd 2), ai v2 cyI 12 (vl 2), ai g0 cyI 3 fp]) (wr := [ai k1 cyI 12 (kd 1), ai v1 cyI 12 (vl 1), ai k0 cyI 12 (kd 0), ai v0 cyI 12 (vl 0)]) ⟨hx, hb, hml, hown, hts⟩ (c_X3_play l dC dI cyI cyA q0 z0 e0 g0 isv fz a0 a1 a2 a3 a4 n fh fg ff fk vs vb vd t0 t1 t2 t3 t4 n ((pl phc psc nuc n fp fz (kd 0) (vl 0) (ct 0) 0 0 fh fg (bgY n ff fp fz 0) fk vs vb 0).1) ((pl phc psc nuc n fp fz (kd 0) (vl 0) (ct 0) 0 0 fh fg (bgY n ff fp fz 0) fk vs vb 0).2.1) ((pl phc psc nuc n fp fz (kd 0) (vl 0) (ct 0) 0 0 fh fg (bgY n ff fp fz 0) fk vs vb 0).2.2.1) ((pl phc psc nuc n fp fz (kd 0) (vl 0) (ct 0) 0 0 fh fg (bgY n ff fp fz 0) fk vs vb 0).2.2.2.1) ((pl phc psc nuc n fp fz (kd 0) (vl 0) (ct 0) 0 0 fh fg (bgY n ff fp fz 0) fk vs vb 0).2.2.2.2.1) ((pl phc psc nuc n fp fz (kd 0) (vl 0) (ct 0) 0 0 fh fg (bgY n ff fp fz 0) fk vs vb 0).2.2.2.2.2.1) ((pl phc psc nuc n fp fz (kd 0) (vl 0) (ct 0) 0 0 fh fg (bgY n ff fp fz 0) fk vs vb 0).2.2.2.2.2.2) d0 d1 d2 d3 ct (r3 k0 k1 k2) (r3 v0 v1 v2) 2 k2 v2 (kd 2) (vl 2) fp (by omega) (by omega) (by omega) rfl rfl H.size) (cwV 1 hts gX3_worstCrest_X3_play rfl rfl rfl (by decide +kernel) ⟨Nat.le_of_ble_eq_true rfl, Nat.le_of_ble_eq_true rfl⟩) hK hN hP hD hA hS [4, 5, 6, 7, 8, 9, 10, 11, 12, 13, 14, 15, 16, 17, 18, 1, 3, 21] [0, 2, 19, 20] rfl rfl (by decide) (by decide) (by decide) rfl rfl rfl hl.1 rfl (Nat.le_of_ble_eq_true rfl) dX3_worstCrest_24 ⟨Nat.le_of_ble_eq_true rfl, Nat.le_of_ble_eq_true rfl⟩ (fun u_5 hw_c5 H locs hP hD hS => ?_)
                  have hP : va_P (dC, dI) vwCl [ai k1 cyI 12 (kd 1), ai v1 cyI 12 (vl 1), ai k0 cyI 12 (kd 0), ai v0 cyI 12 (vl 0), ob q0 3 [.ref a0, .ref t0, .ref z0, .int isv, .ref d0, .ref e0, .int fz, .ref g0], ob a0 0 [.int (nI n), .ref a1, .ref a2, .ref a3, .ref a4, .int vs, .int vb, .int vd], ai a1 cyI 7 fh, ai a2 cyI 7 fg, ai a3 cyI 7 ff, ai a4 cyI 7 fk, ob t0 0 [.int (nI n), .ref t1, .ref t2, .ref t3, .ref t4, .int ((pl phc psc nuc n fp fz (kd 2) (vl 2) (ct 2) 0 0 fh fg (bgY n ff fp fz 0) fk vs vb 0).2.2.2.2.1), .int ((pl phc psc nuc n fp fz (kd 2) (vl 2) (ct 2) 0 0 fh fg (bgY n ff fp fz 0) fk vs vb 0).2.2.2.2.2.1), .int ((pl phc psc nuc n fp fz (kd 2) (vl 2) (ct 2) 0 0 fh fg (bgY n ff fp fz 0) fk vs vb 0).2.2.2.2.2.2)], ai t1 cyI 7 ((pl phc psc nuc n fp fz (kd 2) (vl 2) (ct 2) 0 0 fh fg (bgY n ff fp fz 0) fk vs vb 0).1), ai t2 cyI 7 ((pl phc psc nuc n fp fz (kd 2) (vl 2) (ct 2) 0 0 fh fg (bgY n ff fp fz 0) fk vs vb 0).2.1), ai t3 cyI 7 ((pl phc psc nuc n fp fz (kd 2) (vl 2) (ct 2) 0 0 fh fg (bgY n ff fp fz 0) fk vs vb 0).2.2.1), ai t4 cyI 7 ((pl phc psc nuc n fp fz (kd 2) (vl 2) (ct 2) 0 0 fh fg (bgY n ff fp fz 0) fk vs vb 0).2.2.2.1), ob d0 2 [.ref d1, .ref d2, .ref d3], ai d1 cyI 3 (nF ct), aa d2 cyA 3 (r3 k0 k1 k2), aa d3 cyA 3 (r3 v0 v1 v2), ai k2 cyI 12 (kd 2), ai v2 cyI 12 (vl 2), ai g0 cyI 3 fp] H := hP
                  have hD : va_D A [ai k1 cyI 12 (kd 1), ai v1 cyI 12 (vl 1), ai k0 cyI 12 (kd 0), ai v0 cyI 12 (vl 0), ob q0 3 [.ref a0, .ref t0, .ref z0, .int isv, .ref d0, .ref e0, .int fz, .ref g0], ob a0 0 [.int (nI n), .ref a1, .ref a2, .ref a3, .ref a4, .int vs, .int vb, .int vd], ai a1 cyI 7 fh, ai a2 cyI 7 fg, ai a3 cyI 7 ff, ai a4 cyI 7 fk, ob t0 0 [.int (nI n), .ref t1, .ref t2, .ref t3, .ref t4, .int ((pl phc psc nuc n fp fz (kd 2) (vl 2) (ct 2) 0 0 fh fg (bgY n ff fp fz 0) fk vs vb 0).2.2.2.2.1), .int ((pl phc psc nuc n fp fz (kd 2) (vl 2) (ct 2) 0 0 fh fg (bgY n ff fp fz 0) fk vs vb 0).2.2.2.2.2.1), .int ((pl phc psc nuc n fp fz (kd 2) (vl 2) (ct 2) 0 0 fh fg (bgY n ff fp fz 0) fk vs vb 0).2.2.2.2.2.2)], ai t1 cyI 7 ((pl phc psc nuc n fp fz (kd 2) (vl 2) (ct 2) 0 0 fh fg (bgY n ff fp fz 0) fk vs vb 0).1), ai t2 cyI 7 ((pl phc psc nuc n fp fz (kd 2) (vl 2) (ct 2) 0 0 fh fg (bgY n ff fp fz 0) fk vs vb 0).2.1), ai t3 cyI 7 ((pl phc psc nuc n fp fz (kd 2) (vl 2) (ct 2) 0 0 fh fg (bgY n ff fp fz 0) fk vs vb 0).2.2.1), ai t4 cyI 7 ((pl phc psc nuc n fp fz (kd 2) (vl 2) (ct 2) 0 0 fh fg (bgY n ff fp fz 0) fk vs vb 0).2.2.2.1), ob d0 2 [.ref d1, .ref d2, .ref d3], ai d1 cyI 3 (nF ct), aa d2 cyA 3 (r3 k0 k1 k2), aa d3 cyA 3 (r3 v0 v1 v2), ai k2 cyI 12 (kd 2), ai v2 cyI 12 (vl 2), ai g0 cyI 3 fp] := hD
                  refine lv_iload_n hx hb dX3_worstCrest_27 rfl (lv_at hl 1 rfl) ?_
                  refine lv_aload_n hx hb dX3_worstCrest_28 rfl (lv_at hl 2 rfl) ?_
                  refine va_get (D := (dC, dI)) (ci := 3) (v := .ref t0) (C := RX3) (T := TX3) (N := 8) hx hb hts hin_X3 hown hK hP 4 rfl rfl 1 (by decide) hw_5 (fun _ h9 => h9) rfl dX3_worstCrest_29 ?_
                  refine ra_cR (q := (RX0, TX0, 8)) (ci := 0) (As := []) (rest := [.int (jmin 99 (gMax ((pl phc psc nuc n fp fz (kd 0) (vl 0) (ct 0) 0 0 fh fg (bgY n ff fp fz 0) fk vs vb 0).1) n 0 0))]) (wc := [ob t0 0 [.int (nI n), .ref t1, .ref t2, .ref t3, .ref t4, .int ((pl phc psc nuc n fp fz (kd 2) (vl 2) (ct 2) 0 0 fh fg (bgY n ff fp fz 0) fk vs vb 0).2.2.2.2.1), .int ((pl phc psc nuc n fp fz (kd 2) (vl 2) (ct 2) 0 0 fh fg (bgY n ff fp fz 0) fk vs vb 0).2.2.2.2.2.1), .int ((pl phc psc nuc n fp fz (kd 2) (vl 2) (ct 2) 0 0 fh fg (bgY n ff fp fz 0) fk vs vb 0).2.2.2.2.2.2)], ai t1 cyI 7 ((pl phc psc nuc n fp fz (kd 2) (vl 2) (ct 2) 0 0 fh fg (bgY n ff fp fz 0) fk vs vb 0).1), ai t2 cyI 7 ((pl phc psc nuc n fp fz (kd 2) (vl 2) (ct 2) 0 0 fh fg (bgY n ff fp fz 0) fk vs vb 0).2.1), ai t3 cyI 7 ((pl phc psc nuc n fp fz (kd 2) (vl 2) (ct 2) 0 0 fh fg (bgY n ff fp fz 0) fk vs vb 0).2.2.1), ai t4 cyI 7 ((pl phc psc nuc n fp fz (kd 2) (vl 2) (ct 2) 0 0 fh fg (bgY n ff fp fz 0) fk vs vb 0).2.2.2.1)]) ⟨hx, hb, hml, hown, hts⟩ (c_X0_greatestHeight l dC dI cyI cyA t0 t1 t2 t3 t4 n ((pl phc psc nuc n fp fz (kd 2) (vl 2) (ct 2) 0 0 fh fg (bgY n ff fp fz 0) fk vs vb 0).1) ((pl phc psc nuc n fp fz (kd 2) (vl 2) (ct 2) 0 0 fh fg (bgY n ff fp fz 0) fk vs vb 0).2.1) ((pl phc psc nuc n fp fz (kd 2) (vl 2) (ct 2) 0 0 fh fg (bgY n ff fp fz 0) fk vs vb 0).2.2.1) ((pl phc psc nuc n fp fz (kd 2) (vl 2) (ct 2) 0 0 fh fg (bgY n ff fp fz 0) fk vs vb 0).2.2.2.1) ((pl phc psc nuc n fp fz (kd 2) (vl 2) (ct 2) 0 0 fh fg (bgY n ff fp fz 0) fk vs vb 0).2.2.2.2.1) ((pl phc psc nuc n fp fz (kd 2) (vl 2) (ct 2) 0 0 fh fg (bgY n ff fp fz 0) fk vs vb 0).2.2.2.2.2.1) ((pl phc psc nuc n fp fz (kd 2) (vl 2) (ct 2) 0 0 fh fg (bgY n ff fp fz 0) fk vs vb 0).2.2.2.2.2.2) (by omega)) (cwV 0 hts gX3_worstCrest_X0_greatestHeight rfl rfl rfl (by decide +kernel) ⟨Nat.le_of_ble_eq_true rfl, Nat.le_of_ble_eq_true rfl⟩) hK hN hP [10, 11, 12, 13, 14] rfl rfl rfl rfl hl.1 rfl (Nat.le_of_ble_eq_true rfl) dX3_worstCrest_32 ⟨Nat.le_of_ble_eq_true rfl, Nat.le_of_ble_eq_true rfl⟩ ?_
                  refine va_mmin hx hb (hml.trans hl.1.symm) hown hw_6 hw_7 hw_8 hw_9 (Nat.le_of_ble_eq_true rfl) (Nat.le_of_ble_eq_true rfl) (Nat.le_of_ble_eq_true rfl) (Nat.le_of_ble_eq_true rfl) dX3_worstCrest_35 ?_
                  refine ra_top (jmin (jmin 99 (gMax ((pl phc psc nuc n fp fz (kd 0) (vl 0) (ct 0) 0 0 fh fg (bgY n ff fp fz 0) fk vs vb 0).1) n 0 0)) (gMax ((pl phc psc nuc n fp fz (kd 2) (vl 2) (ct 2) 0 0 fh fg (bgY n ff fp fz 0) fk vs vb 0).1) n 0 0)) rfl ?_
                  refine lv_istore_n (lv' := [(2, .int (jmin (jmin 99 (gMax ((pl phc psc nuc n fp fz (kd 0) (vl 0) (ct 0) 0 0 fh fg (bgY n ff fp fz 0) fk vs vb 0).1) n 0 0)) (gMax ((pl phc psc nuc n fp fz (kd 2) (vl 2) (ct 2) 0 0 fh fg (bgY n ff fp fz 0) fk vs vb 0).1) n 0 0))), (3, .int 2), (0, .ref q0), (1, .int fo)]) hx hb dX3_worstCrest_38 rfl hl (by decide) rfl (fun ls hl => ?_)
                  refine lv_aload_n hx hb dX3_worstCrest_39 rfl (lv_at hl 2 rfl) ?_
                  refine va_get (D := (dC, dI)) (ci := 3) (v := .ref t0) (C := RX3) (T := TX3) (N := 8) hx hb hts hin_X3 hown hK hP 4 rfl rfl 1 (by decide) hw_5 (fun _ h9 => h9) rfl dX3_worstCrest_40 ?_
                  refine va_get (D := (dC, dI)) (ci := 0) (v := .int ((pl phc psc nuc n fp fz (kd 2) (vl 2) (ct 2) 0 0 fh fg (bgY n ff fp fz 0) fk vs vb 0).2.2.2.2.2.2)) (C := RX0) (T := TX0) (N := 8) hx hb hts hin_X0 hown hK hP 10 rfl rfl 7 (by decide) hw_10 (fun _ h9 => h9) rfl dX3_worstCrest_43 ?_
                  refine lv_if_gt (tgt := 54) hx hb dX3_worstCrest_46 (by decide) (fun c_46_2 => ?_) (fun c_46_2 => ?_)
                  · ---- to 54
                    refine lv_iconst (v := (-1)) hx hb dX3_worstCrest_54 (by decide) ?_
                    rw [hQ]
                    exact ra_iretW (n, (pl phc psc nuc n fp fz (kd 2) (vl 2) (ct 2) 0 0 fh fg (bgY n ff fp fz 0) fk vs vb 0).1, (pl phc psc nuc n fp fz (kd 2) (vl 2) (ct 2) 0 0 fh fg (bgY n ff fp fz 0) fk vs vb 0).2.1, (pl phc psc nuc n fp fz (kd 2) (vl 2) (ct 2) 0 0 fh fg (bgY n ff fp fz 0) fk vs vb 0).2.2.1, (pl phc psc nuc n fp fz (kd 2) (vl 2) (ct 2) 0 0 fh fg (bgY n ff fp fz 0) fk vs vb 0).2.2.2.1, (pl phc psc nuc n fp fz (kd 2) (vl 2) (ct 2) 0 0 fh fg (bgY n ff fp fz 0) fk vs vb 0).2.2.2.2.1, (pl phc psc nuc n fp fz (kd 2) (vl 2) (ct 2) 0 0 fh fg (bgY n ff fp fz 0) fk vs vb 0).2.2.2.2.2.1, (pl phc psc nuc n fp fz (kd 2) (vl 2) (ct 2) 0 0 fh fg (bgY n ff fp fz 0) fk vs vb 0).2.2.2.2.2.2) hx hb hr hlocks rfl hK (hP.sub [4, 5, 6, 7, 8, 9, 10, 11, 12, 13, 14, 15, 16, 17, 18, 2, 0, 19, 3, 1, 20, 21] rfl) (hD.sub [4, 5, 6, 7, 8, 9, 10, 11, 12, 13, 14, 15, 16, 17, 18, 2, 0, 19, 3, 1, 20, 21] (by decide) rfl) hS (Eq.symm ((wSt_k (ct := ct) (cr := crW phc psc nuc n fz ct kd vl fh fg ff fk vs vb fp) (fl := flW phc psc nuc n fz ct kd vl fh fg ff fk vs vb fp) (fo := fo) (w := 0) n_19 c_46 c_51).trans ((wSt_0 (ct := ct) (cr := crW phc psc nuc n fz ct kd vl fh fg ff fk vs vb fp) (fl := flW phc psc nuc n fz ct kd vl fh fg ff fk vs vb fp) (fo := fo) (w := 1) n_19_2).trans (wSt_f (ct := ct) (cr := crW phc psc nuc n fz ct kd vl fh fg ff fk vs vb fp) (fl := flW phc psc nuc n fz ct kd vl fh fg ff fk vs vb fp) (fo := fo) (w := 2) n_19_3 c_46_2)))) dX3_worstCrest_55
                  · ---- on
                    refine lv_iload_n hx hb dX3_worstCrest_49 rfl (lv_at hl 0 rfl) ?_
                    refine lv_iload_n hx hb dX3_worstCrest_50 rfl (lv_at hl 3 rfl) ?_
                    refine lv_icmp_ge (tgt := 56) hx hb dX3_worstCrest_51 (by decide) (fun c_51_2 => ?_) (fun c_51_2 => ?_)
                    · ---- to 56
                      refine lv_iinc (v := 3) (lv' := [(3, .int 3), (2, .int (jmin (jmin 99 (gMax ((pl phc psc nuc n fp fz (kd 0) (vl 0) (ct 0) 0 0 fh fg (bgY n ff fp fz 0) fk vs vb 0).1) n 0 0)) (gMax ((pl phc psc nuc n fp fz (kd 2) (vl 2) (ct 2) 0 0 fh fg (bgY n ff fp fz 0) fk vs vb 0).1) n 0 0))), (0, .ref q0), (1, .int fo)]) hx hb dX3_worstCrest_56 hl (k := 1) rfl (by decide) (by decide) rfl (fun ls hl => ?_)
                      refine lv_goto (tgt := 5) hx hb dX3_worstCrest_59 (by decide) ?_
                      refine lv_iload_n hx hb dX3_worstCrest_5 rfl (lv_at hl 0 rfl) ?_
                      refine lv_iconst (v := 3) hx hb dX3_worstCrest_6 (by decide) ?_
                      refine lv_icmp_ge (tgt := 62) hx hb dX3_worstCrest_7 (by decide) (fun c_7_4 => ?_) (fun c_7_4 => ?_)
                      · ---- to 62
                        refine lv_iload_n hx hb dX3_worstCrest_62 rfl (lv_at hl 1 rfl) ?_
                        rw [hQ]
                        exact ra_iretW (n, (pl phc psc nuc n fp fz (kd 2) (vl 2) (ct 2) 0 0 fh fg (bgY n ff fp fz 0) fk vs vb 0).1, (pl phc psc nuc n fp fz (kd 2) (vl 2) (ct 2) 0 0 fh fg (bgY n ff fp fz 0) fk vs vb 0).2.1, (pl phc psc nuc n fp fz (kd 2) (vl 2) (ct 2) 0 0 fh fg (bgY n ff fp fz 0) fk vs vb 0).2.2.1, (pl phc psc nuc n fp fz (kd 2) (vl 2) (ct 2) 0 0 fh fg (bgY n ff fp fz 0) fk vs vb 0).2.2.2.1, (pl phc psc nuc n fp fz (kd 2) (vl 2) (ct 2) 0 0 fh fg (bgY n ff fp fz 0) fk vs vb 0).2.2.2.2.1, (pl phc psc nuc n fp fz (kd 2) (vl 2) (ct 2) 0 0 fh fg (bgY n ff fp fz 0) fk vs vb 0).2.2.2.2.2.1, (pl phc psc nuc n fp fz (kd 2) (vl 2) (ct 2) 0 0 fh fg (bgY n ff fp fz 0) fk vs vb 0).2.2.2.2.2.2) hx hb hr hlocks rfl hK (hP.sub [4, 5, 6, 7, 8, 9, 10, 11, 12, 13, 14, 15, 16, 17, 18, 2, 0, 19, 3, 1, 20, 21] rfl) (hD.sub [4, 5, 6, 7, 8, 9, 10, 11, 12, 13, 14, 15, 16, 17, 18, 2, 0, 19, 3, 1, 20, 21] (by decide) rfl) hS (Eq.symm ((wSt_k (ct := ct) (cr := crW phc psc nuc n fz ct kd vl fh fg ff fk vs vb fp) (fl := flW phc psc nuc n fz ct kd vl fh fg ff fk vs vb fp) (fo := fo) (w := 0) n_19 c_46 c_51).trans ((wSt_0 (ct := ct) (cr := crW phc psc nuc n fz ct kd vl fh fg ff fk vs vb fp) (fl := flW phc psc nuc n fz ct kd vl fh fg ff fk vs vb fp) (fo := fo) (w := 1) n_19_2).trans (wSt_k (ct := ct) (cr := crW phc psc nuc n fz ct kd vl fh fg ff fk vs vb fp) (fl := flW phc psc nuc n fz ct kd vl fh fg ff fk vs vb fp) (fo := fo) (w := 2) n_19_3 c_46_2 c_51_2)))) dX3_worstCrest_63
                      · ---- on
                        exact absurd c_7_4 (by decide)
                    · ---- on
                      refine lv_iconst (v := (-1)) hx hb dX3_worstCrest_54 (by decide) ?_
                      rw [hQ]
                      exact ra_iretW (n, (pl phc psc nuc n fp fz (kd 2) (vl 2) (ct 2) 0 0 fh fg (bgY n ff fp fz 0) fk vs vb 0).1, (pl phc psc nuc n fp fz (kd 2) (vl 2) (ct 2) 0 0 fh fg (bgY n ff fp fz 0) fk vs vb 0).2.1, (pl phc psc nuc n fp fz (kd 2) (vl 2) (ct 2) 0 0 fh fg (bgY n ff fp fz 0) fk vs vb 0).2.2.1, (pl phc psc nuc n fp fz (kd 2) (vl 2) (ct 2) 0 0 fh fg (bgY n ff fp fz 0) fk vs vb 0).2.2.2.1, (pl phc psc nuc n fp fz (kd 2) (vl 2) (ct 2) 0 0 fh fg (bgY n ff fp fz 0) fk vs vb 0).2.2.2.2.1, (pl phc psc nuc n fp fz (kd 2) (vl 2) (ct 2) 0 0 fh fg (bgY n ff fp fz 0) fk vs vb 0).2.2.2.2.2.1, (pl phc psc nuc n fp fz (kd 2) (vl 2) (ct 2) 0 0 fh fg (bgY n ff fp fz 0) fk vs vb 0).2.2.2.2.2.2) hx hb hr hlocks rfl hK (hP.sub [4, 5, 6, 7, 8, 9, 10, 11, 12, 13, 14, 15, 16, 17, 18, 2, 0, 19, 3, 1, 20, 21] rfl) (hD.sub [4, 5, 6, 7, 8, 9, 10, 11, 12, 13, 14, 15, 16, 17, 18, 2, 0, 19, 3, 1, 20, 21] (by decide) rfl) hS (Eq.symm ((wSt_k (ct := ct) (cr := crW phc psc nuc n fz ct kd vl fh fg ff fk vs vb fp) (fl := flW phc psc nuc n fz ct kd vl fh fg ff fk vs vb fp) (fo := fo) (w := 0) n_19 c_46 c_51).trans ((wSt_0 (ct := ct) (cr := crW phc psc nuc n fz ct kd vl fh fg ff fk vs vb fp) (fl := flW phc psc nuc n fz ct kd vl fh fg ff fk vs vb fp) (fo := fo) (w := 1) n_19_2).trans (wSt_l (ct := ct) (cr := crW phc psc nuc n fz ct kd vl fh fg ff fk vs vb fp) (fl := flW phc psc nuc n fz ct kd vl fh fg ff fk vs vb fp) (fo := fo) (w := 2) n_19_3 c_46_2 c_51_2)))) dX3_worstCrest_55
            · ---- on
              have n_19_2 := (nq_le_n (ct 1) 0 (by omega) (by omega)).mp c_19_2
              refine lv_aload_n hx hb dX3_worstCrest_22 rfl (lv_at hl 2 rfl) ?_
              refine lv_iload_n hx hb dX3_worstCrest_23 rfl (lv_at hl 0 rfl) ?_
              refine ra_cV (q := (RX3, TX3, 8)) (ci := 3) (As := [.int 1]) (rest := []) (wc := [ob q0 3 [.ref a0, .ref t0, .ref z0, .int isv, .ref d0, .ref e0, .int fz, .ref g0], ob a0 0 [.int (nI n), .ref a1, .ref a2, .ref a3, .ref a4, .int vs, .int vb, .int vd], ai a1 cyI 7 fh, ai a2 cyI 7 fg, ai a3 cyI 7 ff, ai a4 cyI 7 fk, ob t0 0 [.int (nI n), .ref t1, .ref t2, .ref t3, .ref t4, .int ((pl phc psc nuc n fp fz (kd 0) (vl 0) (ct 0) 0 0 fh fg (bgY n ff fp fz 0) fk vs vb 0).2.2.2.2.1), .int ((pl phc psc nuc n fp fz (kd 0) (vl 0) (ct 0) 0 0 fh fg (bgY n ff fp fz 0) fk vs vb 0).2.2.2.2.2.1), .int ((pl phc psc nuc n fp fz (kd 0) (vl 0) (ct 0) 0 0 fh fg (bgY n ff fp fz 0) fk vs vb 0).2.2.2.2.2.2)], ai t1 cyI 7 ((pl phc psc nuc n fp fz (kd 0) (vl 0) (ct 0) 0 0 fh fg (bgY n ff fp fz 0) fk vs vb 0).1), ai t2 cyI 7 ((pl phc psc nuc n fp fz (kd 0) (vl 0) (ct 0) 0 0 fh fg (bgY n ff fp fz 0) fk vs vb 0).2.1), ai t3 cyI 7 ((pl phc psc nuc n fp fz (kd 0) (vl 0) (ct 0) 0 0 fh fg (bgY n ff fp fz 0) fk vs vb 0).2.2.1), ai t4 cyI 7 ((pl phc psc nuc n fp fz (kd 0) (vl 0) (ct 0) 0 0 fh fg (bgY n ff fp fz 0) fk vs vb 0).2.2.2.1), ob d0 2 [.ref d1, .ref d2, .ref d3], ai d1 cyI 3 (nF ct), aa d2 cyA 3 (r3 k0 k1 k2), aa d3 cyA 3 (r3 v0 v1 v2), ai k1 cyI 12 (kd 1), ai v1 cyI 12 (vl 1), ai g0 cyI 3 fp]) (wr := [ai k2 cyI 12 (kd 2), ai v2 cyI 12 (vl 2), ai k0 cyI 12 (kd 0), ai v0 cyI 12 (vl 0)]) ⟨hx, hb, hml, hown, hts⟩ (c_X3_play l dC dI cyI cyA q0 z0 e0 g0 isv fz a0 a1 a2 a3 a4 n fh fg ff fk vs vb vd t0 t1 t2 t3 t4 n ((pl phc psc nuc n fp fz (kd 0) (vl 0) (ct 0) 0 0 fh fg (bgY n ff fp fz 0) fk vs vb 0).1) ((pl phc psc nuc n fp fz (kd 0) (vl 0) (ct 0) 0 0 fh fg (bgY n ff fp fz 0) fk vs vb 0).2.1) ((pl phc psc nuc n fp fz (kd 0) (vl 0) (ct 0) 0 0 fh fg (bgY n ff fp fz 0) fk vs vb 0).2.2.1) ((pl phc psc nuc n fp fz (kd 0) (vl 0) (ct 0) 0 0 fh fg (bgY n ff fp fz 0) fk vs vb 0).2.2.2.1) ((pl phc psc nuc n fp fz (kd 0) (vl 0) (ct 0) 0 0 fh fg (bgY n ff fp fz 0) fk vs vb 0).2.2.2.2.1) ((pl phc psc nuc n fp fz (kd 0) (vl 0) (ct 0) 0 0 fh fg (bgY n ff fp fz 0) fk vs vb 0).2.2.2.2.2.1) ((pl phc psc nuc n fp fz (kd 0) (vl 0) (ct 0) 0 0 fh fg (bgY n ff fp fz 0) fk vs vb 0).2.2.2.2.2.2) d0 d1 d2 d3 ct (r3 k0 k1 k2) (r3 v0 v1 v2) 1 k1 v1 (kd 1) (vl 1) fp (by omega) (by omega) (by omega) rfl rfl H.size) (cwV 1 hts gX3_worstCrest_X3_play rfl rfl rfl (by decide +kernel) ⟨Nat.le_of_ble_eq_true rfl, Nat.le_of_ble_eq_true rfl⟩) hK hN hP hD hA hS [4, 5, 6, 7, 8, 9, 10, 11, 12, 13, 14, 15, 16, 17, 18, 0, 2, 21] [1, 3, 19, 20] rfl rfl (by decide) (by decide) (by decide) rfl rfl rfl hl.1 rfl (Nat.le_of_ble_eq_true rfl) dX3_worstCrest_24 ⟨Nat.le_of_ble_eq_true rfl, Nat.le_of_ble_eq_true rfl⟩ (fun u_6 hw_c6 H locs hP hD hS => ?_)
              have hP : va_P (dC, dI) vwCl [ai k2 cyI 12 (kd 2), ai v2 cyI 12 (vl 2), ai k0 cyI 12 (kd 0), ai v0 cyI 12 (vl 0), ob q0 3 [.ref a0, .ref t0, .ref z0, .int isv, .ref d0, .ref e0, .int fz, .ref g0], ob a0 0 [.int (nI n), .ref a1, .ref a2, .ref a3, .ref a4, .int vs, .int vb, .int vd], ai a1 cyI 7 fh, ai a2 cyI 7 fg, ai a3 cyI 7 ff, ai a4 cyI 7 fk, ob t0 0 [.int (nI n), .ref t1, .ref t2, .ref t3, .ref t4, .int ((pl phc psc nuc n fp fz (kd 1) (vl 1) (ct 1) 0 0 fh fg (bgY n ff fp fz 0) fk vs vb 0).2.2.2.2.1), .int ((pl phc psc nuc n fp fz (kd 1) (vl 1) (ct 1) 0 0 fh fg (bgY n ff fp fz 0) fk vs vb 0).2.2.2.2.2.1), .int ((pl phc psc nuc n fp fz (kd 1) (vl 1) (ct 1) 0 0 fh fg (bgY n ff fp fz 0) fk vs vb 0).2.2.2.2.2.2)], ai t1 cyI 7 ((pl phc psc nuc n fp fz (kd 1) (vl 1) (ct 1) 0 0 fh fg (bgY n ff fp fz 0) fk vs vb 0).1), ai t2 cyI 7 ((pl phc psc nuc n fp fz (kd 1) (vl 1) (ct 1) 0 0 fh fg (bgY n ff fp fz 0) fk vs vb 0).2.1), ai t3 cyI 7 ((pl phc psc nuc n fp fz (kd 1) (vl 1) (ct 1) 0 0 fh fg (bgY n ff fp fz 0) fk vs vb 0).2.2.1), ai t4 cyI 7 ((pl phc psc nuc n fp fz (kd 1) (vl 1) (ct 1) 0 0 fh fg (bgY n ff fp fz 0) fk vs vb 0).2.2.2.1), ob d0 2 [.ref d1, .ref d2, .ref d3], ai d1 cyI 3 (nF ct), aa d2 cyA 3 (r3 k0 k1 k2), aa d3 cyA 3 (r3 v0 v1 v2), ai k1 cyI 12 (kd 1), ai v1 cyI 12 (vl 1), ai g0 cyI 3 fp] H := hP
              have hD : va_D A [ai k2 cyI 12 (kd 2), ai v2 cyI 12 (vl 2), ai k0 cyI 12 (kd 0), ai v0 cyI 12 (vl 0), ob q0 3 [.ref a0, .ref t0, .ref z0, .int isv, .ref d0, .ref e0, .int fz, .ref g0], ob a0 0 [.int (nI n), .ref a1, .ref a2, .ref a3, .ref a4, .int vs, .int vb, .int vd], ai a1 cyI 7 fh, ai a2 cyI 7 fg, ai a3 cyI 7 ff, ai a4 cyI 7 fk, ob t0 0 [.int (nI n), .ref t1, .ref t2, .ref t3, .ref t4, .int ((pl phc psc nuc n fp fz (kd 1) (vl 1) (ct 1) 0 0 fh fg (bgY n ff fp fz 0) fk vs vb 0).2.2.2.2.1), .int ((pl phc psc nuc n fp fz (kd 1) (vl 1) (ct 1) 0 0 fh fg (bgY n ff fp fz 0) fk vs vb 0).2.2.2.2.2.1), .int ((pl phc psc nuc n fp fz (kd 1) (vl 1) (ct 1) 0 0 fh fg (bgY n ff fp fz 0) fk vs vb 0).2.2.2.2.2.2)], ai t1 cyI 7 ((pl phc psc nuc n fp fz (kd 1) (vl 1) (ct 1) 0 0 fh fg (bgY n ff fp fz 0) fk vs vb 0).1), ai t2 cyI 7 ((pl phc psc nuc n fp fz (kd 1) (vl 1) (ct 1) 0 0 fh fg (bgY n ff fp fz 0) fk vs vb 0).2.1), ai t3 cyI 7 ((pl phc psc nuc n fp fz (kd 1) (vl 1) (ct 1) 0 0 fh fg (bgY n ff fp fz 0) fk vs vb 0).2.2.1), ai t4 cyI 7 ((pl phc psc nuc n fp fz (kd 1) (vl 1) (ct 1) 0 0 fh fg (bgY n ff fp fz 0) fk vs vb 0).2.2.2.1), ob d0 2 [.ref d1, .ref d2, .ref d3], ai d1 cyI 3 (nF ct), aa d2 cyA 3 (r3 k0 k1 k2), aa d3 cyA 3 (r3 v0 v1 v2), ai k1 cyI 12 (kd 1), ai v1 cyI 12 (vl 1), ai g0 cyI 3 fp] := hD
              refine lv_iload_n hx hb dX3_worstCrest_27 rfl (lv_at hl 1 rfl) ?_
              refine lv_aload_n hx hb dX3_worstCrest_28 rfl (lv_at hl 2 rfl) ?_
              refine va_get (D := (dC, dI)) (ci := 3) (v := .ref t0) (C := RX3) (T := TX3) (N := 8) hx hb hts hin_X3 hown hK hP 4 rfl rfl 1 (by decide) hw_5 (fun _ h9 => h9) rfl dX3_worstCrest_29 ?_
              refine ra_cR (q := (RX0, TX0, 8)) (ci := 0) (As := []) (rest := [.int (jmin 99 (gMax ((pl phc psc nuc n fp fz (kd 0) (vl 0) (ct 0) 0 0 fh fg (bgY n ff fp fz 0) fk vs vb 0).1) n 0 0))]) (wc := [ob t0 0 [.int (nI n), .ref t1, .ref t2, .ref t3, .ref t4, .int ((pl phc psc nuc n fp fz (kd 1) (vl 1) (ct 1) 0 0 fh fg (bgY n ff fp fz 0) fk vs vb 0).2.2.2.2.1), .int ((pl phc psc nuc n fp fz (kd 1) (vl 1) (ct 1) 0 0 fh fg (bgY n ff fp fz 0) fk vs vb 0).2.2.2.2.2.1), .int ((pl phc psc nuc n fp fz (kd 1) (vl 1) (ct 1) 0 0 fh fg (bgY n ff fp fz 0) fk vs vb 0).2.2.2.2.2.2)], ai t1 cyI 7 ((pl phc psc nuc n fp fz (kd 1) (vl 1) (ct 1) 0 0 fh fg (bgY n ff fp fz 0) fk vs vb 0).1), ai t2 cyI 7 ((pl phc psc nuc n fp fz (kd 1) (vl 1) (ct 1) 0 0 fh fg (bgY n ff fp fz 0) fk vs vb 0).2.1), ai t3 cyI 7 ((pl phc psc nuc n fp fz (kd 1) (vl 1) (ct 1) 0 0 fh fg (bgY n ff fp fz 0) fk vs vb 0).2.2.1), ai t4 cyI 7 ((pl phc psc nuc n fp fz (kd 1) (vl 1) (ct 1) 0 0 fh fg (bgY n ff fp fz 0) fk vs vb 0).2.2.2.1)]) ⟨hx, hb, hml, hown, hts⟩ (c_X0_greatestHeight l dC dI cyI cyA t0 t1 t2 t3 t4 n ((pl phc psc nuc n fp fz (kd 1) (vl 1) (ct 1) 0 0 fh fg (bgY n ff fp fz 0) fk vs vb 0).1) ((pl phc psc nuc n fp fz (kd 1) (vl 1) (ct 1) 0 0 fh fg (bgY n ff fp fz 0) fk vs vb 0).2.1) ((pl phc psc nuc n fp fz (kd 1) (vl 1) (ct 1) 0 0 fh fg (bgY n ff fp fz 0) fk vs vb 0).2.2.1) ((pl phc psc nuc n fp fz (kd 1) (vl 1) (ct 1) 0 0 fh fg (bgY n ff fp fz 0) fk vs vb 0).2.2.2.1) ((pl phc psc nuc n fp fz (kd 1) (vl 1) (ct 1) 0 0 fh fg (bgY n ff fp fz 0) fk vs vb 0).2.2.2.2.1) ((pl phc psc nuc n fp fz (kd 1) (vl 1) (ct 1) 0 0 fh fg (bgY n ff fp fz 0) fk vs vb 0).2.2.2.2.2.1) ((pl phc psc nuc n fp fz (kd 1) (vl 1) (ct 1) 0 0 fh fg (bgY n ff fp fz 0) fk vs vb 0).2.2.2.2.2.2) (by omega)) (cwV 0 hts gX3_worstCrest_X0_greatestHeight rfl rfl rfl (by decide +kernel) ⟨Nat.le_of_ble_eq_true rfl, Nat.le_of_ble_eq_true rfl⟩) hK hN hP [10, 11, 12, 13, 14] rfl rfl rfl rfl hl.1 rfl (Nat.le_of_ble_eq_true rfl) dX3_worstCrest_32 ⟨Nat.le_of_ble_eq_true rfl, Nat.le_of_ble_eq_true rfl⟩ ?_
              refine va_mmin hx hb (hml.trans hl.1.symm) hown hw_6 hw_7 hw_8 hw_9 (Nat.le_of_ble_eq_true rfl) (Nat.le_of_ble_eq_true rfl) (Nat.le_of_ble_eq_true rfl) (Nat.le_of_ble_eq_true rfl) dX3_worstCrest_35 ?_
              refine ra_top (jmin (jmin 99 (gMax ((pl phc psc nuc n fp fz (kd 0) (vl 0) (ct 0) 0 0 fh fg (bgY n ff fp fz 0) fk vs vb 0).1) n 0 0)) (gMax ((pl phc psc nuc n fp fz (kd 1) (vl 1) (ct 1) 0 0 fh fg (bgY n ff fp fz 0) fk vs vb 0).1) n 0 0)) rfl ?_
              refine lv_istore_n (lv' := [(2, .int (jmin (jmin 99 (gMax ((pl phc psc nuc n fp fz (kd 0) (vl 0) (ct 0) 0 0 fh fg (bgY n ff fp fz 0) fk vs vb 0).1) n 0 0)) (gMax ((pl phc psc nuc n fp fz (kd 1) (vl 1) (ct 1) 0 0 fh fg (bgY n ff fp fz 0) fk vs vb 0).1) n 0 0))), (3, .int 1), (0, .ref q0), (1, .int fo)]) hx hb dX3_worstCrest_38 rfl hl (by decide) rfl (fun ls hl => ?_)
              refine lv_aload_n hx hb dX3_worstCrest_39 rfl (lv_at hl 2 rfl) ?_
              refine va_get (D := (dC, dI)) (ci := 3) (v := .ref t0) (C := RX3) (T := TX3) (N := 8) hx hb hts hin_X3 hown hK hP 4 rfl rfl 1 (by decide) hw_5 (fun _ h9 => h9) rfl dX3_worstCrest_40 ?_
              refine va_get (D := (dC, dI)) (ci := 0) (v := .int ((pl phc psc nuc n fp fz (kd 1) (vl 1) (ct 1) 0 0 fh fg (bgY n ff fp fz 0) fk vs vb 0).2.2.2.2.2.2)) (C := RX0) (T := TX0) (N := 8) hx hb hts hin_X0 hown hK hP 10 rfl rfl 7 (by decide) hw_10 (fun _ h9 => h9) rfl dX3_worstCrest_43 ?_
              refine lv_if_gt (tgt := 54) hx hb dX3_worstCrest_46 (by decide) (fun c_46_2 => ?_) (fun c_46_2 => ?_)
              · ---- to 54
                refine lv_iconst (v := (-1)) hx hb dX3_worstCrest_54 (by decide) ?_
                rw [hQ]
                exact ra_iretW (n, (pl phc psc nuc n fp fz (kd 1) (vl 1) (ct 1) 0 0 fh fg (bgY n ff fp fz 0) fk vs vb 0).1, (pl phc psc nuc n fp fz (kd 1) (vl 1) (ct 1) 0 0 fh fg (bgY n ff fp fz 0) fk vs vb 0).2.1, (pl phc psc nuc n fp fz (kd 1) (vl 1) (ct 1) 0 0 fh fg (bgY n ff fp fz 0) fk vs vb 0).2.2.1, (pl phc psc nuc n fp fz (kd 1) (vl 1) (ct 1) 0 0 fh fg (bgY n ff fp fz 0) fk vs vb 0).2.2.2.1, (pl phc psc nuc n fp fz (kd 1) (vl 1) (ct 1) 0 0 fh fg (bgY n ff fp fz 0) fk vs vb 0).2.2.2.2.1, (pl phc psc nuc n fp fz (kd 1) (vl 1) (ct 1) 0 0 fh fg (bgY n ff fp fz 0) fk vs vb 0).2.2.2.2.2.1, (pl phc psc nuc n fp fz (kd 1) (vl 1) (ct 1) 0 0 fh fg (bgY n ff fp fz 0) fk vs vb 0).2.2.2.2.2.2) hx hb hr hlocks rfl hK (hP.sub [4, 5, 6, 7, 8, 9, 10, 11, 12, 13, 14, 15, 16, 17, 18, 2, 19, 0, 3, 20, 1, 21] rfl) (hD.sub [4, 5, 6, 7, 8, 9, 10, 11, 12, 13, 14, 15, 16, 17, 18, 2, 19, 0, 3, 20, 1, 21] (by decide) rfl) hS (Eq.symm ((wSt_k (ct := ct) (cr := crW phc psc nuc n fz ct kd vl fh fg ff fk vs vb fp) (fl := flW phc psc nuc n fz ct kd vl fh fg ff fk vs vb fp) (fo := fo) (w := 0) n_19 c_46 c_51).trans (wSt_f (ct := ct) (cr := crW phc psc nuc n fz ct kd vl fh fg ff fk vs vb fp) (fl := flW phc psc nuc n fz ct kd vl fh fg ff fk vs vb fp) (fo := fo) (w := 1) n_19_2 c_46_2))) dX3_worstCrest_55
              · ---- on
                refine lv_iload_n hx hb dX3_worstCrest_49 rfl (lv_at hl 0 rfl) ?_
                refine lv_iload_n hx hb dX3_worstCrest_50 rfl (lv_at hl 3 rfl) ?_
                refine lv_icmp_ge (tgt := 56) hx hb dX3_worstCrest_51 (by decide) (fun c_51_2 => ?_) (fun c_51_2 => ?_)
                · ---- to 56
                  refine lv_iinc (v := 2) (lv' := [(3, .int 2), (2, .int (jmin (jmin 99 (gMax ((pl phc psc nuc n fp fz (kd 0) (vl 0) (ct 0) 0 0 fh fg (bgY n ff fp fz 0) fk vs vb 0).1) n 0 0)) (gMax ((pl phc psc nuc n fp fz (kd 1) (vl 1) (ct 1) 0 0 fh fg (bgY n ff fp fz 0) fk vs vb 0).1) n 0 0))), (0, .ref q0), (1, .int fo)]) hx hb dX3_worstCrest_56 hl (k := 1) rfl (by decide) (by decide) rfl (fun ls hl => ?_)
                  refine lv_goto (tgt := 5) hx hb dX3_worstCrest_59 (by decide) ?_
                  refine lv_iload_n hx hb dX3_worstCrest_5 rfl (lv_at hl 0 rfl) ?_
                  refine lv_iconst (v := 3) hx hb dX3_worstCrest_6 (by decide) ?_
                  refine lv_icmp_ge (tgt := 62) hx hb dX3_worstCrest_7 (by decide) (fun c_7_3 => ?_) (fun c_7_3 => ?_)
                  · ---- to 62
                    exact absurd c_7_3 (by decide)
                  · ---- on
                    refine lv_aload_n hx hb dX3_worstCrest_10 rfl (lv_at hl 2 rfl) ?_
                    refine va_get (D := (dC, dI)) (ci := 3) (v := .ref d0) (C := RX3) (T := TX3) (N := 8) hx hb hts hin_X3 hown hK hP 4 rfl rfl 4 (by decide) hw_1 (fun _ h9 => h9) rfl dX3_worstCrest_11 ?_
                    refine va_get (D := (dC, dI)) (ci := 2) (v := .ref d1) (C := RX2) (T := TX2) (N := 3) hx hb hts hin_X2 hown hK hP 15 rfl rfl 0 (by decide) hw_3 (fun _ h9 => h9) rfl dX3_worstCrest_14 ?_
                    refine lv_iload_n hx hb dX3_worstCrest_17 rfl (lv_at hl 0 rfl) ?_
                    refine ra_iald hx hb hK hP 16 rfl 2 rfl (by omega) (Nat.le_of_ble_eq_true rfl) dX3_worstCrest_18 ?_
                    refine ra_top (nI (ct 2)) rfl ?_
                    refine lv_if_le (tgt := 56) hx hb dX3_worstCrest_19 (by decide) (fun c_19_3 => ?_) (fun c_19_3 => ?_)
                    · ---- to 56
                      have n_19_3 := (nq_le (ct 2) 0 (by omega) (by omega)).mp c_19_3
                      refine lv_iinc (v := 3) (lv' := [(3, .int 3), (2, .int (jmin (jmin 99 (gMax ((pl phc psc nuc n fp fz (kd 0) (vl 0) (ct 0) 0 0 fh fg (bgY n ff fp fz 0) fk vs vb 0).1) n 0 0)) (gMax ((pl phc psc nuc n fp fz (kd 1) (vl 1) (ct 1) 0 0 fh fg (bgY n ff fp fz 0) fk vs vb 0).1) n 0 0))), (0, .ref q0), (1, .int fo)]) hx hb dX3_worstCrest_56 hl (k := 0) rfl (by decide) (by decide) rfl (fun ls hl => ?_)
                      refine lv_goto (tgt := 5) hx hb dX3_worstCrest_59 (by decide) ?_
                      refine lv_iload_n hx hb dX3_worstCrest_5 rfl (lv_at hl 0 rfl) ?_
                      refine lv_iconst (v := 3) hx hb dX3_worstCrest_6 (by decide) ?_
                      refine lv_icmp_ge (tgt := 62) hx hb dX3_worstCrest_7 (by decide) (fun c_7_4 => ?_) (fun c_7_4 => ?_)
                      · ---- to 62
                        refine lv_iload_n hx hb dX3_worstCrest_62 rfl (lv_at hl 1 rfl) ?_
                        rw [hQ]
                        exact ra_iretW (n, (pl phc psc nuc n fp fz (kd 1) (vl 1) (ct 1) 0 0 fh fg (bgY n ff fp fz 0) fk vs vb 0).1, (pl phc psc nuc n fp fz (kd 1) (vl 1) (ct 1) 0 0 fh fg (bgY n ff fp fz 0) fk vs vb 0).2.1, (pl phc psc nuc n fp fz (kd 1) (vl 1) (ct 1) 0 0 fh fg (bgY n ff fp fz 0) fk vs vb 0).2.2.1, (pl phc psc nuc n fp fz (kd 1) (vl 1) (ct 1) 0 0 fh fg (bgY n ff fp fz 0) fk vs vb 0).2.2.2.1, (pl phc psc nuc n fp fz (kd 1) (vl 1) (ct 1) 0 0 fh fg (bgY n ff fp fz 0) fk vs vb 0).2.2.2.2.1, (pl phc psc nuc n fp fz (kd 1) (vl 1) (ct 1) 0 0 fh fg (bgY n ff fp fz 0) fk vs vb 0).2.2.2.2.2.1, (pl phc psc nuc n fp fz (kd 1) (vl 1) (ct 1) 0 0 fh fg (bgY n ff fp fz 0) fk vs vb 0).2.2.2.2.2.2) hx hb hr hlocks rfl hK (hP.sub [4, 5, 6, 7, 8, 9, 10, 11, 12, 13, 14, 15, 16, 17, 18, 2, 19, 0, 3, 20, 1, 21] rfl) (hD.sub [4, 5, 6, 7, 8, 9, 10, 11, 12, 13, 14, 15, 16, 17, 18, 2, 19, 0, 3, 20, 1, 21] (by decide) rfl) hS (Eq.symm ((wSt_k (ct := ct) (cr := crW phc psc nuc n fz ct kd vl fh fg ff fk vs vb fp) (fl := flW phc psc nuc n fz ct kd vl fh fg ff fk vs vb fp) (fo := fo) (w := 0) n_19 c_46 c_51).trans ((wSt_k (ct := ct) (cr := crW phc psc nuc n fz ct kd vl fh fg ff fk vs vb fp) (fl := flW phc psc nuc n fz ct kd vl fh fg ff fk vs vb fp) (fo := fo) (w := 1) n_19_2 c_46_2 c_51_2).trans (wSt_0 (ct := ct) (cr := crW phc psc nuc n fz ct kd vl fh fg ff fk vs vb fp) (fl := flW phc psc nuc n fz ct kd vl fh fg ff fk vs vb fp) (fo := fo) (w := 2) n_19_3)))) dX3_worstCrest_63
                      · ---- on
                        exact absurd c_7_4 (by decide)
                    · ---- on
                      have n_19_3 := (nq_le_n (ct 2) 0 (by omega) (by omega)).mp c_19_3
                      refine lv_aload_n hx hb dX3_worstCrest_22 rfl (lv_at hl 2 rfl) ?_
                      refine lv_iload_n hx hb dX3_worstCrest_23 rfl (lv_at hl 0 rfl) ?_
                      refine ra_cV (q := (RX3, TX3, 8)) (ci := 3) (As := [.int 2]) (rest := []) (wc := [ob q0 3 [.ref a0, .ref t0, .ref z0, .int isv, .ref d0, .ref e0, .int fz, .ref g0], ob a0 0 [.int (nI n), .ref a1, .ref a2, .ref a3, .ref a4, .int vs, .int vb, .int vd], ai a1 cyI 7 fh, ai a2 cyI 7 fg, ai a3 cyI 7 ff, ai a4 cyI 7 fk, ob t0 0 [.int (nI n), .ref t1, .ref t2, .ref t3, .ref t4, .int ((pl phc psc nuc n fp fz (kd 1) (vl 1) (ct 1) 0 0 fh fg (bgY n ff fp fz 0) fk vs vb 0).2.2.2.2.1), .int ((pl phc psc nuc n fp fz (kd 1) (vl 1) (ct 1) 0 0 fh fg (bgY n ff fp fz 0) fk vs vb 0).2.2.2.2.2.1), .int ((pl phc psc nuc n fp fz (kd 1) (vl 1) (ct 1) 0 0 fh fg (bgY n ff fp fz 0) fk vs vb 0).2.2.2.2.2.2)], ai t1 cyI 7 ((pl phc psc nuc n fp fz (kd 1) (vl 1) (ct 1) 0 0 fh fg (bgY n ff fp fz 0) fk vs vb 0).1), ai t2 cyI 7 ((pl phc psc nuc n fp fz (kd 1) (vl 1) (ct 1) 0 0 fh fg (bgY n ff fp fz 0) fk vs vb 0).2.1), ai t3 cyI 7 ((pl phc psc nuc n fp fz (kd 1) (vl 1) (ct 1) 0 0 fh fg (bgY n ff fp fz 0) fk vs vb 0).2.2.1), ai t4 cyI 7 ((pl phc psc nuc n fp fz (kd 1) (vl 1) (ct 1) 0 0 fh fg (bgY n ff fp fz 0) fk vs vb 0).2.2.2.1), ob d0 2 [.ref d1, .ref d2, .ref d3], ai d1 cyI 3 (nF ct), aa d2 cyA 3 (r3 k0 k1 k2), aa d3 cyA 3 (r3 v0 v1 v2), ai k2 cyI 12 (kd 2), ai v2 cyI 12 (vl 2), ai g0 cyI 3 fp]) (wr := [ai k0 cyI 12 (kd 0), ai v0 cyI 12 (vl 0), ai k1 cyI 12 (kd 1), ai v1 cyI 12 (vl 1)]) ⟨hx, hb, hml, hown, hts⟩ (c_X3_play l dC dI cyI cyA q0 z0 e0 g0 isv fz a0 a1 a2 a3 a4 n fh fg ff fk vs vb vd t0 t1 t2 t3 t4 n ((pl phc psc nuc n fp fz (kd 1) (vl 1) (ct 1) 0 0 fh fg (bgY n ff fp fz 0) fk vs vb 0).1) ((pl phc psc nuc n fp fz (kd 1) (vl 1) (ct 1) 0 0 fh fg (bgY n ff fp fz 0) fk vs vb 0).2.1) ((pl phc psc nuc n fp fz (kd 1) (vl 1) (ct 1) 0 0 fh fg (bgY n ff fp fz 0) fk vs vb 0).2.2.1) ((pl phc psc nuc n fp fz (kd 1) (vl 1) (ct 1) 0 0 fh fg (bgY n ff fp fz 0) fk vs vb 0).2.2.2.1) ((pl phc psc nuc n fp fz (kd 1) (vl 1) (ct 1) 0 0 fh fg (bgY n ff fp fz 0) fk vs vb 0).2.2.2.2.1) ((pl phc psc nuc n fp fz (kd 1) (vl 1) (ct 1) 0 0 fh fg (bgY n ff fp fz 0) fk vs vb 0).2.2.2.2.2.1) ((pl phc psc nuc n fp fz (kd 1) (vl 1) (ct 1) 0 0 fh fg (bgY n ff fp fz 0) fk vs vb 0).2.2.2.2.2.2) d0 d1 d2 d3 ct (r3 k0 k1 k2) (r3 v0 v1 v2) 2 k2 v2 (kd 2) (vl 2) fp (by omega) (by omega) (by omega) rfl rfl H.size) (cwV 1 hts gX3_worstCrest_X3_play rfl rfl rfl (by decide +kernel) ⟨Nat.le_of_ble_eq_true rfl, Nat.le_of_ble_eq_true rfl⟩) hK hN hP hD hA hS [4, 5, 6, 7, 8, 9, 10, 11, 12, 13, 14, 15, 16, 17, 18, 0, 1, 21] [2, 3, 19, 20] rfl rfl (by decide) (by decide) (by decide) rfl rfl rfl hl.1 rfl (Nat.le_of_ble_eq_true rfl) dX3_worstCrest_24 ⟨Nat.le_of_ble_eq_true rfl, Nat.le_of_ble_eq_true rfl⟩ (fun u_7 hw_c7 H locs hP hD hS => ?_)
                      have hP : va_P (dC, dI) vwCl [ai k0 cyI 12 (kd 0), ai v0 cyI 12 (vl 0), ai k1 cyI 12 (kd 1), ai v1 cyI 12 (vl 1), ob q0 3 [.ref a0, .ref t0, .ref z0, .int isv, .ref d0, .ref e0, .int fz, .ref g0], ob a0 0 [.int (nI n), .ref a1, .ref a2, .ref a3, .ref a4, .int vs, .int vb, .int vd], ai a1 cyI 7 fh, ai a2 cyI 7 fg, ai a3 cyI 7 ff, ai a4 cyI 7 fk, ob t0 0 [.int (nI n), .ref t1, .ref t2, .ref t3, .ref t4, .int ((pl phc psc nuc n fp fz (kd 2) (vl 2) (ct 2) 0 0 fh fg (bgY n ff fp fz 0) fk vs vb 0).2.2.2.2.1), .int ((pl phc psc nuc n fp fz (kd 2) (vl 2) (ct 2) 0 0 fh fg (bgY n ff fp fz 0) fk vs vb 0).2.2.2.2.2.1), .int ((pl phc psc nuc n fp fz (kd 2) (vl 2) (ct 2) 0 0 fh fg (bgY n ff fp fz 0) fk vs vb 0).2.2.2.2.2.2)], ai t1 cyI 7 ((pl phc psc nuc n fp fz (kd 2) (vl 2) (ct 2) 0 0 fh fg (bgY n ff fp fz 0) fk vs vb 0).1), ai t2 cyI 7 ((pl phc psc nuc n fp fz (kd 2) (vl 2) (ct 2) 0 0 fh fg (bgY n ff fp fz 0) fk vs vb 0).2.1), ai t3 cyI 7 ((pl phc psc nuc n fp fz (kd 2) (vl 2) (ct 2) 0 0 fh fg (bgY n ff fp fz 0) fk vs vb 0).2.2.1), ai t4 cyI 7 ((pl phc psc nuc n fp fz (kd 2) (vl 2) (ct 2) 0 0 fh fg (bgY n ff fp fz 0) fk vs vb 0).2.2.2.1), ob d0 2 [.ref d1, .ref d2, .ref d3], ai d1 cyI 3 (nF ct), aa d2 cyA 3 (r3 k0 k1 k2), aa d3 cyA 3 (r3 v0 v1 v2), ai k2 cyI 12 (kd 2), ai v2 cyI 12 (vl 2), ai g0 cyI 3 fp] H := hP
                      have hD : va_D A [ai k0 cyI 12 (kd 0), ai v0 cyI 12 (vl 0), ai k1 cyI 12 (kd 1), ai v1 cyI 12 (vl 1), ob q0 3 [.ref a0, .ref t0, .ref z0, .int isv, .ref d0, .ref e0, .int fz, .ref g0], ob a0 0 [.int (nI n), .ref a1, .ref a2, .ref a3, .ref a4, .int vs, .int vb, .int vd], ai a1 cyI 7 fh, ai a2 cyI 7 fg, ai a3 cyI 7 ff, ai a4 cyI 7 fk, ob t0 0 [.int (nI n), .ref t1, .ref t2, .ref t3, .ref t4, .int ((pl phc psc nuc n fp fz (kd 2) (vl 2) (ct 2) 0 0 fh fg (bgY n ff fp fz 0) fk vs vb 0).2.2.2.2.1), .int ((pl phc psc nuc n fp fz (kd 2) (vl 2) (ct 2) 0 0 fh fg (bgY n ff fp fz 0) fk vs vb 0).2.2.2.2.2.1), .int ((pl phc psc nuc n fp fz (kd 2) (vl 2) (ct 2) 0 0 fh fg (bgY n ff fp fz 0) fk vs vb 0).2.2.2.2.2.2)], ai t1 cyI 7 ((pl phc psc nuc n fp fz (kd 2) (vl 2) (ct 2) 0 0 fh fg (bgY n ff fp fz 0) fk vs vb 0).1), ai t2 cyI 7 ((pl phc psc nuc n fp fz (kd 2) (vl 2) (ct 2) 0 0 fh fg (bgY n ff fp fz 0) fk vs vb 0).2.1), ai t3 cyI 7 ((pl phc psc nuc n fp fz (kd 2) (vl 2) (ct 2) 0 0 fh fg (bgY n ff fp fz 0) fk vs vb 0).2.2.1), ai t4 cyI 7 ((pl phc psc nuc n fp fz (kd 2) (vl 2) (ct 2) 0 0 fh fg (bgY n ff fp fz 0) fk vs vb 0).2.2.2.1), ob d0 2 [.ref d1, .ref d2, .ref d3], ai d1 cyI 3 (nF ct), aa d2 cyA 3 (r3 k0 k1 k2), aa d3 cyA 3 (r3 v0 v1 v2), ai k2 cyI 12 (kd 2), ai v2 cyI 12 (vl 2), ai g0 cyI 3 fp] := hD
                      refine lv_iload_n hx hb dX3_worstCrest_27 rfl (lv_at hl 1 rfl) ?_
                      refine lv_aload_n hx hb dX3_worstCrest_28 rfl (lv_at hl 2 rfl) ?_
                      refine va_get (D := (dC, dI)) (ci := 3) (v := .ref t0) (C := RX3) (T := TX3) (N := 8) hx hb hts hin_X3 hown hK hP 4 rfl rfl 1 (by decide) hw_5 (fun _ h9 => h9) rfl dX3_worstCrest_29 ?_
                      refine ra_cR (q := (RX0, TX0, 8)) (ci := 0) (As := []) (rest := [.int (jmin (jmin 99 (gMax ((pl phc psc nuc n fp fz (kd 0) (vl 0) (ct 0) 0 0 fh fg (bgY n ff fp fz 0) fk vs vb 0).1) n 0 0)) (gMax ((pl phc psc nuc n fp fz (kd 1) (vl 1) (ct 1) 0 0 fh fg (bgY n ff fp fz 0) fk vs vb 0).1) n 0 0))]) (wc := [ob t0 0 [.int (nI n), .ref t1, .ref t2, .ref t3, .ref t4, .int ((pl phc psc nuc n fp fz (kd 2) (vl 2) (ct 2) 0 0 fh fg (bgY n ff fp fz 0) fk vs vb 0).2.2.2.2.1), .int ((pl phc psc nuc n fp fz (kd 2) (vl 2) (ct 2) 0 0 fh fg (bgY n ff fp fz 0) fk vs vb 0).2.2.2.2.2.1), .int ((pl phc psc nuc n fp fz (kd 2) (vl 2) (ct 2) 0 0 fh fg (bgY n ff fp fz 0) fk vs vb 0).2.2.2.2.2.2)], ai t1 cyI 7 ((pl phc psc nuc n fp fz (kd 2) (vl 2) (ct 2) 0 0 fh fg (bgY n ff fp fz 0) fk vs vb 0).1), ai t2 cyI 7 ((pl phc psc nuc n fp fz (kd 2) (vl 2) (ct 2) 0 0 fh fg (bgY n ff fp fz 0) fk vs vb 0).2.1), ai t3 cyI 7 ((pl phc psc nuc n fp fz (kd 2) (vl 2) (ct 2) 0 0 fh fg (bgY n ff fp fz 0) fk vs vb 0).2.2.1), ai t4 cyI 7 ((pl phc psc nuc n fp fz (kd 2) (vl 2) (ct 2) 0 0 fh fg (bgY n ff fp fz 0) fk vs vb 0).2.2.2.1)]) ⟨hx, hb, hml, hown, hts⟩ (c_X0_greatestHeight l dC dI cyI cyA t0 t1 t2 t3 t4 n ((pl phc psc nuc n fp fz (kd 2) (vl 2) (ct 2) 0 0 fh fg (bgY n ff fp fz 0) fk vs vb 0).1) ((pl phc psc nuc n fp fz (kd 2) (vl 2) (ct 2) 0 0 fh fg (bgY n ff fp fz 0) fk vs vb 0).2.1) ((pl phc psc nuc n fp fz (kd 2) (vl 2) (ct 2) 0 0 fh fg (bgY n ff fp fz 0) fk vs vb 0).2.2.1) ((pl phc psc nuc n fp fz (kd 2) (vl 2) (ct 2) 0 0 fh fg (bgY n ff fp fz 0) fk vs vb 0).2.2.2.1) ((pl phc psc nuc n fp fz (kd 2) (vl 2) (ct 2) 0 0 fh fg (bgY n ff fp fz 0) fk vs vb 0).2.2.2.2.1) ((pl phc psc nuc n fp fz (kd 2) (vl 2) (ct 2) 0 0 fh fg (bgY n ff fp fz 0) fk vs vb 0).2.2.2.2.2.1) ((pl phc psc nuc n fp fz (kd 2) (vl 2) (ct 2) 0 0 fh fg (bgY n ff fp fz 0) fk vs vb 0).2.2.2.2.2.2) (by omega)) (cwV 0 hts gX3_worstCrest_X0_greatestHeight rfl rfl rfl (by decide +kernel) ⟨Nat.le_of_ble_eq_true rfl, Nat.le_of_ble_eq_true rfl⟩) hK hN hP [10, 11, 12, 13, 14] rfl rfl rfl rfl hl.1 rfl (Nat.le_of_ble_eq_true rfl) dX3_worstCrest_32 ⟨Nat.le_of_ble_eq_true rfl, Nat.le_of_ble_eq_true rfl⟩ ?_
                      refine va_mmin hx hb (hml.trans hl.1.symm) hown hw_6 hw_7 hw_8 hw_9 (Nat.le_of_ble_eq_true rfl) (Nat.le_of_ble_eq_true rfl) (Nat.le_of_ble_eq_true rfl) (Nat.le_of_ble_eq_true rfl) dX3_worstCrest_35 ?_
                      refine ra_top (jmin (jmin (jmin 99 (gMax ((pl phc psc nuc n fp fz (kd 0) (vl 0) (ct 0) 0 0 fh fg (bgY n ff fp fz 0) fk vs vb 0).1) n 0 0)) (gMax ((pl phc psc nuc n fp fz (kd 1) (vl 1) (ct 1) 0 0 fh fg (bgY n ff fp fz 0) fk vs vb 0).1) n 0 0)) (gMax ((pl phc psc nuc n fp fz (kd 2) (vl 2) (ct 2) 0 0 fh fg (bgY n ff fp fz 0) fk vs vb 0).1) n 0 0)) rfl ?_
                      refine lv_istore_n (lv' := [(2, .int (jmin (jmin (jmin 99 (gMax ((pl phc psc nuc n fp fz (kd 0) (vl 0) (ct 0) 0 0 fh fg (bgY n ff fp fz 0) fk vs vb 0).1) n 0 0)) (gMax ((pl phc psc nuc n fp fz (kd 1) (vl 1) (ct 1) 0 0 fh fg (bgY n ff fp fz 0) fk vs vb 0).1) n 0 0)) (gMax ((pl phc psc nuc n fp fz (kd 2) (vl 2) (ct 2) 0 0 fh fg (bgY n ff fp fz 0) fk vs vb 0).1) n 0 0))), (3, .int 2), (0, .ref q0), (1, .int fo)]) hx hb dX3_worstCrest_38 rfl hl (by decide) rfl (fun ls hl => ?_)
                      refine lv_aload_n hx hb dX3_worstCrest_39 rfl (lv_at hl 2 rfl) ?_
                      refine va_get (D := (dC, dI)) (ci := 3) (v := .ref t0) (C := RX3) (T := TX3) (N := 8) hx hb hts hin_X3 hown hK hP 4 rfl rfl 1 (by decide) hw_5 (fun _ h9 => h9) rfl dX3_worstCrest_40 ?_
                      refine va_get (D := (dC, dI)) (ci := 0) (v := .int ((pl phc psc nuc n fp fz (kd 2) (vl 2) (ct 2) 0 0 fh fg (bgY n ff fp fz 0) fk vs vb 0).2.2.2.2.2.2)) (C := RX0) (T := TX0) (N := 8) hx hb hts hin_X0 hown hK hP 10 rfl rfl 7 (by decide) hw_10 (fun _ h9 => h9) rfl dX3_worstCrest_43 ?_
                      refine lv_if_gt (tgt := 54) hx hb dX3_worstCrest_46 (by decide) (fun c_46_3 => ?_) (fun c_46_3 => ?_)
                      · ---- to 54
                        refine lv_iconst (v := (-1)) hx hb dX3_worstCrest_54 (by decide) ?_
                        rw [hQ]
                        exact ra_iretW (n, (pl phc psc nuc n fp fz (kd 2) (vl 2) (ct 2) 0 0 fh fg (bgY n ff fp fz 0) fk vs vb 0).1, (pl phc psc nuc n fp fz (kd 2) (vl 2) (ct 2) 0 0 fh fg (bgY n ff fp fz 0) fk vs vb 0).2.1, (pl phc psc nuc n fp fz (kd 2) (vl 2) (ct 2) 0 0 fh fg (bgY n ff fp fz 0) fk vs vb 0).2.2.1, (pl phc psc nuc n fp fz (kd 2) (vl 2) (ct 2) 0 0 fh fg (bgY n ff fp fz 0) fk vs vb 0).2.2.2.1, (pl phc psc nuc n fp fz (kd 2) (vl 2) (ct 2) 0 0 fh fg (bgY n ff fp fz 0) fk vs vb 0).2.2.2.2.1, (pl phc psc nuc n fp fz (kd 2) (vl 2) (ct 2) 0 0 fh fg (bgY n ff fp fz 0) fk vs vb 0).2.2.2.2.2.1, (pl phc psc nuc n fp fz (kd 2) (vl 2) (ct 2) 0 0 fh fg (bgY n ff fp fz 0) fk vs vb 0).2.2.2.2.2.2) hx hb hr hlocks rfl hK (hP.sub [4, 5, 6, 7, 8, 9, 10, 11, 12, 13, 14, 15, 16, 17, 18, 0, 2, 19, 1, 3, 20, 21] rfl) (hD.sub [4, 5, 6, 7, 8, 9, 10, 11, 12, 13, 14, 15, 16, 17, 18, 0, 2, 19, 1, 3, 20, 21] (by decide) rfl) hS (Eq.symm ((wSt_k (ct := ct) (cr := crW phc psc nuc n fz ct kd vl fh fg ff fk vs vb fp) (fl := flW phc psc nuc n fz ct kd vl fh fg ff fk vs vb fp) (fo := fo) (w := 0) n_19 c_46 c_51).trans ((wSt_k (ct := ct) (cr := crW phc psc nuc n fz ct kd vl fh fg ff fk vs vb fp) (fl := flW phc psc nuc n fz ct kd vl fh fg ff fk vs vb fp) (fo := fo) (w := 1) n_19_2 c_46_2 c_51_2).trans (wSt_f (ct := ct) (cr := crW phc psc nuc n fz ct kd vl fh fg ff fk vs vb fp) (fl := flW phc psc nuc n fz ct kd vl fh fg ff fk vs vb fp) (fo := fo) (w := 2) n_19_3 c_46_3)))) dX3_worstCrest_55
                      · ---- on
                        refine lv_iload_n hx hb dX3_worstCrest_49 rfl (lv_at hl 0 rfl) ?_
                        refine lv_iload_n hx hb dX3_worstCrest_50 rfl (lv_at hl 3 rfl) ?_
                        refine lv_icmp_ge (tgt := 56) hx hb dX3_worstCrest_51 (by decide) (fun c_51_3 => ?_) (fun c_51_3 => ?_)
                        · ---- to 56
                          refine lv_iinc (v := 3) (lv' := [(3, .int 3), (2, .int (jmin (jmin (jmin 99 (gMax ((pl phc psc nuc n fp fz (kd 0) (vl 0) (ct 0) 0 0 fh fg (bgY n ff fp fz 0) fk vs vb 0).1) n 0 0)) (gMax ((pl phc psc nuc n fp fz (kd 1) (vl 1) (ct 1) 0 0 fh fg (bgY n ff fp fz 0) fk vs vb 0).1) n 0 0)) (gMax ((pl phc psc nuc n fp fz (kd 2) (vl 2) (ct 2) 0 0 fh fg (bgY n ff fp fz 0) fk vs vb 0).1) n 0 0))), (0, .ref q0), (1, .int fo)]) hx hb dX3_worstCrest_56 hl (k := 1) rfl (by decide) (by decide) rfl (fun ls hl => ?_)
                          refine lv_goto (tgt := 5) hx hb dX3_worstCrest_59 (by decide) ?_
                          refine lv_iload_n hx hb dX3_worstCrest_5 rfl (lv_at hl 0 rfl) ?_
                          refine lv_iconst (v := 3) hx hb dX3_worstCrest_6 (by decide) ?_
                          refine lv_icmp_ge (tgt := 62) hx hb dX3_worstCrest_7 (by decide) (fun c_7_4 => ?_) (fun c_7_4 => ?_)
                          · ---- to 62
                            refine lv_iload_n hx hb dX3_worstCrest_62 rfl (lv_at hl 1 rfl) ?_
                            rw [hQ]
                            exact ra_iretW (n, (pl phc psc nuc n fp fz (kd 2) (vl 2) (ct 2) 0 0 fh fg (bgY n ff fp fz 0) fk vs vb 0).1, (pl phc psc nuc n fp fz (kd 2) (vl 2) (ct 2) 0 0 fh fg (bgY n ff fp fz 0) fk vs vb 0).2.1, (pl phc psc nuc n fp fz (kd 2) (vl 2) (ct 2) 0 0 fh fg (bgY n ff fp fz 0) fk vs vb 0).2.2.1, (pl phc psc nuc n fp fz (kd 2) (vl 2) (ct 2) 0 0 fh fg (bgY n ff fp fz 0) fk vs vb 0).2.2.2.1, (pl phc psc nuc n fp fz (kd 2) (vl 2) (ct 2) 0 0 fh fg (bgY n ff fp fz 0) fk vs vb 0).2.2.2.2.1, (pl phc psc nuc n fp fz (kd 2) (vl 2) (ct 2) 0 0 fh fg (bgY n ff fp fz 0) fk vs vb 0).2.2.2.2.2.1, (pl phc psc nuc n fp fz (kd 2) (vl 2) (ct 2) 0 0 fh fg (bgY n ff fp fz 0) fk vs vb 0).2.2.2.2.2.2) hx hb hr hlocks rfl hK (hP.sub [4, 5, 6, 7, 8, 9, 10, 11, 12, 13, 14, 15, 16, 17, 18, 0, 2, 19, 1, 3, 20, 21] rfl) (hD.sub [4, 5, 6, 7, 8, 9, 10, 11, 12, 13, 14, 15, 16, 17, 18, 0, 2, 19, 1, 3, 20, 21] (by decide) rfl) hS (Eq.symm ((wSt_k (ct := ct) (cr := crW phc psc nuc n fz ct kd vl fh fg ff fk vs vb fp) (fl := flW phc psc nuc n fz ct kd vl fh fg ff fk vs vb fp) (fo := fo) (w := 0) n_19 c_46 c_51).trans ((wSt_k (ct := ct) (cr := crW phc psc nuc n fz ct kd vl fh fg ff fk vs vb fp) (fl := flW phc psc nuc n fz ct kd vl fh fg ff fk vs vb fp) (fo := fo) (w := 1) n_19_2 c_46_2 c_51_2).trans (wSt_k (ct := ct) (cr := crW phc psc nuc n fz ct kd vl fh fg ff fk vs vb fp) (fl := flW phc psc nuc n fz ct kd vl fh fg ff fk vs vb fp) (fo := fo) (w := 2) n_19_3 c_46_3 c_51_3)))) dX3_worstCrest_63
                          · ---- on
                            exact absurd c_7_4 (by decide)
                        · ---- on
                          refine lv_iconst (v := (-1)) hx hb dX3_worstCrest_54 (by decide) ?_
                          rw [hQ]
                          exact ra_iretW (n, (pl phc psc nuc n fp fz (kd 2) (vl 2) (ct 2) 0 0 fh fg (bgY n ff fp fz 0) fk vs vb 0).1, (pl phc psc nuc n fp fz (kd 2) (vl 2) (ct 2) 0 0 fh fg (bgY n ff fp fz 0) fk vs vb 0).2.1, (pl phc psc nuc n fp fz (kd 2) (vl 2) (ct 2) 0 0 fh fg (bgY n ff fp fz 0) fk vs vb 0).2.2.1, (pl phc psc nuc n fp fz (kd 2) (vl 2) (ct 2) 0 0 fh fg (bgY n ff fp fz 0) fk vs vb 0).2.2.2.1, (pl phc psc nuc n fp fz (kd 2) (vl 2) (ct 2) 0 0 fh fg (bgY n ff fp fz 0) fk vs vb 0).2.2.2.2.1, (pl phc psc nuc n fp fz (kd 2) (vl 2) (ct 2) 0 0 fh fg (bgY n ff fp fz 0) fk vs vb 0).2.2.2.2.2.1, (pl phc psc nuc n fp fz (kd 2) (vl 2) (ct 2) 0 0 fh fg (bgY n ff fp fz 0) fk vs vb 0).2.2.2.2.2.2) hx hb hr hlocks rfl hK (hP.sub [4, 5, 6, 7, 8, 9, 10, 11, 12, 13, 14, 15, 16, 17, 18, 0, 2, 19, 1, 3, 20, 21] rfl) (hD.sub [4, 5, 6, 7, 8, 9, 10, 11, 12, 13, 14, 15, 16, 17, 18, 0, 2, 19, 1, 3, 20, 21] (by decide) rfl) hS (Eq.symm ((wSt_k (ct := ct) (cr := crW phc psc nuc n fz ct kd vl fh fg ff fk vs vb fp) (fl := flW phc psc nuc n fz ct kd vl fh fg ff fk vs vb fp) (fo := fo) (w := 0) n_19 c_46 c_51).trans ((wSt_k (ct := ct) (cr := crW phc psc nuc n fz ct kd vl fh fg ff fk vs vb fp) (fl := flW phc psc nuc n fz ct kd vl fh fg ff fk vs vb fp) (fo := fo) (w := 1) n_19_2 c_46_2 c_51_2).trans (wSt_l (ct := ct) (cr := crW phc psc nuc n fz ct kd vl fh fg ff fk vs vb fp) (fl := flW phc psc nuc n fz ct kd vl fh fg ff fk vs vb fp) (fo := fo) (w := 2) n_19_3 c_46_3 c_51_3)))) dX3_worstCrest_55
                · ---- on
                  refine lv_iconst (v := (-1)) hx hb dX3_worstCrest_54 (by decide) ?_
                  rw [hQ]
                  exact ra_iretW (n, (pl phc psc nuc n fp fz (kd 1) (vl 1) (ct 1) 0 0 fh fg (bgY n ff fp fz 0) fk vs vb 0).1, (pl phc psc nuc n fp fz (kd 1) (vl 1) (ct 1) 0 0 fh fg (bgY n ff fp fz 0) fk vs vb 0).2.1, (pl phc psc nuc n fp fz (kd 1) (vl 1) (ct 1) 0 0 fh fg (bgY n ff fp fz 0) fk vs vb 0).2.2.1, (pl phc psc nuc n fp fz (kd 1) (vl 1) (ct 1) 0 0 fh fg (bgY n ff fp fz 0) fk vs vb 0).2.2.2.1, (pl phc psc nuc n fp fz (kd 1) (vl 1) (ct 1) 0 0 fh fg (bgY n ff fp fz 0) fk vs vb 0).2.2.2.2.1, (pl phc psc nuc n fp fz (kd 1) (vl 1) (ct 1) 0 0 fh fg (bgY n ff fp fz 0) fk vs vb 0).2.2.2.2.2.1, (pl phc psc nuc n fp fz (kd 1) (vl 1) (ct 1) 0 0 fh fg (bgY n ff fp fz 0) fk vs vb 0).2.2.2.2.2.2) hx hb hr hlocks rfl hK (hP.sub [4, 5, 6, 7, 8, 9, 10, 11, 12, 13, 14, 15, 16, 17, 18, 2, 19, 0, 3, 20, 1, 21] rfl) (hD.sub [4, 5, 6, 7, 8, 9, 10, 11, 12, 13, 14, 15, 16, 17, 18, 2, 19, 0, 3, 20, 1, 21] (by decide) rfl) hS (Eq.symm ((wSt_k (ct := ct) (cr := crW phc psc nuc n fz ct kd vl fh fg ff fk vs vb fp) (fl := flW phc psc nuc n fz ct kd vl fh fg ff fk vs vb fp) (fo := fo) (w := 0) n_19 c_46 c_51).trans (wSt_l (ct := ct) (cr := crW phc psc nuc n fz ct kd vl fh fg ff fk vs vb fp) (fl := flW phc psc nuc n fz ct kd vl fh fg ff fk vs vb fp) (fo := fo) (w := 1) n_19_2 c_46_2 c_51_2))) dX3_worstCrest_55
        · ---- on
          refine lv_iconst (v := (-1)) hx hb dX3_worstCrest_54 (by decide) ?_
          rw [hQ]
          exact ra_iretW (n, (pl phc psc nuc n fp fz (kd 0) (vl 0) (ct 0) 0 0 fh fg (bgY n ff fp fz 0) fk vs vb 0).1, (pl phc psc nuc n fp fz (kd 0) (vl 0) (ct 0) 0 0 fh fg (bgY n ff fp fz 0) fk vs vb 0).2.1, (pl phc psc nuc n fp fz (kd 0) (vl 0) (ct 0) 0 0 fh fg (bgY n ff fp fz 0) fk vs vb 0).2.2.1, (pl phc psc nuc n fp fz (kd 0) (vl 0) (ct 0) 0 0 fh fg (bgY n ff fp fz 0) fk vs vb 0).2.2.2.1, (pl phc psc nuc n fp fz (kd 0) (vl 0) (ct 0) 0 0 fh fg (bgY n ff fp fz 0) fk vs vb 0).2.2.2.2.1, (pl phc psc nuc n fp fz (kd 0) (vl 0) (ct 0) 0 0 fh fg (bgY n ff fp fz 0) fk vs vb 0).2.2.2.2.2.1, (pl phc psc nuc n fp fz (kd 0) (vl 0) (ct 0) 0 0 fh fg (bgY n ff fp fz 0) fk vs vb 0).2.2.2.2.2.2) hx hb hr hlocks rfl hK (hP.sub [4, 5, 6, 7, 8, 9, 10, 11, 12, 13, 14, 15, 16, 17, 18, 19, 0, 1, 20, 2, 3, 21] rfl) (hD.sub [4, 5, 6, 7, 8, 9, 10, 11, 12, 13, 14, 15, 16, 17, 18, 19, 0, 1, 20, 2, 3, 21] (by decide) rfl) hS (Eq.symm (wSt_l (ct := ct) (cr := crW phc psc nuc n fz ct kd vl fh fg ff fk vs vb fp) (fl := flW phc psc nuc n fz ct kd vl fh fg ff fk vs vb fp) (fo := fo) (w := 0) n_19 c_46 c_51)) dX3_worstCrest_55
end
