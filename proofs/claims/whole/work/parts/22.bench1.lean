set_option maxHeartbeats 4000000 in
set_option maxRecDepth 100000 in
theorem c_X3_isWeather (l : Launch) (x : Int32)  : Met l yX3_isWeather wsX3_isWeather (rm 1) (kS [.int x]) (QcRead (bi (0 ≤ x ∧ x ≤ 2))) 0 0 (fun _ => False) := by
  refine ra_metS (cc := cX3_isWeather) (maxL := 1) (by decide) rfl (Nat.le_of_ble_eq_true rfl) ?_
  intro p e s m below meth c args Q hQ hx hb hr hlocks hml hts hown hN ls hl
  have hl : lv_has ls 1 [(0, .int x)] := hl
  have hown : s.vm.findClass RX3 = some m.cls := hown
  refine lv_iload_n hx hb dX3_isWeather_0 rfl (lv_at hl 0 rfl) ?_
  refine lv_iconst (v := 0) hx hb dX3_isWeather_1 (by decide) ?_
  refine lv_iconst (v := 2) hx hb dX3_isWeather_2 (by decide) ?_
  refine ra_cS (As := [.int x, .int 0, .int 2]) (rest := []) ⟨hx, hb, hml, hown, hts⟩ (c_X3_isWithin l x 0 2 ) (va_cwS 3 hts gX3_isWeather_X3_isWithin rfl rfl rfl (by decide +kernel) ⟨Nat.le_of_ble_eq_true rfl, Nat.le_of_ble_eq_true rfl⟩) hN rfl hl.1 rfl (Nat.le_of_ble_eq_true rfl) dX3_isWeather_3 ⟨Nat.le_of_ble_eq_true rfl, Nat.le_of_ble_eq_true rfl⟩ ?_
  rw [hQ]
  exact ra_iretR hx hb hr hlocks (bi_nar _) rfl dX3_isWeather_6

set_option maxHeartbeats 4000000 in
set_option maxRecDepth 100000 in
theorem c_X3_isAim (l : Launch) (x : Int32)  : Met l yX3_isAim wsX3_isAim (rm 1) (kS [.int x]) (QcRead (bi (0 ≤ x ∧ x ≤ 99))) 0 0 (fun _ => False) := by
  refine ra_metS (cc := cX3_isAim) (maxL := 1) (by decide) rfl (Nat.le_of_ble_eq_true rfl) ?_
  intro p e s m below meth c args Q hQ hx hb hr hlocks hml hts hown hN ls hl
  have hl : lv_has ls 1 [(0, .int x)] := hl
  have hown : s.vm.findClass RX3 = some m.cls := hown
  refine lv_iload_n hx hb dX3_isAim_0 rfl (lv_at hl 0 rfl) ?_
  refine lv_iconst (v := 0) hx hb dX3_isAim_1 (by decide) ?_
  refine lv_bipush (v := 99) hx hb dX3_isAim_2 (by decide) ?_
  refine ra_cS (As := [.int x, .int 0, .int 99]) (rest := []) ⟨hx, hb, hml, hown, hts⟩ (c_X3_isWithin l x 0 99 ) (va_cwS 3 hts gX3_isAim_X3_isWithin rfl rfl rfl (by decide +kernel) ⟨Nat.le_of_ble_eq_true rfl, Nat.le_of_ble_eq_true rfl⟩) hN rfl hl.1 rfl (Nat.le_of_ble_eq_true rfl) dX3_isAim_4 ⟨Nat.le_of_ble_eq_true rfl, Nat.le_of_ble_eq_true rfl⟩ ?_
  rw [hQ]
  exact ra_iretR hx hb hr hlocks (bi_nar _) rfl dX3_isAim_7

set_option maxHeartbeats 4000000 in
set_option maxRecDepth 100000 in
theorem c_X3_isFractionPart (l : Launch) (x : Int32)  : Met l yX3_isFractionPart wsX3_isFractionPart (rm 1) (kS [.int x]) (QcRead (bi (0 ≤ x ∧ x ≤ 1))) 0 0 (fun _ => False) := by
  refine ra_metS (cc := cX3_isFractionPart) (maxL := 1) (by decide) rfl (Nat.le_of_ble_eq_true rfl) ?_
  intro p e s m below meth c args Q hQ hx hb hr hlocks hml hts hown hN ls hl
  have hl : lv_has ls 1 [(0, .int x)] := hl
  have hown : s.vm.findClass RX3 = some m.cls := hown
  refine lv_iload_n hx hb dX3_isFractionPart_0 rfl (lv_at hl 0 rfl) ?_
  refine lv_iconst (v := 0) hx hb dX3_isFractionPart_1 (by decide) ?_
  refine lv_iconst (v := 1) hx hb dX3_isFractionPart_2 (by decide) ?_
  refine ra_cS (As := [.int x, .int 0, .int 1]) (rest := []) ⟨hx, hb, hml, hown, hts⟩ (c_X3_isWithin l x 0 1 ) (va_cwS 3 hts gX3_isFractionPart_X3_isWithin rfl rfl rfl (by decide +kernel) ⟨Nat.le_of_ble_eq_true rfl, Nat.le_of_ble_eq_true rfl⟩) hN rfl hl.1 rfl (Nat.le_of_ble_eq_true rfl) dX3_isFractionPart_3 ⟨Nat.le_of_ble_eq_true rfl, Nat.le_of_ble_eq_true rfl⟩ ?_
  rw [hQ]
  exact ra_iretR hx hb hr hlocks (bi_nar _) rfl dX3_isFractionPart_6

set_option maxHeartbeats 4000000 in
set_option maxRecDepth 100000 in
theorem c_X3_mostOf (l : Launch) (x : Int32)  : Met l yX3_mostOf wsX3_mostOf (rm 0) (kS [.int x]) (QcRead (mostV x)) 0 0 (fun _ => False) := by
  refine ra_metS (cc := cX3_mostOf) (maxL := 1) (by decide) rfl (Nat.le_of_ble_eq_true rfl) ?_
  intro p e s m below meth c args Q hQ hx hb hr hlocks hml hts hown hN ls hl
  have hl : lv_has ls 1 [(0, .int x)] := hl
  have hown : s.vm.findClass RX3 = some m.cls := hown
  refine lv_iload_n hx hb dX3_mostOf_0 rfl (lv_at hl 0 rfl) ?_
  refine lv_if_ne (tgt := 7) hx hb dX3_mostOf_1 (by decide) (fun c_1 => ?_) (fun c_1 => ?_)
  · ---- to 7
    refine lv_iload_n hx hb dX3_mostOf_7 rfl (lv_at hl 0 rfl) ?_
    refine lv_iconst (v := 1) hx hb dX3_mostOf_8 (by decide) ?_
    refine lv_icmp_ne (tgt := 17) hx hb dX3_mostOf_9 (by decide) (fun c_9 => ?_) (fun c_9 => ?_)
    · ---- to 17
      refine lv_bipush (v := 20) hx hb dX3_mostOf_17 (by decide) ?_
      rw [hQ]
      exact ra_iretR hx hb hr hlocks rfl (by unfold mostV; rw [if_neg c_1]; first | (rw [if_pos c_9]; done) | (rw [if_neg c_9]; done)) dX3_mostOf_19
    · ---- on
      refine lv_bipush (v := 9) hx hb dX3_mostOf_12 (by decide) ?_
      refine lv_goto (tgt := 19) hx hb dX3_mostOf_14 (by decide) ?_
      rw [hQ]
      exact ra_iretR hx hb hr hlocks rfl (by unfold mostV; rw [if_neg c_1]; first | (rw [if_pos c_9]; done) | (rw [if_neg c_9]; done)) dX3_mostOf_19
  · ---- on
    refine lv_bipush (v := 99) hx hb dX3_mostOf_4 (by decide) ?_
    rw [hQ]
    exact ra_iretR hx hb hr hlocks rfl (by unfold mostV; rw [if_pos c_1]) dX3_mostOf_6

set_option maxHeartbeats 4000000 in
set_option maxRecDepth 100000 in
theorem c_X3_isEvent (l : Launch) (k v : Int32)  : Met l yX3_isEvent wsX3_isEvent (rm 1) (kS [.int k, .int v]) (QcRead (bj (isEv k v))) 0 0 (fun _ => False) := by
  refine ra_metS (cc := cX3_isEvent) (maxL := 2) (by decide) rfl (Nat.le_of_ble_eq_true rfl) ?_
  intro p e s m below meth c args Q hQ hx hb hr hlocks hml hts hown hN ls hl
  have hl : lv_has ls 2 [(0, .int k), (1, .int v)] := hl
  have hown : s.vm.findClass RX3 = some m.cls := hown
  refine lv_iload_n hx hb dX3_isEvent_0 rfl (lv_at hl 0 rfl) ?_
  by_cases h0 : k = 0
  ·
    refine ra_top 0 h0 ?_
    refine lv_lookup (off := 27) (tgt := 28) hx hb dX3_isEvent_1 (by decide) (by decide) (by decide) ?_
    refine lv_iload_n hx hb dX3_isEvent_28 rfl (lv_at hl 1 rfl) ?_
    refine lv_iconst (v := 1) hx hb dX3_isEvent_29 (by decide) ?_
    refine lv_bipush (v := 9) hx hb dX3_isEvent_30 (by decide) ?_
    refine ra_cS (As := [.int v, .int 1, .int 9]) (rest := []) ⟨hx, hb, hml, hown, hts⟩ (c_X3_isWithin l v 1 9 ) (va_cwS 3 hts gX3_isEvent_X3_isWithin rfl rfl rfl (by decide +kernel) ⟨Nat.le_of_ble_eq_true rfl, Nat.le_of_ble_eq_true rfl⟩) hN rfl hl.1 rfl (Nat.le_of_ble_eq_true rfl) dX3_isEvent_32 ⟨Nat.le_of_ble_eq_true rfl, Nat.le_of_ble_eq_true rfl⟩ ?_
    rw [hQ]
    exact ra_iretR hx hb hr hlocks (bi_nar _) (bi_bj (by unfold isEv; simp only [fa_lt, fa_le, fa_eq, i32_0, i32_1, i32_2, i32_9, i32_99] at h0 ⊢; omega)) dX3_isEvent_35
  ·
    by_cases h1 : k = 1
    ·
      refine ra_top 1 h1 ?_
      refine lv_lookup (off := 35) (tgt := 36) hx hb dX3_isEvent_1 (by decide) (by decide) (by decide) ?_
      refine lv_iload_n hx hb dX3_isEvent_36 rfl (lv_at hl 1 rfl) ?_
      refine lv_iconst (v := 1) hx hb dX3_isEvent_37 (by decide) ?_
      refine lv_bipush (v := 99) hx hb dX3_isEvent_38 (by decide) ?_
      refine ra_cS (As := [.int v, .int 1, .int 99]) (rest := []) ⟨hx, hb, hml, hown, hts⟩ (c_X3_isWithin l v 1 99 ) (va_cwS 3 hts gX3_isEvent_X3_isWithin rfl rfl rfl (by decide +kernel) ⟨Nat.le_of_ble_eq_true rfl, Nat.le_of_ble_eq_true rfl⟩) hN rfl hl.1 rfl (Nat.le_of_ble_eq_true rfl) dX3_isEvent_40 ⟨Nat.le_of_ble_eq_true rfl, Nat.le_of_ble_eq_true rfl⟩ ?_
      rw [hQ]
      exact ra_iretR hx hb hr hlocks (bi_nar _) (bi_bj (by unfold isEv; simp only [fa_lt, fa_le, fa_eq, i32_0, i32_1, i32_2, i32_9, i32_99] at h0 h1 ⊢; omega)) dX3_isEvent_43
    ·
      refine lv_lookup (off := 43) (tgt := 44) hx hb dX3_isEvent_1 (by decide) (by show Op.lookupswitch.offset [(0, 27), (1, 35)] 43 _ = 43; rw [lv_osw (k := 0) h0 (by decide), lv_osw (k := 1) h1 (by decide)]; rfl) (by decide) ?_
      refine lv_iload_n hx hb dX3_isEvent_44 rfl (lv_at hl 0 rfl) ?_
      refine lv_iconst (v := 2) hx hb dX3_isEvent_45 (by decide) ?_
      refine lv_icmp_ne (tgt := 53) hx hb dX3_isEvent_46 (by decide) (fun c_46 => ?_) (fun c_46 => ?_)
      · ---- to 53
        refine lv_iconst (v := 0) hx hb dX3_isEvent_53 (by decide) ?_
        rw [hQ]
        exact ra_iretR hx hb hr hlocks rfl (bj_f (by unfold isEv; simp only [fa_lt, fa_le, fa_eq, i32_0, i32_1, i32_2, i32_9, i32_99] at h0 h1 c_46 ⊢; omega)).symm dX3_isEvent_54
      · ---- on
        refine lv_iconst (v := 1) hx hb dX3_isEvent_49 (by decide) ?_
        refine lv_goto (tgt := 54) hx hb dX3_isEvent_50 (by decide) ?_
        rw [hQ]
        exact ra_iretR hx hb hr hlocks rfl (bj_t (by unfold isEv; simp only [fa_lt, fa_le, fa_eq, i32_0, i32_1, i32_2, i32_9, i32_99] at h0 h1 c_46 ⊢; omega)).symm dX3_isEvent_54

set_option maxHeartbeats 4000000 in
set_option maxRecDepth 100000 in
theorem c_X3_isCellOrNone (l : Launch) (dC : Nat → ClassId) (dI : Nat → Nat → Nat) (cyI cyA : ClassId) (q0 z0 e0 g0 : Nat) (isv fz : Int32) (t0 d0 : Nat) (a0 a1 a2 a3 a4 n : Nat) (fh fg ff fk : FN) (vs vb vd : Int32) (x : Int32)  : Met l yX3_isCellOrNone wsX3_isCellOrNone (rm 1) (kR dC dI cyI cyA [.ref q0, .int x] [ob q0 3 [.ref a0, .ref t0, .ref z0, .int isv, .ref d0, .ref e0, .int fz, .ref g0], ob a0 0 [.int (nI n), .ref a1, .ref a2, .ref a3, .ref a4, .int vs, .int vb, .int vd], ai a1 cyI 7 fh, ai a2 cyI 7 fg, ai a3 cyI 7 ff, ai a4 cyI 7 fk]) (QcRead (bj (ceN n x))) 0 0 (fun _ => False) := by
  refine ra_metR (cc := cX3_isCellOrNone) (maxL := 2) (by decide) rfl (Nat.le_of_ble_eq_true rfl) ?_
  intro p e s m below meth c args Q hQ hx hb hr hlocks hml hts hown hK hN hP ls hl
  have hl : lv_has ls 2 [(0, .ref q0), (1, .int x)] := hl
  have hown : s.vm.findClass RX3 = some m.cls := hown
  have hw_1 := hts (.fieldLink RX3 10 "DuneBench" "shore" "LDuneBench$Coast;") (by decide +kernel)
  have hin_X3 : ∀ w ∈ u_ws RX3 TX3 8, w ∈ wsX3_isCellOrNone := by decide +kernel
  refine lv_iload_n hx hb dX3_isCellOrNone_0 rfl (lv_at hl 1 rfl) ?_
  refine lv_iconst (v := (-1)) hx hb dX3_isCellOrNone_1 (by decide) ?_
  refine lv_icmp_eq (tgt := 16) hx hb dX3_isCellOrNone_2 (by decide) (fun c_2 => ?_) (fun c_2 => ?_)
  · ---- to 16
    refine lv_iconst (v := 1) hx hb dX3_isCellOrNone_16 (by decide) ?_
    refine lv_goto (tgt := 21) hx hb dX3_isCellOrNone_17 (by decide) ?_
    rw [hQ]
    exact ra_iretR hx hb hr hlocks rfl (by first | exact (bj_t (show ceN n x from Or.inl c_2)).symm | exact (bj_t (show ceN n x from Or.inr c_13)).symm | exact (bj_f (show ¬ ceN n x from fun q => q.elim c_2 c_13)).symm) dX3_isCellOrNone_21
  · ---- on
    refine lv_aload_n hx hb dX3_isCellOrNone_5 rfl (lv_at hl 0 rfl) ?_
    refine va_get (D := (dC, dI)) (ci := 3) (v := .ref a0) (C := RX3) (T := TX3) (N := 8) hx hb hts hin_X3 hown hK hP 0 rfl rfl 0 (by decide) hw_1 (fun _ h9 => h9) rfl dX3_isCellOrNone_6 ?_
    refine lv_iload_n hx hb dX3_isCellOrNone_9 rfl (lv_at hl 1 rfl) ?_
    refine ra_cR (q := (RX0, TX0, 8)) (ci := 0) (As := [.int x]) (rest := []) (wc := [ob a0 0 [.int (nI n), .ref a1, .ref a2, .ref a3, .ref a4, .int vs, .int vb, .int vd], ai a1 cyI 7 fh, ai a2 cyI 7 fg, ai a3 cyI 7 ff, ai a4 cyI 7 fk]) ⟨hx, hb, hml, hown, hts⟩ (c_X0_has l dC dI cyI cyA a0 a1 a2 a3 a4 n fh fg ff fk vs vb vd x ) (cwV 1 hts gX3_isCellOrNone_X0_has rfl rfl rfl (by decide +kernel) ⟨Nat.le_of_ble_eq_true rfl, Nat.le_of_ble_eq_true rfl⟩) hK hN hP [1, 2, 3, 4, 5] rfl rfl rfl rfl hl.1 rfl (Nat.le_of_ble_eq_true rfl) dX3_isCellOrNone_10 ⟨Nat.le_of_ble_eq_true rfl, Nat.le_of_ble_eq_true rfl⟩ ?_
    refine lv_if_eq (tgt := 20) hx hb dX3_isCellOrNone_13 (by decide) (fun c_13 => ?_) (fun c_13 => ?_)
    · ---- to 20
      have c_13 := bi_0 c_13
      refine lv_iconst (v := 0) hx hb dX3_isCellOrNone_20 (by decide) ?_
      rw [hQ]
      exact ra_iretR hx hb hr hlocks rfl (by first | exact (bj_t (show ceN n x from Or.inl c_2)).symm | exact (bj_t (show ceN n x from Or.inr c_13)).symm | exact (bj_f (show ¬ ceN n x from fun q => q.elim c_2 c_13)).symm) dX3_isCellOrNone_21
    · ---- on
      have c_13 := bi_1 c_13
      refine lv_iconst (v := 1) hx hb dX3_isCellOrNone_16 (by decide) ?_
      refine lv_goto (tgt := 21) hx hb dX3_isCellOrNone_17 (by decide) ?_
      rw [hQ]
      exact ra_iretR hx hb hr hlocks rfl (by first | exact (bj_t (show ceN n x from Or.inl c_2)).symm | exact (bj_t (show ceN n x from Or.inr c_13)).symm | exact (bj_f (show ¬ ceN n x from fun q => q.elim c_2 c_13)).symm) dX3_isCellOrNone_21

set_option maxHeartbeats 4000000 in
set_option maxRecDepth 100000 in
theorem c_X3_beginYear (l : Launch) (dC : Nat → ClassId) (dI : Nat → Nat → Nat) (cyI cyA : ClassId) (q0 z0 e0 g0 : Nat) (isv fz : Int32) (a0 d0 : Nat) (t0 t1 t2 t3 t4 tn : Nat) (th tg tf tk : FN) (ts tb td : Int32) (fp : FN) (y : Nat) (hn : tn ≤ 7) (hy : y ≤ 20) (sz : Nat) : Met l yX3_beginYear wsX3_beginYear (rm 1) (kW dC dI cyI cyA [.ref q0, .int (nI y)] sz [ob q0 3 [.ref a0, .ref t0, .ref z0, .int isv, .ref d0, .ref e0, .int fz, .ref g0], ob t0 0 [.int (nI tn), .ref t1, .ref t2, .ref t3, .ref t4, .int ts, .int tb, .int td], ai t1 cyI 7 th, ai t2 cyI 7 tg, ai t3 cyI 7 tf, ai t4 cyI 7 tk, ai g0 cyI 3 fp]) (qV dC dI cyI cyA (fun (_ : Unit) => True) (va_A [ob q0 3 [.ref a0, .ref t0, .ref z0, .int isv, .ref d0, .ref e0, .int fz, .ref g0], ob t0 0 [.int (nI tn), .ref t1, .ref t2, .ref t3, .ref t4, .int ts, .int tb, .int td], ai t1 cyI 7 th, ai t2 cyI 7 tg, ai t3 cyI 7 tf, ai t4 cyI 7 tk, ai g0 cyI 3 fp] sz) (fun _ => [ob q0 3 [.ref a0, .ref t0, .ref z0, .int isv, .ref d0, .ref e0, .int fz, .ref g0], ob t0 0 [.int (nI tn), .ref t1, .ref t2, .ref t3, .ref t4, .int ts, .int tb, .int td], ai t1 cyI 7 th, ai t2 cyI 7 tg, ai t3 cyI 7 (bgY tn tf fp fz y), ai t4 cyI 7 tk, ai g0 cyI 3 fp])) 0 0 (va_A [ob q0 3 [.ref a0, .ref t0, .ref z0, .int isv, .ref d0, .ref e0, .int fz, .ref g0], ob t0 0 [.int (nI tn), .ref t1, .ref t2, .ref t3, .ref t4, .int ts, .int tb, .int td], ai t1 cyI 7 th, ai t2 cyI 7 tg, ai t3 cyI 7 tf, ai t4 cyI 7 tk, ai g0 cyI 3 fp] sz) := by
  refine ra_metW (cc := cX3_beginYear) (maxL := 2) (Qc := fun A => qV dC dI cyI cyA (fun (_ : Unit) => True) A (fun _ => [ob q0 3 [.ref a0, .ref t0, .ref z0, .int isv, .ref d0, .ref e0, .int fz, .ref g0], ob t0 0 [.int (nI tn), .ref t1, .ref t2, .ref t3, .ref t4, .int ts, .int tb, .int td], ai t1 cyI 7 th, ai t2 cyI 7 tg, ai t3 cyI 7 (bgY tn tf fp fz y), ai t4 cyI 7 tk, ai g0 cyI 3 fp])) (by decide) rfl (Nat.le_of_ble_eq_true rfl) ?_
  intro p e s m below meth c A args Q hQ hx hb hr hlocks hml hts hown hnm hK hN hP hD hA hS ls hl
  have hl : lv_has ls 2 [(0, .ref q0), (1, .int (nI y))] := hl
  have hown : s.vm.findClass RX3 = some m.cls := hown
  have hw_1 := hts (.fieldLink RX3 16 "DuneBench" "trial" "LDuneBench$Coast;") (by decide +kernel)
  have hin_X3 : ∀ w ∈ u_ws RX3 TX3 8, w ∈ wsX3_beginYear := by decide +kernel
  have hw_3 := hts (.fieldLink RX3 44 "DuneBench" "planCells" "[I") (by decide +kernel)
  have hw_4 := hts (.fieldLink RX3 192 "DuneBench$Coast" "fence" "[I") (by decide +kernel)
  have hin_X0 : ∀ w ∈ u_ws RX0 TX0 8, w ∈ wsX3_beginYear := by decide +kernel
  have hw_6 := hts (.fieldLink RX3 40 "DuneBench" "fenceSize" "I") (by decide +kernel)
  obtain ⟨H, hHe⟩ : ∃ H, H = s.heap := ⟨_, rfl⟩
  obtain ⟨locs, hLe⟩ : ∃ locs : List Loc, locs = [] := ⟨_, rfl⟩
  have hP : va_P (dC, dI) vwCl [ob q0 3 [.ref a0, .ref t0, .ref z0, .int isv, .ref d0, .ref e0, .int fz, .ref g0], ob t0 0 [.int (nI tn), .ref t1, .ref t2, .ref t3, .ref t4, .int ts, .int tb, .int td], ai t1 cyI 7 th, ai t2 cyI 7 tg, ai t3 cyI 7 tf, ai t4 cyI 7 tk, ai g0 cyI 3 fp] H := by rw [hHe]; exact hP
  have hS : va_S A s.heap H locs := by rw [hHe, hLe]; exact hS
  suffices hgo : W p l e (rm 1) s m args below meth c H locs 0 0 Q (F0 m 0 ls []) by rw [hHe, hLe] at hgo; exact hgo
  refine lv_iload_n hx hb dX3_beginYear_0 rfl (lv_at hl 1 rfl) ?_
  refine lv_iconst (v := 3) hx hb dX3_beginYear_1 (by decide) ?_
  refine lv_icmp_ge (tgt := 39) hx hb dX3_beginYear_2 (by decide) (fun c_2 => ?_) (fun c_2 => ?_)
  · ---- to 39
    have n_2 := (nq_le 3 y (by omega) (by omega)).mp c_2
    rw [hQ]
    rw [show bgY tn tf fp fz y = tf from by unfold bgY; first | (rw [if_neg (show ¬ y < 3 by omega)]; done) | (rw [if_pos (show y < 3 by omega), if_neg c_18]; done) | (rw [if_pos (show y < 3 by omega), if_pos c_18]; done)]
    exact ra_vretW () hx hb hr hlocks hK hP hD hS trivial dX3_beginYear_39
  · ---- on
    have n_2 := (nq_le_n 3 y (by omega) (by omega)).mp c_2
    refine lv_aload_n hx hb dX3_beginYear_5 rfl (lv_at hl 0 rfl) ?_
    refine va_get (D := (dC, dI)) (ci := 3) (v := .ref t0) (C := RX3) (T := TX3) (N := 8) hx hb hts hin_X3 hown hK hP 0 rfl rfl 1 (by decide) hw_1 (fun _ h9 => h9) rfl dX3_beginYear_6 ?_
    refine lv_aload_n hx hb dX3_beginYear_9 rfl (lv_at hl 0 rfl) ?_
    refine va_get (D := (dC, dI)) (ci := 3) (v := .ref g0) (C := RX3) (T := TX3) (N := 8) hx hb hts hin_X3 hown hK hP 0 rfl rfl 7 (by decide) hw_3 (fun _ h9 => h9) rfl dX3_beginYear_10 ?_
    refine lv_iload_n hx hb dX3_beginYear_13 rfl (lv_at hl 1 rfl) ?_
    refine ra_iald hx hb hK hP 6 rfl y rfl (by omega) (Nat.le_of_ble_eq_true rfl) dX3_beginYear_14 ?_
    refine ra_cR (q := (RX0, TX0, 8)) (ci := 0) (As := [.int (fp y)]) (rest := []) (wc := [ob t0 0 [.int (nI tn), .ref t1, .ref t2, .ref t3, .ref t4, .int ts, .int tb, .int td], ai t1 cyI 7 th, ai t2 cyI 7 tg, ai t3 cyI 7 tf, ai t4 cyI 7 tk]) ⟨hx, hb, hml, hown, hts⟩ (c_X0_has l dC dI cyI cyA t0 t1 t2 t3 t4 tn th tg tf tk ts tb td (fp y) ) (cwV 1 hts gX3_beginYear_X0_has rfl rfl rfl (by decide +kernel) ⟨Nat.le_of_ble_eq_true rfl, Nat.le_of_ble_eq_true rfl⟩) hK hN hP [1, 2, 3, 4, 5] rfl rfl rfl rfl hl.1 rfl (Nat.le_of_ble_eq_true rfl) dX3_beginYear_15 ⟨Nat.le_of_ble_eq_true rfl, Nat.le_of_ble_eq_true rfl⟩ ?_
    refine lv_if_eq (tgt := 39) hx hb dX3_beginYear_18 (by decide) (fun c_18 => ?_) (fun c_18 => ?_)
    · ---- to 39
      have c_18 := bi_0 c_18
      rw [hQ]
      rw [show bgY tn tf fp fz y = tf from by unfold bgY; first | (rw [if_neg (show ¬ y < 3 by omega)]; done) | (rw [if_pos (show y < 3 by omega), if_neg c_18]; done) | (rw [if_pos (show y < 3 by omega), if_pos c_18]; done)]
      exact ra_vretW () hx hb hr hlocks hK hP hD hS trivial dX3_beginYear_39
    · ---- on
      have c_18 := bi_1 c_18
      refine lv_aload_n hx hb dX3_beginYear_21 rfl (lv_at hl 0 rfl) ?_
      refine va_get (D := (dC, dI)) (ci := 3) (v := .ref t0) (C := RX3) (T := TX3) (N := 8) hx hb hts hin_X3 hown hK hP 0 rfl rfl 1 (by decide) hw_1 (fun _ h9 => h9) rfl dX3_beginYear_22 ?_
      refine va_get (D := (dC, dI)) (ci := 0) (v := .ref t3) (C := RX0) (T := TX0) (N := 8) hx hb hts hin_X0 hown hK hP 1 rfl rfl 3 (by decide) hw_4 (fun _ h9 => h9) rfl dX3_beginYear_25 ?_
      refine lv_aload_n hx hb dX3_beginYear_28 rfl (lv_at hl 0 rfl) ?_
      refine va_get (D := (dC, dI)) (ci := 3) (v := .ref g0) (C := RX3) (T := TX3) (N := 8) hx hb hts hin_X3 hown hK hP 0 rfl rfl 7 (by decide) hw_3 (fun _ h9 => h9) rfl dX3_beginYear_29 ?_
      refine lv_iload_n hx hb dX3_beginYear_32 rfl (lv_at hl 1 rfl) ?_
      refine ra_iald hx hb hK hP 6 rfl y rfl (by omega) (Nat.le_of_ble_eq_true rfl) dX3_beginYear_33 ?_
      refine lv_aload_n hx hb dX3_beginYear_34 rfl (lv_at hl 0 rfl) ?_
      refine va_get (D := (dC, dI)) (ci := 3) (v := .int fz) (C := RX3) (T := TX3) (N := 8) hx hb hts hin_X3 hown hK hP 0 rfl rfl 6 (by decide) hw_6 (fun _ h9 => h9) rfl dX3_beginYear_35 ?_
      refine ra_iast hx hb hK hP hD hS 4 rfl ((fp y).toNatClampNeg) (i32_cl (Int32.not_lt.mpr c_18.1)) (Nat.lt_of_lt_of_le (i32_cb (Int32.not_lt.mpr c_18.1) (Int32.not_le.mpr c_18.2) hn) hn) (Nat.le_of_ble_eq_true rfl) dX3_beginYear_38 (fun H locs hP hD hS => ?_)
      have hP : va_P (dC, dI) vwCl [ob q0 3 [.ref a0, .ref t0, .ref z0, .int isv, .ref d0, .ref e0, .int fz, .ref g0], ob t0 0 [.int (nI tn), .ref t1, .ref t2, .ref t3, .ref t4, .int ts, .int tb, .int td], ai t1 cyI 7 th, ai t2 cyI 7 tg, ai t3 cyI 7 (upd tf ((fp y).toNatClampNeg) fz), ai t4 cyI 7 tk, ai g0 cyI 3 fp] H := hP
      have hD : va_D A [ob q0 3 [.ref a0, .ref t0, .ref z0, .int isv, .ref d0, .ref e0, .int fz, .ref g0], ob t0 0 [.int (nI tn), .ref t1, .ref t2, .ref t3, .ref t4, .int ts, .int tb, .int td], ai t1 cyI 7 th, ai t2 cyI 7 tg, ai t3 cyI 7 (upd tf ((fp y).toNatClampNeg) fz), ai t4 cyI 7 tk, ai g0 cyI 3 fp] := hD
      rw [hQ]
      rw [show bgY tn tf fp fz y = (upd tf ((fp y).toNatClampNeg) fz) from by unfold bgY; first | (rw [if_neg (show ¬ y < 3 by omega)]; done) | (rw [if_pos (show y < 3 by omega), if_neg c_18]; done) | (rw [if_pos (show y < 3 by omega), if_pos c_18]; done)]
      exact ra_vretW () hx hb hr hlocks hK hP hD hS trivial dX3_beginYear_39

set_option maxHeartbeats 4000000 in
set_option maxRecDepth 100000 in
theorem c_X3_play (l : Launch) (dC : Nat → ClassId) (dI : Nat → Nat → Nat) (cyI cyA : ClassId) (q0 z0 e0 g0 : Nat) (isv fz : Int32) (a0 a1 a2 a3 a4 n : Nat) (fh fg ff fk : FN) (vs vb vd : Int32) (t0 t1 t2 t3 t4 tn : Nat) (th tg tf tk : FN) (ts tb td : Int32) (d0 d1 d2 d3 : Nat) (ct : Nat → Nat) (fK fV : Nat → Option Nat) (w kr vr : Nat) (kw vw fp : FN) (hn : n ≤ 7) (hw : w < 3) (hc : ct w ≤ 12) (hfk : fK w = some kr) (hfv : fV w = some vr) (sz : Nat) : Met l yX3_play wsX3_play (rm 3) (kW dC dI cyI cyA [.ref q0, .int (nI w)] sz [ob q0 3 [.ref a0, .ref t0, .ref z0, .int isv, .ref d0, .ref e0, .int fz, .ref g0], ob a0 0 [.int (nI n), .ref a1, .ref a2, .ref a3, .ref a4, .int vs, .int vb, .int vd], ai a1 cyI 7 fh, ai a2 cyI 7 fg, ai a3 cyI 7 ff, ai a4 cyI 7 fk, ob t0 0 [.int (nI tn), .ref t1, .ref t2, .ref t3, .ref t4, .int ts, .int tb, .int td], ai t1 cyI 7 th, ai t2 cyI 7 tg, ai t3 cyI 7 tf, ai t4 cyI 7 tk, ob d0 2 [.ref d1, .ref d2, .ref d3], ai d1 cyI 3 (nF ct), aa d2 cyA 3 fK, aa d3 cyA 3 fV, ai kr cyI 12 kw, ai vr cyI 12 vw, ai g0 cyI 3 fp]) (qV dC dI cyI cyA (fun (_ : Unit) => True) (va_A [ob q0 3 [.ref a0, .ref t0, .ref z0, .int isv, .ref d0, .ref e0, .int fz, .ref g0], ob a0 0 [.int (nI n), .ref a1, .ref a2, .ref a3, .ref a4, .int vs, .int vb, .int vd], ai a1 cyI 7 fh, ai a2 cyI 7 fg, ai a3 cyI 7 ff, ai a4 cyI 7 fk, ob t0 0 [.int (nI tn), .ref t1, .ref t2, .ref t3, .ref t4, .int ts, .int tb, .int td], ai t1 cyI 7 th, ai t2 cyI 7 tg, ai t3 cyI 7 tf, ai t4 cyI 7 tk, ob d0 2 [.ref d1, .ref d2, .ref d3], ai d1 cyI 3 (nF ct), aa d2 cyA 3 fK, aa d3 cyA 3 fV, ai kr cyI 12 kw, ai vr cyI 12 vw, ai g0 cyI 3 fp] sz) (fun _ => [ob q0 3 [.ref a0, .ref t0, .ref z0, .int isv, .ref d0, .ref e0, .int fz, .ref g0], ob a0 0 [.int (nI n), .ref a1, .ref a2, .ref a3, .ref a4, .int vs, .int vb, .int vd], ai a1 cyI 7 fh, ai a2 cyI 7 fg, ai a3 cyI 7 ff, ai a4 cyI 7 fk, ob t0 0 [.int (nI n), .ref t1, .ref t2, .ref t3, .ref t4, .int ((pl phc psc nuc n fp fz kw vw (ct w) 0 0 fh fg (bgY n ff fp fz 0) fk vs vb 0).2.2.2.2.1), .int ((pl phc psc nuc n fp fz kw vw (ct w) 0 0 fh fg (bgY n ff fp fz 0) fk vs vb 0).2.2.2.2.2.1), .int ((pl phc psc nuc n fp fz kw vw (ct w) 0 0 fh fg (bgY n ff fp fz 0) fk vs vb 0).2.2.2.2.2.2)], ai t1 cyI 7 ((pl phc psc nuc n fp fz kw vw (ct w) 0 0 fh fg (bgY n ff fp fz 0) fk vs vb 0).1), ai t2 cyI 7 ((pl phc psc nuc n fp fz kw vw (ct w) 0 0 fh fg (bgY n ff fp fz 0) fk vs vb 0).2.1), ai t3 cyI 7 ((pl phc psc nuc n fp fz kw vw (ct w) 0 0 fh fg (bgY n ff fp fz 0) fk vs vb 0).2.2.1), ai t4 cyI 7 ((pl phc psc nuc n fp fz kw vw (ct w) 0 0 fh fg (bgY n ff fp fz 0) fk vs vb 0).2.2.2.1), ob d0 2 [.ref d1, .ref d2, .ref d3], ai d1 cyI 3 (nF ct), aa d2 cyA 3 fK, aa d3 cyA 3 fV, ai kr cyI 12 kw, ai vr cyI 12 vw, ai g0 cyI 3 fp])) 0 0 (va_A [ob q0 3 [.ref a0, .ref t0, .ref z0, .int isv, .ref d0, .ref e0, .int fz, .ref g0], ob a0 0 [.int (nI n), .ref a1, .ref a2, .ref a3, .ref a4, .int vs, .int vb, .int vd], ai a1 cyI 7 fh, ai a2 cyI 7 fg, ai a3 cyI 7 ff, ai a4 cyI 7 fk, ob t0 0 [.int (nI tn), .ref t1, .ref t2, .ref t3, .ref t4, .int ts, .int tb, .int td], ai t1 cyI 7 th, ai t2 cyI 7 tg, ai t3 cyI 7 tf, ai t4 cyI 7 tk, ob d0 2 [.ref d1, .ref d2, .ref d3], ai d1 cyI 3 (nF ct), aa d2 cyA 3 fK, aa d3 cyA 3 fV, ai kr cyI 12 kw, ai vr cyI 12 vw, ai g0 cyI 3 fp] sz) := by
  refine ra_metW (cc := cX3_play) (maxL := 5) (Qc := fun A => qV dC dI cyI cyA (fun (_ : Unit) => True) A (fun _ => [ob q0 3 [.ref a0, .ref t0, .ref z0, .int isv, .ref d0, .ref e0, .int fz, .ref g0], ob a0 0 [.int (nI n), .ref a1, .ref a2, .ref a3, .ref a4, .int vs, .int vb, .int vd], ai a1 cyI 7 fh, ai a2 cyI 7 fg, ai a3 cyI 7 ff, ai a4 cyI 7 fk, ob t0 0 [.int (nI n), .ref t1, .ref t2, .ref t3, .ref t4, .int ((pl phc psc nuc n fp fz kw vw (ct w) 0 0 fh fg (bgY n ff fp fz 0) fk vs vb 0).2.2.2.2.1), .int ((pl phc psc nuc n fp fz kw vw (ct w) 0 0 fh fg (bgY n ff fp fz 0) fk vs vb 0).2.2.2.2.2.1), .int ((pl phc psc nuc n fp fz kw vw (ct w) 0 0 fh fg (bgY n ff fp fz 0) fk vs vb 0).2.2.2.2.2.2)], ai t1 cyI 7 ((pl phc psc nuc n fp fz kw vw (ct w) 0 0 fh fg (bgY n ff fp fz 0) fk vs vb 0).1), ai t2 cyI 7 ((pl phc psc nuc n fp fz kw vw (ct w) 0 0 fh fg (bgY n ff fp fz 0) fk vs vb 0).2.1), ai t3 cyI 7 ((pl phc psc nuc n fp fz kw vw (ct w) 0 0 fh fg (bgY n ff fp fz 0) fk vs vb 0).2.2.1), ai t4 cyI 7 ((pl phc psc nuc n fp fz kw vw (ct w) 0 0 fh fg (bgY n ff fp fz 0) fk vs vb 0).2.2.2.1), ob d0 2 [.ref d1, .ref d2, .ref d3], ai d1 cyI 3 (nF ct), aa d2 cyA 3 fK, aa d3 cyA 3 fV, ai kr cyI 12 kw, ai vr cyI 12 vw, ai g0 cyI 3 fp])) (by decide) rfl (Nat.le_of_ble_eq_true rfl) ?_
  intro p e s m below meth c A args Q hQ hx hb hr hlocks hml hts hown hnm hK hN hP hD hA hS ls hl
  have hl : lv_has ls 5 [(0, .ref q0), (1, .int (nI w))] := hl
  have hown : s.vm.findClass RX3 = some m.cls := hown
  have hw_1 := hts (.fieldLink RX3 16 "DuneBench" "trial" "LDuneBench$Coast;") (by decide +kernel)
  have hin_X3 : ∀ w ∈ u_ws RX3 TX3 8, w ∈ wsX3_play := by decide +kernel
  have hw_3 := hts (.fieldLink RX3 10 "DuneBench" "shore" "LDuneBench$Coast;") (by decide +kernel)
  have hw_4 := hts (.fieldLink RX3 105 "DuneBench$Coast" "flooded" "I") (by decide +kernel)
  have hin_X0 : ∀ w ∈ u_ws RX0 TX0 8, w ∈ wsX3_play := by decide +kernel
  have hw_6 := hts (.fieldLink RX3 29 "DuneBench" "weathers" "LDuneBench$Weathers;") (by decide +kernel)
  have hw_7 := hts (.fieldLink RX3 91 "DuneBench$Weathers" "count" "[I") (by decide +kernel)
  have hin_X2 : ∀ w ∈ u_ws RX2 TX2 3, w ∈ wsX3_play := by decide +kernel
  have hw_9 := hts (.fieldLink RX3 185 "DuneBench$Weathers" "value" "[[I") (by decide +kernel)
  have hw_10 := hts (.fieldLink RX3 189 "DuneBench$Weathers" "kind" "[[I") (by decide +kernel)
  obtain ⟨H, hHe⟩ : ∃ H, H = s.heap := ⟨_, rfl⟩
  obtain ⟨locs, hLe⟩ : ∃ locs : List Loc, locs = [] := ⟨_, rfl⟩
  have hP : va_P (dC, dI) vwCl [ob q0 3 [.ref a0, .ref t0, .ref z0, .int isv, .ref d0, .ref e0, .int fz, .ref g0], ob a0 0 [.int (nI n), .ref a1, .ref a2, .ref a3, .ref a4, .int vs, .int vb, .int vd], ai a1 cyI 7 fh, ai a2 cyI 7 fg, ai a3 cyI 7 ff, ai a4 cyI 7 fk, ob t0 0 [.int (nI tn), .ref t1, .ref t2, .ref t3, .ref t4, .int ts, .int tb, .int td], ai t1 cyI 7 th, ai t2 cyI 7 tg, ai t3 cyI 7 tf, ai t4 cyI 7 tk, ob d0 2 [.ref d1, .ref d2, .ref d3], ai d1 cyI 3 (nF ct), aa d2 cyA 3 fK, aa d3 cyA 3 fV, ai kr cyI 12 kw, ai vr cyI 12 vw, ai g0 cyI 3 fp] H := by rw [hHe]; exact hP
  have hS : va_S A s.heap H locs := by rw [hHe, hLe]; exact hS
  suffices hgo : W p l e (rm 3) s m args below meth c H locs 0 0 Q (F0 m 0 ls []) by rw [hHe, hLe] at hgo; exact hgo
  refine lv_aload_n hx hb dX3_play_0 rfl (lv_at hl 0 rfl) ?_
  refine va_get (D := (dC, dI)) (ci := 3) (v := .ref t0) (C := RX3) (T := TX3) (N := 8) hx hb hts hin_X3 hown hK hP 0 rfl rfl 1 (by decide) hw_1 (fun _ h9 => h9) rfl dX3_play_1 ?_
  refine lv_aload_n hx hb dX3_play_4 rfl (lv_at hl 0 rfl) ?_
  refine va_get (D := (dC, dI)) (ci := 3) (v := .ref a0) (C := RX3) (T := TX3) (N := 8) hx hb hts hin_X3 hown hK hP 0 rfl rfl 0 (by decide) hw_3 (fun _ h9 => h9) rfl dX3_play_5 ?_
  refine ra_cV (q := (RX0, TX0, 8)) (ci := 0) (As := [.ref a0]) (rest := []) (wc := [ob t0 0 [.int (nI tn), .ref t1, .ref t2, .ref t3, .ref t4, .int ts, .int tb, .int td], ai t1 cyI 7 th, ai t2 cyI 7 tg, ai t3 cyI 7 tf, ai t4 cyI 7 tk, ob a0 0 [.int (nI n), .ref a1, .ref a2, .ref a3, .ref a4, .int vs, .int vb, .int vd], ai a1 cyI 7 fh, ai a2 cyI 7 fg, ai a3 cyI 7 ff, ai a4 cyI 7 fk]) (wr := [ob q0 3 [.ref a0, .ref t0, .ref z0, .int isv, .ref d0, .ref e0, .int fz, .ref g0], ob d0 2 [.ref d1, .ref d2, .ref d3], ai d1 cyI 3 (nF ct), aa d2 cyA 3 fK, aa d3 cyA 3 fV, ai kr cyI 12 kw, ai vr cyI 12 vw, ai g0 cyI 3 fp]) ⟨hx, hb, hml, hown, hts⟩ (c_X0_copyFrom l dC dI cyI cyA t0 t1 t2 t3 t4 tn th tg tf tk ts tb td a0 a1 a2 a3 a4 n fh fg ff fk vs vb vd  H.size) (cwV 1 hts gX3_play_X0_copyFrom rfl rfl rfl (by decide +kernel) ⟨Nat.le_of_ble_eq_true rfl, Nat.le_of_ble_eq_true rfl⟩) hK hN hP hD hA hS [6, 7, 8, 9, 10, 1, 2, 3, 4, 5] [0, 11, 12, 13, 14, 15, 16, 17] rfl rfl (by decide) (by decide) (by decide) rfl rfl rfl hl.1 rfl (Nat.le_of_ble_eq_true rfl) dX3_play_8 ⟨Nat.le_of_ble_eq_true rfl, Nat.le_of_ble_eq_true rfl⟩ (fun u_1 hw_c1 H locs hP hD hS => ?_)
  have hP : va_P (dC, dI) vwCl [ob q0 3 [.ref a0, .ref t0, .ref z0, .int isv, .ref d0, .ref e0, .int fz, .ref g0], ob d0 2 [.ref d1, .ref d2, .ref d3], ai d1 cyI 3 (nF ct), aa d2 cyA 3 fK, aa d3 cyA 3 fV, ai kr cyI 12 kw, ai vr cyI 12 vw, ai g0 cyI 3 fp, ob t0 0 [.int (nI n), .ref t1, .ref t2, .ref t3, .ref t4, .int vs, .int vb, .int vd], ai t1 cyI 7 fh, ai t2 cyI 7 fg, ai t3 cyI 7 ff, ai t4 cyI 7 fk, ob a0 0 [.int (nI n), .ref a1, .ref a2, .ref a3, .ref a4, .int vs, .int vb, .int vd], ai a1 cyI 7 fh, ai a2 cyI 7 fg, ai a3 cyI 7 ff, ai a4 cyI 7 fk] H := hP
  have hD : va_D A [ob q0 3 [.ref a0, .ref t0, .ref z0, .int isv, .ref d0, .ref e0, .int fz, .ref g0], ob d0 2 [.ref d1, .ref d2, .ref d3], ai d1 cyI 3 (nF ct), aa d2 cyA 3 fK, aa d3 cyA 3 fV, ai kr cyI 12 kw, ai vr cyI 12 vw, ai g0 cyI 3 fp, ob t0 0 [.int (nI n), .ref t1, .ref t2, .ref t3, .ref t4, .int vs, .int vb, .int vd], ai t1 cyI 7 fh, ai t2 cyI 7 fg, ai t3 cyI 7 ff, ai t4 cyI 7 fk, ob a0 0 [.int (nI n), .ref a1, .ref a2, .ref a3, .ref a4, .int vs, .int vb, .int vd], ai a1 cyI 7 fh, ai a2 cyI 7 fg, ai a3 cyI 7 ff, ai a4 cyI 7 fk] := hD
  refine lv_aload_n hx hb dX3_play_11 rfl (lv_at hl 0 rfl) ?_
  refine va_get (D := (dC, dI)) (ci := 3) (v := .ref t0) (C := RX3) (T := TX3) (N := 8) hx hb hts hin_X3 hown hK hP 0 rfl rfl 1 (by decide) hw_1 (fun _ h9 => h9) rfl dX3_play_12 ?_
  refine lv_iconst (v := 0) hx hb dX3_play_15 (by decide) ?_
  refine va_put (D := (dC, dI)) (ci := 0) (v := .int 0) (ty := .int) (C := RX0) (T := TX0) (N := 8) hx hb hts hin_X0 tyX0 tyX0_ok nmX0 hown hK hP hD hS 8 rfl rfl 7 (by decide) hw_4 (fun _ h9 => h9) rfl (by decide +kernel) rfl rfl (Nat.le_of_ble_eq_true rfl) dX3_play_16 (fun H locs hP hD hS => ?_)
  have hP : va_P (dC, dI) vwCl [ob q0 3 [.ref a0, .ref t0, .ref z0, .int isv, .ref d0, .ref e0, .int fz, .ref g0], ob d0 2 [.ref d1, .ref d2, .ref d3], ai d1 cyI 3 (nF ct), aa d2 cyA 3 fK, aa d3 cyA 3 fV, ai kr cyI 12 kw, ai vr cyI 12 vw, ai g0 cyI 3 fp, ob t0 0 [.int (nI n), .ref t1, .ref t2, .ref t3, .ref t4, .int vs, .int vb, .int 0], ai t1 cyI 7 fh, ai t2 cyI 7 fg, ai t3 cyI 7 ff, ai t4 cyI 7 fk, ob a0 0 [.int (nI n), .ref a1, .ref a2, .ref a3, .ref a4, .int vs, .int vb, .int vd], ai a1 cyI 7 fh, ai a2 cyI 7 fg, ai a3 cyI 7 ff, ai a4 cyI 7 fk] H := hP
  have hD : va_D A [ob q0 3 [.ref a0, .ref t0, .ref z0, .int isv, .ref d0, .ref e0, .int fz, .ref g0], ob d0 2 [.ref d1, .ref d2, .ref d3], ai d1 cyI 3 (nF ct), aa d2 cyA 3 fK, aa d3 cyA 3 fV, ai kr cyI 12 kw, ai vr cyI 12 vw, ai g0 cyI 3 fp, ob t0 0 [.int (nI n), .ref t1, .ref t2, .ref t3, .ref t4, .int vs, .int vb, .int 0], ai t1 cyI 7 fh, ai t2 cyI 7 fg, ai t3 cyI 7 ff, ai t4 cyI 7 fk, ob a0 0 [.int (nI n), .ref a1, .ref a2, .ref a3, .ref a4, .int vs, .int vb, .int vd], ai a1 cyI 7 fh, ai a2 cyI 7 fg, ai a3 cyI 7 ff, ai a4 cyI 7 fk] := hD
  refine lv_iconst (v := 0) hx hb dX3_play_19 (by decide) ?_
  refine lv_istore_n (lv' := [(2, .int 0), (0, .ref q0), (1, .int (nI w))]) hx hb dX3_play_20 rfl hl (by decide) rfl (fun ls hl => ?_)
  refine lv_aload_n hx hb dX3_play_21 rfl (lv_at hl 1 rfl) ?_
  refine lv_iload_n hx hb dX3_play_22 rfl (lv_at hl 0 rfl) ?_
  refine ra_cV (q := (RX3, TX3, 8)) (ci := 3) (As := [.int 0]) (rest := []) (wc := [ob q0 3 [.ref a0, .ref t0, .ref z0, .int isv, .ref d0, .ref e0, .int fz, .ref g0], ob t0 0 [.int (nI n), .ref t1, .ref t2, .ref t3, .ref t4, .int vs, .int vb, .int 0], ai t1 cyI 7 fh, ai t2 cyI 7 fg, ai t3 cyI 7 ff, ai t4 cyI 7 fk, ai g0 cyI 3 fp]) (wr := [ob d0 2 [.ref d1, .ref d2, .ref d3], ai d1 cyI 3 (nF ct), aa d2 cyA 3 fK, aa d3 cyA 3 fV, ai kr cyI 12 kw, ai vr cyI 12 vw, ob a0 0 [.int (nI n), .ref a1, .ref a2, .ref a3, .ref a4, .int vs, .int vb, .int vd], ai a1 cyI 7 fh, ai a2 cyI 7 fg, ai a3 cyI 7 ff, ai a4 cyI 7 fk]) ⟨hx, hb, hml, hown, hts⟩ (c_X3_beginYear l dC dI cyI cyA q0 z0 e0 g0 isv fz a0 d0 t0 t1 t2 t3 t4 n fh fg ff fk vs vb 0 fp 0 (by omega) (by omega) H.size) (cwV 1 hts gX3_play_X3_beginYear rfl rfl rfl (by decide +kernel) ⟨Nat.le_of_ble_eq_true rfl, Nat.le_of_ble_eq_true rfl⟩) hK hN hP hD hA hS [0, 8, 9, 10, 11, 12, 7] [1, 2, 3, 4, 5, 6, 13, 14, 15, 16, 17] rfl rfl (by decide) (by decide) (by decide) rfl rfl rfl hl.1 rfl (Nat.le_of_ble_eq_true rfl) dX3_play_23 ⟨Nat.le_of_ble_eq_true rfl, Nat.le_of_ble_eq_true rfl⟩ (fun u_2 hw_c2 H locs hP hD hS => ?_)
  have hP : va_P (dC, dI) vwCl [ob d0 2 [.ref d1, .ref d2, .ref d3], ai d1 cyI 3 (nF ct), aa d2 cyA 3 fK, aa d3 cyA 3 fV, ai kr cyI 12 kw, ai vr cyI 12 vw, ob a0 0 [.int (nI n), .ref a1, .ref a2, .ref a3, .ref a4, .int vs, .int vb, .int vd], ai a1 cyI 7 fh, ai a2 cyI 7 fg, ai a3 cyI 7 ff, ai a4 cyI 7 fk, ob q0 3 [.ref a0, .ref t0, .ref z0, .int isv, .ref d0, .ref e0, .int fz, .ref g0], ob t0 0 [.int (nI n), .ref t1, .ref t2, .ref t3, .ref t4, .int vs, .int vb, .int 0], ai t1 cyI 7 fh, ai t2 cyI 7 fg, ai t3 cyI 7 (bgY n ff fp fz 0), ai t4 cyI 7 fk, ai g0 cyI 3 fp] H := hP
  have hD : va_D A [ob d0 2 [.ref d1, .ref d2, .ref d3], ai d1 cyI 3 (nF ct), aa d2 cyA 3 fK, aa d3 cyA 3 fV, ai kr cyI 12 kw, ai vr cyI 12 vw, ob a0 0 [.int (nI n), .ref a1, .ref a2, .ref a3, .ref a4, .int vs, .int vb, .int vd], ai a1 cyI 7 fh, ai a2 cyI 7 fg, ai a3 cyI 7 ff, ai a4 cyI 7 fk, ob q0 3 [.ref a0, .ref t0, .ref z0, .int isv, .ref d0, .ref e0, .int fz, .ref g0], ob t0 0 [.int (nI n), .ref t1, .ref t2, .ref t3, .ref t4, .int vs, .int vb, .int 0], ai t1 cyI 7 fh, ai t2 cyI 7 fg, ai t3 cyI 7 (bgY n ff fp fz 0), ai t4 cyI 7 fk, ai g0 cyI 3 fp] := hD
  refine lv_iconst (v := 0) hx hb dX3_play_26 (by decide) ?_
  refine lv_istore_n (lv' := [(3, .int 0), (2, .int 0), (0, .ref q0), (1, .int (nI w))]) hx hb dX3_play_27 rfl hl (by decide) rfl (fun ls hl => ?_)
  have L_28 : ∀ (n9 : Nat) (i : Nat) (y : Nat) (xh : FN) (xg : FN) (xf : FN) (xk : FN) (xs : Int32) (xb : Int32) (xd : Int32), (i ≤ ct w) → (y ≤ i) → (pl phc psc nuc n fp fz kw vw (ct w - i) i y xh xg xf xk xs xb xd = pl phc psc nuc n fp fz kw vw (ct w) 0 0 fh fg (bgY n ff fp fz 0) fk vs vb 0) → (ct w - i) < n9 → ∀ (H : Heap) (locs : List Loc), va_P (dC, dI) vwCl [ob q0 3 [.ref a0, .ref t0, .ref z0, .int isv, .ref d0, .ref e0, .int fz, .ref g0], ob a0 0 [.int (nI n), .ref a1, .ref a2, .ref a3, .ref a4, .int vs, .int vb, .int vd], ai a1 cyI 7 fh, ai a2 cyI 7 fg, ai a3 cyI 7 ff, ai a4 cyI 7 fk, ob t0 0 [.int (nI n), .ref t1, .ref t2, .ref t3, .ref t4, .int xs, .int xb, .int xd], ai t1 cyI 7 xh, ai t2 cyI 7 xg, ai t3 cyI 7 xf, ai t4 cyI 7 xk, ob d0 2 [.ref d1, .ref d2, .ref d3], ai d1 cyI 3 (nF ct), aa d2 cyA 3 fK, aa d3 cyA 3 fV, ai kr cyI 12 kw, ai vr cyI 12 vw, ai g0 cyI 3 fp] H → va_D A [ob q0 3 [.ref a0, .ref t0, .ref z0, .int isv, .ref d0, .ref e0, .int fz, .ref g0], ob a0 0 [.int (nI n), .ref a1, .ref a2, .ref a3, .ref a4, .int vs, .int vb, .int vd], ai a1 cyI 7 fh, ai a2 cyI 7 fg, ai a3 cyI 7 ff, ai a4 cyI 7 fk, ob t0 0 [.int (nI n), .ref t1, .ref t2, .ref t3, .ref t4, .int xs, .int xb, .int xd], ai t1 cyI 7 xh, ai t2 cyI 7 xg, ai t3 cyI 7 xf, ai t4 cyI 7 xk, ob d0 2 [.ref d1, .ref d2, .ref d3], ai d1 cyI 3 (nF ct), aa d2 cyA 3 fK, aa d3 cyA 3 fV, ai kr cyI 12 kw, ai vr cyI 12 vw, ai g0 cyI 3 fp] → va_S A s.heap H locs → ∀ ls : Array Slot, lv_has ls 5 [(0, .ref q0), (1, .int (nI w)), (2, .int (nI y)), (3, .int (nI i))] → W p l e (rm 3) s m args below meth c H locs 0 0 Q (F0 m 28 ls []) := by
    intro n9
    induction n9 with
    | zero =>
      intro i y xh xg xf xk xs xb xd hi hy he hm9
      exact absurd hm9 (Nat.not_lt_zero _)
    | succ n9 ih_28 =>
      intro i y xh xg xf xk xs xb xd hi hy he hm9 H locs hP hD hS ls hl
      refine lv_iload_n hx hb dX3_play_28 rfl (lv_at hl 3 rfl) ?_
      refine lv_aload_n hx hb dX3_play_29 rfl (lv_at hl 0 rfl) ?_
      refine va_get (D := (dC, dI)) (ci := 3) (v := .ref d0) (C := RX3) (T := TX3) (N := 8) hx hb hts hin_X3 hown hK hP 0 rfl rfl 4 (by decide) hw_6 (fun _ h9 => h9) rfl dX3_play_30 ?_
      refine va_get (D := (dC, dI)) (ci := 2) (v := .ref d1) (C := RX2) (T := TX2) (N := 3) hx hb hts hin_X2 hown hK hP 11 rfl rfl 0 (by decide) hw_7 (fun _ h9 => h9) rfl dX3_play_33 ?_
      refine lv_iload_n hx hb dX3_play_36 rfl (lv_at hl 1 rfl) ?_
      refine ra_iald hx hb hK hP 12 rfl w rfl (by omega) (Nat.le_of_ble_eq_true rfl) dX3_play_37 ?_
      refine ra_top (nI (ct w)) rfl ?_
      refine lv_icmp_ge (tgt := 140) hx hb dX3_play_38 (by decide) (fun c_38 => ?_) (fun c_38 => ?_)
      · ---- to 140
        have n_38 := (nq_le (ct w) i (by omega) (by omega)).mp c_38
        have he : (xh, xg, xf, xk, xs, xb, xd) = pl phc psc nuc n fp fz kw vw (ct w) 0 0 fh fg (bgY n ff fp fz 0) fk vs vb 0 := by rw [← he, show ct w - i = 0 by omega]; rfl
        rw [hQ]
        rw [← he]
        exact ra_vretW () hx hb hr hlocks hK hP hD hS trivial dX3_play_140
      · ---- on
        have n_38 := (nq_le_n (ct w) i (by omega) (by omega)).mp c_38
        refine lv_aload_n hx hb dX3_play_41 rfl (lv_at hl 0 rfl) ?_
        refine va_get (D := (dC, dI)) (ci := 3) (v := .ref d0) (C := RX3) (T := TX3) (N := 8) hx hb hts hin_X3 hown hK hP 0 rfl rfl 4 (by decide) hw_6 (fun _ h9 => h9) rfl dX3_play_42 ?_
        refine va_get (D := (dC, dI)) (ci := 2) (v := .ref d3) (C := RX2) (T := TX2) (N := 3) hx hb hts hin_X2 hown hK hP 11 rfl rfl 2 (by decide) hw_9 (fun _ h9 => h9) rfl dX3_play_45 ?_
        refine lv_iload_n hx hb dX3_play_48 rfl (lv_at hl 1 rfl) ?_
        refine ra_aald (b := vr) hx hb hK hP 14 rfl w rfl (by omega) (Nat.le_of_ble_eq_true rfl) hfv dX3_play_49 ?_
        refine lv_iload_n hx hb dX3_play_50 rfl (lv_at hl 3 rfl) ?_
        refine ra_iald hx hb hK hP 16 rfl i rfl (by omega) (Nat.le_of_ble_eq_true rfl) dX3_play_51 ?_
        refine lv_istore (lv' := [(4, .int (vw i)), (0, .ref q0), (1, .int (nI w)), (2, .int (nI y)), (3, .int (nI i))]) hx hb dX3_play_52 hl (by decide) rfl (fun ls hl => ?_)
        refine lv_aload_n hx hb dX3_play_54 rfl (lv_at hl 1 rfl) ?_
        refine va_get (D := (dC, dI)) (ci := 3) (v := .ref d0) (C := RX3) (T := TX3) (N := 8) hx hb hts hin_X3 hown hK hP 0 rfl rfl 4 (by decide) hw_6 (fun _ h9 => h9) rfl dX3_play_55 ?_
        refine va_get (D := (dC, dI)) (ci := 2) (v := .ref d2) (C := RX2) (T := TX2) (N := 3) hx hb hts hin_X2 hown hK hP 11 rfl rfl 1 (by decide) hw_10 (fun _ h9 => h9) rfl dX3_play_58 ?_
        refine lv_iload_n hx hb dX3_play_61 rfl (lv_at hl 2 rfl) ?_
        refine ra_aald (b := kr) hx hb hK hP 13 rfl w rfl (by omega) (Nat.le_of_ble_eq_true rfl) hfk dX3_play_62 ?_
        refine lv_iload_n hx hb dX3_play_63 rfl (lv_at hl 4 rfl) ?_
        refine ra_iald hx hb hK hP 15 rfl i rfl (by omega) (Nat.le_of_ble_eq_true rfl) dX3_play_64 ?_
        by_cases h0 : kw i = 0
        ·
          refine ra_top 0 h0 ?_
          refine lv_lookup (off := 27) (tgt := 92) hx hb dX3_play_65 (by decide) (by decide) (by decide) ?_
          refine lv_aload_n hx hb dX3_play_92 rfl (lv_at hl 1 rfl) ?_
          refine va_get (D := (dC, dI)) (ci := 3) (v := .ref t0) (C := RX3) (T := TX3) (N := 8) hx hb hts hin_X3 hown hK hP 0 rfl rfl 1 (by decide) hw_1 (fun _ h9 => h9) rfl dX3_play_93 ?_
          refine lv_iload hx hb dX3_play_96 (lv_at hl 0 rfl) ?_
          refine ra_cI (q := (RX0, TX0, 8)) (ci := 0) (As := [.int (vw i)]) (rest := []) (wc := [ob t0 0 [.int (nI n), .ref t1, .ref t2, .ref t3, .ref t4, .int xs, .int xb, .int xd], ai t1 cyI 7 xh, ai t2 cyI 7 xg, ai t3 cyI 7 xf, ai t4 cyI 7 xk]) (wr := [ob q0 3 [.ref a0, .ref t0, .ref z0, .int isv, .ref d0, .ref e0, .int fz, .ref g0], ob a0 0 [.int (nI n), .ref a1, .ref a2, .ref a3, .ref a4, .int vs, .int vb, .int vd], ai a1 cyI 7 fh, ai a2 cyI 7 fg, ai a3 cyI 7 ff, ai a4 cyI 7 fk, ob d0 2 [.ref d1, .ref d2, .ref d3], ai d1 cyI 3 (nF ct), aa d2 cyA 3 fK, aa d3 cyA 3 fV, ai kr cyI 12 kw, ai vr cyI 12 vw, ai g0 cyI 3 fp]) ⟨hx, hb, hml, hown, hts⟩ (c_X0_blow l dC dI cyI cyA t0 t1 t2 t3 t4 n xh xg xf xk xs xb xd (vw i) (by omega) H.size) (cwV 1 hts gX3_play_X0_blow rfl rfl rfl (by decide +kernel) ⟨Nat.le_of_ble_eq_true rfl, Nat.le_of_ble_eq_true rfl⟩) hK hN hP hD hA hS [6, 7, 8, 9, 10] [0, 1, 2, 3, 4, 5, 11, 12, 13, 14, 15, 16, 17] rfl rfl (by decide) (by decide) (by decide) rfl rfl rfl hl.1 rfl (Nat.le_of_ble_eq_true rfl) dX3_play_98 ⟨Nat.le_of_ble_eq_true rfl, Nat.le_of_ble_eq_true rfl⟩ (fun r_3 u_3 hw_c3 H locs hP hD hS => ?_)
          subst hw_c3
          have hP : va_P (dC, dI) vwCl [ob q0 3 [.ref a0, .ref t0, .ref z0, .int isv, .ref d0, .ref e0, .int fz, .ref g0], ob a0 0 [.int (nI n), .ref a1, .ref a2, .ref a3, .ref a4, .int vs, .int vb, .int vd], ai a1 cyI 7 fh, ai a2 cyI 7 fg, ai a3 cyI 7 ff, ai a4 cyI 7 fk, ob d0 2 [.ref d1, .ref d2, .ref d3], ai d1 cyI 3 (nF ct), aa d2 cyA 3 fK, aa d3 cyA 3 fV, ai kr cyI 12 kw, ai vr cyI 12 vw, ai g0 cyI 3 fp, ob t0 0 [.int (nI n), .ref t1, .ref t2, .ref t3, .ref t4, .int xs, .int (xb + (blow phc psc n xh xg xf xk (vw i)).2.2.2), .int xd], ai t1 cyI 7 ((blow phc psc n xh xg xf xk (vw i)).1), ai t2 cyI 7 xg, ai t3 cyI 7 ((blow phc psc n xh xg xf xk (vw i)).2.1), ai t4 cyI 7 ((blow phc psc n xh xg xf xk (vw i)).2.2.1)] H := hP
          have hD : va_D A [ob q0 3 [.ref a0, .ref t0, .ref z0, .int isv, .ref d0, .ref e0, .int fz, .ref g0], ob a0 0 [.int (nI n), .ref a1, .ref a2, .ref a3, .ref a4, .int vs, .int vb, .int vd], ai a1 cyI 7 fh, ai a2 cyI 7 fg, ai a3 cyI 7 ff, ai a4 cyI 7 fk, ob d0 2 [.ref d1, .ref d2, .ref d3], ai d1 cyI 3 (nF ct), aa d2 cyA 3 fK, aa d3 cyA 3 fV, ai kr cyI 12 kw, ai vr cyI 12 vw, ai g0 cyI 3 fp, ob t0 0 [.int (nI n), .ref t1, .ref t2, .ref t3, .ref t4, .int xs, .int (xb + (blow phc psc n xh xg xf xk (vw i)).2.2.2), .int xd], ai t1 cyI 7 ((blow phc psc n xh xg xf xk (vw i)).1), ai t2 cyI 7 xg, ai t3 cyI 7 ((blow phc psc n xh xg xf xk (vw i)).2.1), ai t4 cyI 7 ((blow phc psc n xh xg xf xk (vw i)).2.2.1)] := hD
          refine lv_pop hx hb dX3_play_101 rfl ?_
          refine lv_goto (tgt := 134) hx hb dX3_play_102 (by decide) ?_
          refine lv_iinc (v := nI (i + 1)) (lv' := [(3, .int (nI (i + 1))), (4, .int (vw i)), (0, .ref q0), (1, .int (nI w)), (2, .int (nI y))]) hx hb dX3_play_134 hl (k := 4) rfl (ra_inc1 _) (by decide) rfl (fun ls hl => ?_)
          refine lv_goto (tgt := 28) hx hb dX3_play_137 (by decide) ?_
          exact ih_28 (i + 1) y ((blow phc psc n xh xg xf xk (vw i)).1) xg ((blow phc psc n xh xg xf xk (vw i)).2.1) ((blow phc psc n xh xg xf xk (vw i)).2.2.1) xs (xb + (blow phc psc n xh xg xf xk (vw i)).2.2.2) xd (by omega) (by omega) (by rw [← he, show ct w - i = ct w - (i + 1) + 1 by omega]; show _ = ite _ _ _; first | (rw [if_pos h0]; done) | (rw [if_neg h0, if_pos h1]; done) | (rw [if_neg h0, if_neg h1]; done)) (by omega) H locs (hP.sub [0, 1, 2, 3, 4, 5, 13, 14, 15, 16, 17, 6, 7, 8, 9, 10, 11, 12] rfl) (hD.sub [0, 1, 2, 3, 4, 5, 13, 14, 15, 16, 17, 6, 7, 8, 9, 10, 11, 12] (by decide) rfl) hS ls (lv_sub hl [2, 3, 4, 0] rfl)
        ·
          by_cases h1 : kw i = 1
          ·
            refine ra_top 1 h1 ?_
            refine lv_lookup (off := 40) (tgt := 105) hx hb dX3_play_65 (by decide) (by decide) (by decide) ?_
            refine lv_aload_n hx hb dX3_play_105 rfl (lv_at hl 1 rfl) ?_
            refine va_get (D := (dC, dI)) (ci := 3) (v := .ref t0) (C := RX3) (T := TX3) (N := 8) hx hb hts hin_X3 hown hK hP 0 rfl rfl 1 (by decide) hw_1 (fun _ h9 => h9) rfl dX3_play_106 ?_
            refine lv_iload hx hb dX3_play_109 (lv_at hl 0 rfl) ?_
            refine ra_cI (q := (RX0, TX0, 8)) (ci := 0) (As := [.int (vw i)]) (rest := []) (wc := [ob t0 0 [.int (nI n), .ref t1, .ref t2, .ref t3, .ref t4, .int xs, .int xb, .int xd], ai t1 cyI 7 xh, ai t2 cyI 7 xg, ai t3 cyI 7 xf, ai t4 cyI 7 xk]) (wr := [ob q0 3 [.ref a0, .ref t0, .ref z0, .int isv, .ref d0, .ref e0, .int fz, .ref g0], ob a0 0 [.int (nI n), .ref a1, .ref a2, .ref a3, .ref a4, .int vs, .int vb, .int vd], ai a1 cyI 7 fh, ai a2 cyI 7 fg, ai a3 cyI 7 ff, ai a4 cyI 7 fk, ob d0 2 [.ref d1, .ref d2, .ref d3], ai d1 cyI 3 (nF ct), aa d2 cyA 3 fK, aa d3 cyA 3 fV, ai kr cyI 12 kw, ai vr cyI 12 vw, ai g0 cyI 3 fp]) ⟨hx, hb, hml, hown, hts⟩ (c_X0_surge l dC dI cyI cyA t0 t1 t2 t3 t4 n xh xg xf xk xs xb xd (vw i) (by omega) H.size) (cwV 1 hts gX3_play_X0_surge rfl rfl rfl (by decide +kernel) ⟨Nat.le_of_ble_eq_true rfl, Nat.le_of_ble_eq_true rfl⟩) hK hN hP hD hA hS [6, 7, 8, 9, 10] [0, 1, 2, 3, 4, 5, 11, 12, 13, 14, 15, 16, 17] rfl rfl (by decide) (by decide) (by decide) rfl rfl rfl hl.1 rfl (Nat.le_of_ble_eq_true rfl) dX3_play_111 ⟨Nat.le_of_ble_eq_true rfl, Nat.le_of_ble_eq_true rfl⟩ (fun r_4 u_4 hw_c4 H locs hP hD hS => ?_)
            subst hw_c4
            have hP : va_P (dC, dI) vwCl [ob q0 3 [.ref a0, .ref t0, .ref z0, .int isv, .ref d0, .ref e0, .int fz, .ref g0], ob a0 0 [.int (nI n), .ref a1, .ref a2, .ref a3, .ref a4, .int vs, .int vb, .int vd], ai a1 cyI 7 fh, ai a2 cyI 7 fg, ai a3 cyI 7 ff, ai a4 cyI 7 fk, ob d0 2 [.ref d1, .ref d2, .ref d3], ai d1 cyI 3 (nF ct), aa d2 cyA 3 fK, aa d3 cyA 3 fV, ai kr cyI 12 kw, ai vr cyI 12 vw, ai g0 cyI 3 fp, ob t0 0 [.int (nI n), .ref t1, .ref t2, .ref t3, .ref t4, .int ((srg (vw i) n 0 xh xg xf xs xd).2.2.2.2.1), .int xb, .int ((srg (vw i) n 0 xh xg xf xs xd).2.2.2.2.2)], ai t1 cyI 7 ((srg (vw i) n 0 xh xg xf xs xd).2.1), ai t2 cyI 7 ((srg (vw i) n 0 xh xg xf xs xd).2.2.1), ai t3 cyI 7 ((srg (vw i) n 0 xh xg xf xs xd).2.2.2.1), ai t4 cyI 7 xk] H := hP
            have hD : va_D A [ob q0 3 [.ref a0, .ref t0, .ref z0, .int isv, .ref d0, .ref e0, .int fz, .ref g0], ob a0 0 [.int (nI n), .ref a1, .ref a2, .ref a3, .ref a4, .int vs, .int vb, .int vd], ai a1 cyI 7 fh, ai a2 cyI 7 fg, ai a3 cyI 7 ff, ai a4 cyI 7 fk, ob d0 2 [.ref d1, .ref d2, .ref d3], ai d1 cyI 3 (nF ct), aa d2 cyA 3 fK, aa d3 cyA 3 fV, ai kr cyI 12 kw, ai vr cyI 12 vw, ai g0 cyI 3 fp, ob t0 0 [.int (nI n), .ref t1, .ref t2, .ref t3, .ref t4, .int ((srg (vw i) n 0 xh xg xf xs xd).2.2.2.2.1), .int xb, .int ((srg (vw i) n 0 xh xg xf xs xd).2.2.2.2.2)], ai t1 cyI 7 ((srg (vw i) n 0 xh xg xf xs xd).2.1), ai t2 cyI 7 ((srg (vw i) n 0 xh xg xf xs xd).2.2.1), ai t3 cyI 7 ((srg (vw i) n 0 xh xg xf xs xd).2.2.2.1), ai t4 cyI 7 xk] := hD
            refine lv_pop hx hb dX3_play_114 rfl ?_
            refine lv_goto (tgt := 134) hx hb dX3_play_115 (by decide) ?_
            refine lv_iinc (v := nI (i + 1)) (lv' := [(3, .int (nI (i + 1))), (4, .int (vw i)), (0, .ref q0), (1, .int (nI w)), (2, .int (nI y))]) hx hb dX3_play_134 hl (k := 4) rfl (ra_inc1 _) (by decide) rfl (fun ls hl => ?_)
            refine lv_goto (tgt := 28) hx hb dX3_play_137 (by decide) ?_
            exact ih_28 (i + 1) y ((srg (vw i) n 0 xh xg xf xs xd).2.1) ((srg (vw i) n 0 xh xg xf xs xd).2.2.1) ((srg (vw i) n 0 xh xg xf xs xd).2.2.2.1) xk ((srg (vw i) n 0 xh xg xf xs xd).2.2.2.2.1) xb ((srg (vw i) n 0 xh xg xf xs xd).2.2.2.2.2) (by omega) (by omega) (by rw [← he, show ct w - i = ct w - (i + 1) + 1 by omega]; show _ = ite _ _ _; first | (rw [if_pos h0]; done) | (rw [if_neg h0, if_pos h1]; done) | (rw [if_neg h0, if_neg h1]; done)) (by omega) H locs (hP.sub [0, 1, 2, 3, 4, 5, 13, 14, 15, 16, 17, 6, 7, 8, 9, 10, 11, 12] rfl) (hD.sub [0, 1, 2, 3, 4, 5, 13, 14, 15, 16, 17, 6, 7, 8, 9, 10, 11, 12] (by decide) rfl) hS ls (lv_sub hl [2, 3, 4, 0] rfl)
          ·
            refine lv_lookup (off := 53) (tgt := 118) hx hb dX3_play_65 (by decide) (by show Op.lookupswitch.offset [(0, 27), (1, 40)] 53 _ = 53; rw [lv_osw (k := 0) h0 (by decide), lv_osw (k := 1) h1 (by decide)]; rfl) (by decide) ?_
            refine lv_aload_n hx hb dX3_play_118 rfl (lv_at hl 1 rfl) ?_
            refine va_get (D := (dC, dI)) (ci := 3) (v := .ref t0) (C := RX3) (T := TX3) (N := 8) hx hb hts hin_X3 hown hK hP 0 rfl rfl 1 (by decide) hw_1 (fun _ h9 => h9) rfl dX3_play_119 ?_
            refine ra_cI (q := (RX0, TX0, 8)) (ci := 0) (As := []) (rest := []) (wc := [ob t0 0 [.int (nI n), .ref t1, .ref t2, .ref t3, .ref t4, .int xs, .int xb, .int xd], ai t1 cyI 7 xh, ai t2 cyI 7 xg, ai t3 cyI 7 xf, ai t4 cyI 7 xk]) (wr := [ob q0 3 [.ref a0, .ref t0, .ref z0, .int isv, .ref d0, .ref e0, .int fz, .ref g0], ob a0 0 [.int (nI n), .ref a1, .ref a2, .ref a3, .ref a4, .int vs, .int vb, .int vd], ai a1 cyI 7 fh, ai a2 cyI 7 fg, ai a3 cyI 7 ff, ai a4 cyI 7 fk, ob d0 2 [.ref d1, .ref d2, .ref d3], ai d1 cyI 3 (nF ct), aa d2 cyA 3 fK, aa d3 cyA 3 fV, ai kr cyI 12 kw, ai vr cyI 12 vw, ai g0 cyI 3 fp]) ⟨hx, hb, hml, hown, hts⟩ (c_X0_endYear l dC dI cyI cyA t0 t1 t2 t3 t4 n xh xg xf xk xs xb xd (by omega) H.size) (cwV 0 hts gX3_play_X0_endYear rfl rfl rfl (by decide +kernel) ⟨Nat.le_of_ble_eq_true rfl, Nat.le_of_ble_eq_true rfl⟩) hK hN hP hD hA hS [6, 7, 8, 9, 10] [0, 1, 2, 3, 4, 5, 11, 12, 13, 14, 15, 16, 17] rfl rfl (by decide) (by decide) (by decide) rfl rfl rfl hl.1 rfl (Nat.le_of_ble_eq_true rfl) dX3_play_122 ⟨Nat.le_of_ble_eq_true rfl, Nat.le_of_ble_eq_true rfl⟩ (fun r_5 u_5 hw_c5 H locs hP hD hS => ?_)
            subst hw_c5
            have hP : va_P (dC, dI) vwCl [ob q0 3 [.ref a0, .ref t0, .ref z0, .int isv, .ref d0, .ref e0, .int fz, .ref g0], ob a0 0 [.int (nI n), .ref a1, .ref a2, .ref a3, .ref a4, .int vs, .int vb, .int vd], ai a1 cyI 7 fh, ai a2 cyI 7 fg, ai a3 cyI 7 ff, ai a4 cyI 7 fk, ob d0 2 [.ref d1, .ref d2, .ref d3], ai d1 cyI 3 (nF ct), aa d2 cyA 3 fK, aa d3 cyA 3 fV, ai kr cyI 12 kw, ai vr cyI 12 vw, ai g0 cyI 3 fp, ob t0 0 [.int (nI n), .ref t1, .ref t2, .ref t3, .ref t4, .int xs, .int xb, .int xd], ai t1 cyI 7 xh, ai t2 cyI 7 ((yE nuc n 0 xg xk 0).2.1), ai t3 cyI 7 xf, ai t4 cyI 7 ((yE nuc n 0 xg xk 0).2.2)] H := hP
            have hD : va_D A [ob q0 3 [.ref a0, .ref t0, .ref z0, .int isv, .ref d0, .ref e0, .int fz, .ref g0], ob a0 0 [.int (nI n), .ref a1, .ref a2, .ref a3, .ref a4, .int vs, .int vb, .int vd], ai a1 cyI 7 fh, ai a2 cyI 7 fg, ai a3 cyI 7 ff, ai a4 cyI 7 fk, ob d0 2 [.ref d1, .ref d2, .ref d3], ai d1 cyI 3 (nF ct), aa d2 cyA 3 fK, aa d3 cyA 3 fV, ai kr cyI 12 kw, ai vr cyI 12 vw, ai g0 cyI 3 fp, ob t0 0 [.int (nI n), .ref t1, .ref t2, .ref t3, .ref t4, .int xs, .int xb, .int xd], ai t1 cyI 7 xh, ai t2 cyI 7 ((yE nuc n 0 xg xk 0).2.1), ai t3 cyI 7 xf, ai t4 cyI 7 ((yE nuc n 0 xg xk 0).2.2)] := hD
            refine lv_pop hx hb dX3_play_125 rfl ?_
            refine lv_iinc (v := nI (y + 1)) (lv' := [(2, .int (nI (y + 1))), (4, .int (vw i)), (0, .ref q0), (1, .int (nI w)), (3, .int (nI i))]) hx hb dX3_play_126 hl (k := 3) rfl (ra_inc1 _) (by decide) rfl (fun ls hl => ?_)
            refine lv_aload_n hx hb dX3_play_129 rfl (lv_at hl 2 rfl) ?_
            refine lv_iload_n hx hb dX3_play_130 rfl (lv_at hl 0 rfl) ?_
            refine ra_cV (q := (RX3, TX3, 8)) (ci := 3) (As := [.int (nI (y + 1))]) (rest := []) (wc := [ob q0 3 [.ref a0, .ref t0, .ref z0, .int isv, .ref d0, .ref e0, .int fz, .ref g0], ob t0 0 [.int (nI n), .ref t1, .ref t2, .ref t3, .ref t4, .int xs, .int xb, .int xd], ai t1 cyI 7 xh, ai t2 cyI 7 ((yE nuc n 0 xg xk 0).2.1), ai t3 cyI 7 xf, ai t4 cyI 7 ((yE nuc n 0 xg xk 0).2.2), ai g0 cyI 3 fp]) (wr := [ob a0 0 [.int (nI n), .ref a1, .ref a2, .ref a3, .ref a4, .int vs, .int vb, .int vd], ai a1 cyI 7 fh, ai a2 cyI 7 fg, ai a3 cyI 7 ff, ai a4 cyI 7 fk, ob d0 2 [.ref d1, .ref d2, .ref d3], ai d1 cyI 3 (nF ct), aa d2 cyA 3 fK, aa d3 cyA 3 fV, ai kr cyI 12 kw, ai vr cyI 12 vw]) ⟨hx, hb, hml, hown, hts⟩ (c_X3_beginYear l dC dI cyI cyA q0 z0 e0 g0 isv fz a0 d0 t0 t1 t2 t3 t4 n xh ((yE nuc n 0 xg xk 0).2.1) xf ((yE nuc n 0 xg xk 0).2.2) xs xb xd fp (y + 1) (by omega) (by omega) H.size) (cwV 1 hts gX3_play_X3_beginYear rfl rfl rfl (by decide +kernel) ⟨Nat.le_of_ble_eq_true rfl, Nat.le_of_ble_eq_true rfl⟩) hK hN hP hD hA hS [0, 13, 14, 15, 16, 17, 12] [1, 2, 3, 4, 5, 6, 7, 8, 9, 10, 11] rfl rfl (by decide) (by decide) (by decide) rfl rfl rfl hl.1 rfl (Nat.le_of_ble_eq_true rfl) dX3_play_131 ⟨Nat.le_of_ble_eq_true rfl, Nat.le_of_ble_eq_true rfl⟩ (fun u_6 hw_c6 H locs hP hD hS => ?_)
            have hP : va_P (dC, dI) vwCl [ob a0 0 [.int (nI n), .ref a1, .ref a2, .ref a3, .ref a4, .int vs, .int vb, .int vd], ai a1 cyI 7 fh, ai a2 cyI 7 fg, ai a3 cyI 7 ff, ai a4 cyI 7 fk, ob d0 2 [.ref d1, .ref d2, .ref d3], ai d1 cyI 3 (nF ct), aa d2 cyA 3 fK, aa d3 cyA 3 fV, ai kr cyI 12 kw, ai vr cyI 12 vw, ob q0 3 [.ref a0, .ref t0, .ref z0, .int isv, .ref d0, .ref e0, .int fz, .ref g0], ob t0 0 [.int (nI n), .ref t1, .ref t2, .ref t3, .ref t4, .int xs, .int xb, .int xd], ai t1 cyI 7 xh, ai t2 cyI 7 ((yE nuc n 0 xg xk 0).2.1), ai t3 cyI 7 (bgY n xf fp fz (y + 1)), ai t4 cyI 7 ((yE nuc n 0 xg xk 0).2.2), ai g0 cyI 3 fp] H := hP
            have hD : va_D A [ob a0 0 [.int (nI n), .ref a1, .ref a2, .ref a3, .ref a4, .int vs, .int vb, .int vd], ai a1 cyI 7 fh, ai a2 cyI 7 fg, ai a3 cyI 7 ff, ai a4 cyI 7 fk, ob d0 2 [.ref d1, .ref d2, .ref d3], ai d1 cyI 3 (nF ct), aa d2 cyA 3 fK, aa d3 cyA 3 fV, ai kr cyI 12 kw, ai vr cyI 12 vw, ob q0 3 [.ref a0, .ref t0, .ref z0, .int isv, .ref d0, .ref e0, .int fz, .ref g0], ob t0 0 [.int (nI n), .ref t1, .ref t2, .ref t3, .ref t4, .int xs, .int xb, .int xd], ai t1 cyI 7 xh, ai t2 cyI 7 ((yE nuc n 0 xg xk 0).2.1), ai t3 cyI 7 (bgY n xf fp fz (y + 1)), ai t4 cyI 7 ((yE nuc n 0 xg xk 0).2.2), ai g0 cyI 3 fp] := hD
            refine lv_iinc (v := nI (i + 1)) (lv' := [(3, .int (nI (i + 1))), (2, .int (nI (y + 1))), (4, .int (vw i)), (0, .ref q0), (1, .int (nI w))]) hx hb dX3_play_134 hl (k := 4) rfl (ra_inc1 _) (by decide) rfl (fun ls hl => ?_)
            refine lv_goto (tgt := 28) hx hb dX3_play_137 (by decide) ?_
            exact ih_28 (i + 1) (y + 1) xh ((yE nuc n 0 xg xk 0).2.1) (bgY n xf fp fz (y + 1)) ((yE nuc n 0 xg xk 0).2.2) xs xb xd (by omega) (by omega) (by rw [← he, show ct w - i = ct w - (i + 1) + 1 by omega]; show _ = ite _ _ _; first | (rw [if_pos h0]; done) | (rw [if_neg h0, if_pos h1]; done) | (rw [if_neg h0, if_neg h1]; done)) (by omega) H locs (hP.sub [11, 0, 1, 2, 3, 4, 12, 13, 14, 15, 16, 5, 6, 7, 8, 9, 10, 17] rfl) (hD.sub [11, 0, 1, 2, 3, 4, 12, 13, 14, 15, 16, 5, 6, 7, 8, 9, 10, 17] (by decide) rfl) hS ls (lv_sub hl [3, 4, 1, 0] rfl)
  exact L_28 _ 0 0 fh fg (bgY n ff fp fz 0) fk vs vb 0 (by omega) (by omega) rfl (Nat.lt_succ_self _) H locs (hP.sub [11, 6, 7, 8, 9, 10, 12, 13, 14, 15, 16, 0, 1, 2, 3, 4, 5, 17] rfl) (hD.sub [11, 6, 7, 8, 9, 10, 12, 13, 14, 15, 16, 0, 1, 2, 3, 4, 5, 17] (by decide) rfl) hS ls (lv_sub hl [2, 3, 1, 0] rfl)

set_option maxHeartbeats 4000000 in
set_option maxRecDepth 100000 in
theorem c_X3_plannedFences (l : Launch) (dC : Nat → ClassId) (dI : Nat → Nat → Nat) (cyI cyA : ClassId) (q0 z0 e0 g0 : Nat) (isv fz : Int32) (a0 t0 d0 : Nat) (fp : FN)  : Met l yX3_plannedFences wsX3_plannedFences (rm 0) (kR dC dI cyI cyA [.ref q0] [ob q0 3 [.ref a0, .ref t0, .ref z0, .int isv, .ref d0, .ref e0, .int fz, .ref g0], ai g0 cyI 3 fp]) (QcRead (nI (nfen fp))) 0 0 (fun _ => False) := by
  refine ra_metR (cc := cX3_plannedFences) (maxL := 3) (by decide) rfl (Nat.le_of_ble_eq_true rfl) ?_
  intro p e s m below meth c args Q hQ hx hb hr hlocks hml hts hown hK hN hP ls hl
  have hl : lv_has ls 3 [(0, .ref q0)] := hl
  have hown : s.vm.findClass RX3 = some m.cls := hown
  have hw_1 := hts (.fieldLink RX3 44 "DuneBench" "planCells" "[I") (by decide +kernel)
  have hin_X3 : ∀ w ∈ u_ws RX3 TX3 8, w ∈ wsX3_plannedFences := by decide +kernel
  refine lv_iconst (v := 0) hx hb dX3_plannedFences_0 (by decide) ?_
  refine lv_istore_n (lv' := [(1, .int 0), (0, .ref q0)]) hx hb dX3_plannedFences_1 rfl hl (by decide) rfl (fun ls hl => ?_)
  refine lv_iconst (v := 0) hx hb dX3_plannedFences_2 (by decide) ?_
  refine lv_istore_n (lv' := [(2, .int 0), (1, .int 0), (0, .ref q0)]) hx hb dX3_plannedFences_3 rfl hl (by decide) rfl (fun ls hl => ?_)
  refine lv_iload_n hx hb dX3_plannedFences_4 rfl (lv_at hl 0 rfl) ?_
  refine lv_iconst (v := 3) hx hb dX3_plannedFences_5 (by decide) ?_
  refine lv_icmp_ge (tgt := 28) hx hb dX3_plannedFences_6 (by decide) (fun c_6 => ?_) (fun c_6 => ?_)
  · ---- to 28
    exact absurd c_6 (by decide)
  · ---- on
    refine lv_aload_n hx hb dX3_plannedFences_9 rfl (lv_at hl 2 rfl) ?_
    refine va_get (D := (dC, dI)) (ci := 3) (v := .ref g0) (C := RX3) (T := TX3) (N := 8) hx hb hts hin_X3 hown hK hP 0 rfl rfl 7 (by decide) hw_1 (fun _ h9 => h9) rfl dX3_plannedFences_10 ?_
    refine lv_iload_n hx hb dX3_plannedFences_13 rfl (lv_at hl 0 rfl) ?_
    refine ra_iald hx hb hK hP 1 rfl 0 rfl (by omega) (Nat.le_of_ble_eq_true rfl) dX3_plannedFences_14 ?_
    refine lv_iconst (v := (-1)) hx hb dX3_plannedFences_15 (by decide) ?_
    refine lv_icmp_eq (tgt := 22) hx hb dX3_plannedFences_16 (by decide) (fun c_16 => ?_) (fun c_16 => ?_)
    · ---- to 22
      refine lv_iinc (v := 1) (lv' := [(2, .int 1), (1, .int 0), (0, .ref q0)]) hx hb dX3_plannedFences_22 hl (k := 0) rfl (by decide) (by decide) rfl (fun ls hl => ?_)
      refine lv_goto (tgt := 4) hx hb dX3_plannedFences_25 (by decide) ?_
      refine lv_iload_n hx hb dX3_plannedFences_4 rfl (lv_at hl 0 rfl) ?_
      refine lv_iconst (v := 3) hx hb dX3_plannedFences_5 (by decide) ?_
      refine lv_icmp_ge (tgt := 28) hx hb dX3_plannedFences_6 (by decide) (fun c_6_2 => ?_) (fun c_6_2 => ?_)
      · ---- to 28
        exact absurd c_6_2 (by decide)
      · ---- on
        refine lv_aload_n hx hb dX3_plannedFences_9 rfl (lv_at hl 2 rfl) ?_
        refine va_get (D := (dC, dI)) (ci := 3) (v := .ref g0) (C := RX3) (T := TX3) (N := 8) hx hb hts hin_X3 hown hK hP 0 rfl rfl 7 (by decide) hw_1 (fun _ h9 => h9) rfl dX3_plannedFences_10 ?_
        refine lv_iload_n hx hb dX3_plannedFences_13 rfl (lv_at hl 0 rfl) ?_
        refine ra_iald hx hb hK hP 1 rfl 1 rfl (by omega) (Nat.le_of_ble_eq_true rfl) dX3_plannedFences_14 ?_
        refine lv_iconst (v := (-1)) hx hb dX3_plannedFences_15 (by decide) ?_
        refine lv_icmp_eq (tgt := 22) hx hb dX3_plannedFences_16 (by decide) (fun c_16_2 => ?_) (fun c_16_2 => ?_)
        · ---- to 22
          refine lv_iinc (v := 2) (lv' := [(2, .int 2), (1, .int 0), (0, .ref q0)]) hx hb dX3_plannedFences_22 hl (k := 0) rfl (by decide) (by decide) rfl (fun ls hl => ?_)
          refine lv_goto (tgt := 4) hx hb dX3_plannedFences_25 (by decide) ?_
          refine lv_iload_n hx hb dX3_plannedFences_4 rfl (lv_at hl 0 rfl) ?_
          refine lv_iconst (v := 3) hx hb dX3_plannedFences_5 (by decide) ?_
          refine lv_icmp_ge (tgt := 28) hx hb dX3_plannedFences_6 (by decide) (fun c_6_3 => ?_) (fun c_6_3 => ?_)
          · ---- to 28
            exact absurd c_6_3 (by decide)
          · ---- on
            refine lv_aload_n hx hb dX3_plannedFences_9 rfl (lv_at hl 2 rfl) ?_
            refine va_get (D := (dC, dI)) (ci := 3) (v := .ref g0) (C := RX3) (T := TX3) (N := 8) hx hb hts hin_X3 hown hK hP 0 rfl rfl 7 (by decide) hw_1 (fun _ h9 => h9) rfl dX3_plannedFences_10 ?_
            refine lv_iload_n hx hb dX3_plannedFences_13 rfl (lv_at hl 0 rfl) ?_
            refine ra_iald hx hb hK hP 1 rfl 2 rfl (by omega) (Nat.le_of_ble_eq_true rfl) dX3_plannedFences_14 ?_
            refine lv_iconst (v := (-1)) hx hb dX3_plannedFences_15 (by decide) ?_
            refine lv_icmp_eq (tgt := 22) hx hb dX3_plannedFences_16 (by decide) (fun c_16_3 => ?_) (fun c_16_3 => ?_)
            · ---- to 22
              refine lv_iinc (v := 3) (lv' := [(2, .int 3), (1, .int 0), (0, .ref q0)]) hx hb dX3_plannedFences_22 hl (k := 0) rfl (by decide) (by decide) rfl (fun ls hl => ?_)
              refine lv_goto (tgt := 4) hx hb dX3_plannedFences_25 (by decide) ?_
              refine lv_iload_n hx hb dX3_plannedFences_4 rfl (lv_at hl 0 rfl) ?_
              refine lv_iconst (v := 3) hx hb dX3_plannedFences_5 (by decide) ?_
              refine lv_icmp_ge (tgt := 28) hx hb dX3_plannedFences_6 (by decide) (fun c_6_4 => ?_) (fun c_6_4 => ?_)
              · ---- to 28
                refine lv_iload_n hx hb dX3_plannedFences_28 rfl (lv_at hl 1 rfl) ?_
                rw [hQ]
                exact ra_iretR hx hb hr hlocks rfl (by unfold nfen nfs; rw [if_pos c_16, if_pos c_16_2, if_pos c_16_3]; rfl) dX3_plannedFences_29
              · ---- on
                exact absurd c_6_4 (by decide)
            · ---- on
              refine lv_iinc (v := 1) (lv' := [(1, .int 1), (2, .int 2), (0, .ref q0)]) hx hb dX3_plannedFences_19 hl (k := 1) rfl (by decide) (by decide) rfl (fun ls hl => ?_)
              refine lv_iinc (v := 3) (lv' := [(2, .int 3), (1, .int 1), (0, .ref q0)]) hx hb dX3_plannedFences_22 hl (k := 1) rfl (by decide) (by decide) rfl (fun ls hl => ?_)
              refine lv_goto (tgt := 4) hx hb dX3_plannedFences_25 (by decide) ?_
              refine lv_iload_n hx hb dX3_plannedFences_4 rfl (lv_at hl 0 rfl) ?_
              refine lv_iconst (v := 3) hx hb dX3_plannedFences_5 (by decide) ?_
              refine lv_icmp_ge (tgt := 28) hx hb dX3_plannedFences_6 (by decide) (fun c_6_4 => ?_) (fun c_6_4 => ?_)
              · ---- to 28
                refine lv_iload_n hx hb dX3_plannedFences_28 rfl (lv_at hl 1 rfl) ?_
                rw [hQ]
                exact ra_iretR hx hb hr hlocks rfl (by unfold nfen nfs; rw [if_pos c_16, if_pos c_16_2, if_neg c_16_3]; rfl) dX3_plannedFences_29
              · ---- on
                exact absurd c_6_4 (by decide)
        · ---- on
          refine lv_iinc (v := 1) (lv' := [(1, .int 1), (2, .int 1), (0, .ref q0)]) hx hb dX3_plannedFences_19 hl (k := 1) rfl (by decide) (by decide) rfl (fun ls hl => ?_)
          refine lv_iinc (v := 2) (lv' := [(2, .int 2), (1, .int 1), (0, .ref q0)]) hx hb dX3_plannedFences_22 hl (k := 1) rfl (by decide) (by decide) rfl (fun ls hl => ?_)
          refine lv_goto (tgt := 4) hx hb dX3_plannedFences_25 (by decide) ?_
          refine lv_iload_n hx hb dX3_plannedFences_4 rfl (lv_at hl 0 rfl) ?_
          refine lv_iconst (v := 3) hx hb dX3_plannedFences_5 (by decide) ?_
          refine lv_icmp_ge (tgt := 28) hx hb dX3_plannedFences_6 (by decide) (fun c_6_3 => ?_) (fun c_6_3 => ?_)
          · ---- to 28
            exact absurd c_6_3 (by decide)
          · ---- on
            refine lv_aload_n hx hb dX3_plannedFences_9 rfl (lv_at hl 2 rfl) ?_
            refine va_get (D := (dC, dI)) (ci := 3) (v := .ref g0) (C := RX3) (T := TX3) (N := 8) hx hb hts hin_X3 hown hK hP 0 rfl rfl 7 (by decide) hw_1 (fun _ h9 => h9) rfl dX3_plannedFences_10 ?_
            refine lv_iload_n hx hb dX3_plannedFences_13 rfl (lv_at hl 0 rfl) ?_
            refine ra_iald hx hb hK hP 1 rfl 2 rfl (by omega) (Nat.le_of_ble_eq_true rfl) dX3_plannedFences_14 ?_
            refine lv_iconst (v := (-1)) hx hb dX3_plannedFences_15 (by decide) ?_
            refine lv_icmp_eq (tgt := 22) hx hb dX3_plannedFences_16 (by decide) (fun c_16_3 => ?_) (fun c_16_3 => ?_)
            · ---- to 22
              refine lv_iinc (v := 3) (lv' := [(2, .int 3), (1, .int 1), (0, .ref q0)]) hx hb dX3_plannedFences_22 hl (k := 0) rfl (by decide) (by decide) rfl (fun ls hl => ?_)
              refine lv_goto (tgt := 4) hx hb dX3_plannedFences_25 (by decide) ?_
              refine lv_iload_n hx hb dX3_plannedFences_4 rfl (lv_at hl 0 rfl) ?_
              refine lv_iconst (v := 3) hx hb dX3_plannedFences_5 (by decide) ?_
              refine lv_icmp_ge (tgt := 28) hx hb dX3_plannedFences_6 (by decide) (fun c_6_4 => ?_) (fun c_6_4 => ?_)
              · ---- to 28
                refine lv_iload_n hx hb dX3_plannedFences_28 rfl (lv_at hl 1 rfl) ?_
                rw [hQ]
                exact ra_iretR hx hb hr hlocks rfl (by unfold nfen nfs; rw [if_pos c_16, if_neg c_16_2, if_pos c_16_3]; rfl) dX3_plannedFences_29
              · ---- on
                exact absurd c_6_4 (by decide)
            · ---- on
              refine lv_iinc (v := 2) (lv' := [(1, .int 2), (2, .int 2), (0, .ref q0)]) hx hb dX3_plannedFences_19 hl (k := 1) rfl (by decide) (by decide) rfl (fun ls hl => ?_)
              refine lv_iinc (v := 3) (lv' := [(2, .int 3), (1, .int 2), (0, .ref q0)]) hx hb dX3_plannedFences_22 hl (k := 1) rfl (by decide) (by decide) rfl (fun ls hl => ?_)
              refine lv_goto (tgt := 4) hx hb dX3_plannedFences_25 (by decide) ?_
              refine lv_iload_n hx hb dX3_plannedFences_4 rfl (lv_at hl 0 rfl) ?_
              refine lv_iconst (v := 3) hx hb dX3_plannedFences_5 (by decide) ?_
              refine lv_icmp_ge (tgt := 28) hx hb dX3_plannedFences_6 (by decide) (fun c_6_4 => ?_) (fun c_6_4 => ?_)
              · ---- to 28
                refine lv_iload_n hx hb dX3_plannedFences_28 rfl (lv_at hl 1 rfl) ?_
                rw [hQ]
                exact ra_iretR hx hb hr hlocks rfl (by unfold nfen nfs; rw [if_pos c_16, if_neg c_16_2, if_neg c_16_3]; rfl) dX3_plannedFences_29
              · ---- on
                exact absurd c_6_4 (by decide)
    · ---- on
      refine lv_iinc (v := 1) (lv' := [(1, .int 1), (2, .int 0), (0, .ref q0)]) hx hb dX3_plannedFences_19 hl (k := 1) rfl (by decide) (by decide) rfl (fun ls hl => ?_)
      refine lv_iinc (v := 1) (lv' := [(2, .int 1), (1, .int 1), (0, .ref q0)]) hx hb dX3_plannedFences_22 hl (k := 1) rfl (by decide) (by decide) rfl (fun ls hl => ?_)
      refine lv_goto (tgt := 4) hx hb dX3_plannedFences_25 (by decide) ?_
      refine lv_iload_n hx hb dX3_plannedFences_4 rfl (lv_at hl 0 rfl) ?_
      refine lv_iconst (v := 3) hx hb dX3_plannedFences_5 (by decide) ?_
      refine lv_icmp_ge (tgt := 28) hx hb dX3_plannedFences_6 (by decide) (fun c_6_2 => ?_) (fun c_6_2 => ?_)
      · ---- to 28
        exact absurd c_6_2 (by decide)
      · ---- on
        refine lv_aload_n hx hb dX3_plannedFences_9 rfl (lv_at hl 2 rfl) ?_
        refine va_get (D := (dC, dI)) (ci := 3) (v := .ref g0) (C := RX3) (T := TX3) (N := 8) hx hb hts hin_X3 hown hK hP 0 rfl rfl 7 (by decide) hw_1 (fun _ h9 => h9) rfl dX3_plannedFences_10 ?_
        refine lv_iload_n hx hb dX3_plannedFences_13 rfl (lv_at hl 0 rfl) ?_
        refine ra_iald hx hb hK hP 1 rfl 1 rfl (by omega) (Nat.le_of_ble_eq_true rfl) dX3_plannedFences_14 ?_
        refine lv_iconst (v := (-1)) hx hb dX3_plannedFences_15 (by decide) ?_
        refine lv_icmp_eq (tgt := 22) hx hb dX3_plannedFences_16 (by decide) (fun c_16_2 => ?_) (fun c_16_2 => ?_)
        · ---- to 22
          refine lv_iinc (v := 2) (lv' := [(2, .int 2), (1, .int 1), (0, .ref q0)]) hx hb dX3_plannedFences_22 hl (k := 0) rfl (by decide) (by decide) rfl (fun ls hl => ?_)
          refine lv_goto (tgt := 4) hx hb dX3_plannedFences_25 (by decide) ?_
          refine lv_iload_n hx hb dX3_plannedFences_4 rfl (lv_at hl 0 rfl) ?_
          refine lv_iconst (v := 3) hx hb dX3_plannedFences_5 (by decide) ?_
          refine lv_icmp_ge (tgt := 28) hx hb dX3_plannedFences_6 (by decide) (fun c_6_3 => ?_) (fun c_6_3 => ?_)
          · ---- to 28
            exact absurd c_6_3 (by decide)
          · ---- on
            refine lv_aload_n hx hb dX3_plannedFences_9 rfl (lv_at hl 2 rfl) ?_
            refine va_get (D := (dC, dI)) (ci := 3) (v := .ref g0) (C := RX3) (T := TX3) (N := 8) hx hb hts hin_X3 hown hK hP 0 rfl rfl 7 (by decide) hw_1 (fun _ h9 => h9) rfl dX3_plannedFences_10 ?_
            refine lv_iload_n hx hb dX3_plannedFences_13 rfl (lv_at hl 0 rfl) ?_
            refine ra_iald hx hb hK hP 1 rfl 2 rfl (by omega) (Nat.le_of_ble_eq_true rfl) dX3_plannedFences_14 ?_
            refine lv_iconst (v := (-1)) hx hb dX3_plannedFences_15 (by decide) ?_
            refine lv_icmp_eq (tgt := 22) hx hb dX3_plannedFences_16 (by decide) (fun c_16_3 => ?_) (fun c_16_3 => ?_)
            · ---- to 22
              refine lv_iinc (v := 3) (lv' := [(2, .int 3), (1, .int 1), (0, .ref q0)]) hx hb dX3_plannedFences_22 hl (k := 0) rfl (by decide) (by decide) rfl (fun ls hl => ?_)
              refine lv_goto (tgt := 4) hx hb dX3_plannedFences_25 (by decide) ?_
              refine lv_iload_n hx hb dX3_plannedFences_4 rfl (lv_at hl 0 rfl) ?_
              refine lv_iconst (v := 3) hx hb dX3_plannedFences_5 (by decide) ?_
              refine lv_icmp_ge (tgt := 28) hx hb dX3_plannedFences_6 (by decide) (fun c_6_4 => ?_) (fun c_6_4 => ?_)
              · ---- to 28
                refine lv_iload_n hx hb dX3_plannedFences_28 rfl (lv_at hl 1 rfl) ?_
                rw [hQ]
                exact ra_iretR hx hb hr hlocks rfl (by unfold nfen nfs; rw [if_neg c_16, if_pos c_16_2, if_pos c_16_3]; rfl) dX3_plannedFences_29
              · ---- on
                exact absurd c_6_4 (by decide)
            · ---- on
              refine lv_iinc (v := 2) (lv' := [(1, .int 2), (2, .int 2), (0, .ref q0)]) hx hb dX3_plannedFences_19 hl (k := 1) rfl (by decide) (by decide) rfl (fun ls hl => ?_)
              refine lv_iinc (v := 3) (lv' := [(2, .int 3), (1, .int 2), (0, .ref q0)]) hx hb dX3_plannedFences_22 hl (k := 1) rfl (by decide) (by decide) rfl (fun ls hl => ?_)
              refine lv_goto (tgt := 4) hx hb dX3_plannedFences_25 (by decide) ?_
              refine lv_iload_n hx hb dX3_plannedFences_4 rfl (lv_at hl 0 rfl) ?_
              refine lv_iconst (v := 3) hx hb dX3_plannedFences_5 (by decide) ?_
              refine lv_icmp_ge (tgt := 28) hx hb dX3_plannedFences_6 (by decide) (fun c_6_4 => ?_) (fun c_6_4 => ?_)
              · ---- to 28
                refine lv_iload_n hx hb dX3_plannedFences_28 rfl (lv_at hl 1 rfl) ?_
                rw [hQ]
                exact ra_iretR hx hb hr hlocks rfl (by unfold nfen nfs; rw [if_neg c_16, if_pos c_16_2, if_neg c_16_3]; rfl) dX3_plannedFences_29
              · ---- on
                exact absurd c_6_4 (by decide)
        · ---- on
          refine lv_iinc (v := 2) (lv' := [(1, .int 2), (2, .int 1), (0, .ref q0)]) hx hb dX3_plannedFences_19 hl (k := 1) rfl (by decide) (by decide) rfl (fun ls hl => ?_)
          refine lv_iinc (v := 2) (lv' := [(2, .int 2), (1, .int 2), (0, .ref q0)]) hx hb dX3_plannedFences_22 hl (k := 1) rfl (by decide) (by decide) rfl (fun ls hl => ?_)
          refine lv_goto (tgt := 4) hx hb dX3_plannedFences_25 (by decide) ?_
          refine lv_iload_n hx hb dX3_plannedFences_4 rfl (lv_at hl 0 rfl) ?_
          refine lv_iconst (v := 3) hx hb dX3_plannedFences_5 (by decide) ?_
          refine lv_icmp_ge (tgt := 28) hx hb dX3_plannedFences_6 (by decide) (fun c_6_3 => ?_) (fun c_6_3 => ?_)
          · ---- to 28
            exact absurd c_6_3 (by decide)
          · ---- on
            refine lv_aload_n hx hb dX3_plannedFences_9 rfl (lv_at hl 2 rfl) ?_
            refine va_get (D := (dC, dI)) (ci := 3) (v := .ref g0) (C := RX3) (T := TX3) (N := 8) hx hb hts hin_X3 hown hK hP 0 rfl rfl 7 (by decide) hw_1 (fun _ h9 => h9) rfl dX3_plannedFences_10 ?_
            refine lv_iload_n hx hb dX3_plannedFences_13 rfl (lv_at hl 0 rfl) ?_
            refine ra_iald hx hb hK hP 1 rfl 2 rfl (by omega) (Nat.le_of_ble_eq_true rfl) dX3_plannedFences_14 ?_
            refine lv_iconst (v := (-1)) hx hb dX3_plannedFences_15 (by decide) ?_
            refine lv_icmp_eq (tgt := 22) hx hb dX3_plannedFences_16 (by decide) (fun c_16_3 => ?_) (fun c_16_3 => ?_)
            · ---- to 22
              refine lv_iinc (v := 3) (lv' := [(2, .int 3), (1, .int 2), (0, .ref q0)]) hx hb dX3_plannedFences_22 hl (k := 0) rfl (by decide) (by decide) rfl (fun ls hl => ?_)
              refine lv_goto (tgt := 4) hx hb dX3_plannedFences_25 (by decide) ?_
              refine lv_iload_n hx hb dX3_plannedFences_4 rfl (lv_at hl 0 rfl) ?_
              refine lv_iconst (v := 3) hx hb dX3_plannedFences_5 (by decide) ?_
              refine lv_icmp_ge (tgt := 28) hx hb dX3_plannedFences_6 (by decide) (fun c_6_4 => ?_) (fun c_6_4 => ?_)
              · ---- to 28
                refine lv_iload_n hx hb dX3_plannedFences_28 rfl (lv_at hl 1 rfl) ?_
                rw [hQ]
                exact ra_iretR hx hb hr hlocks rfl (by unfold nfen nfs; rw [if_neg c_16, if_neg c_16_2, if_pos c_16_3]; rfl) dX3_plannedFences_29
              · ---- on
                exact absurd c_6_4 (by decide)
            · ---- on
              refine lv_iinc (v := 3) (lv' := [(1, .int 3), (2, .int 2), (0, .ref q0)]) hx hb dX3_plannedFences_19 hl (k := 1) rfl (by decide) (by decide) rfl (fun ls hl => ?_)
              refine lv_iinc (v := 3) (lv' := [(2, .int 3), (1, .int 3), (0, .ref q0)]) hx hb dX3_plannedFences_22 hl (k := 1) rfl (by decide) (by decide) rfl (fun ls hl => ?_)
              refine lv_goto (tgt := 4) hx hb dX3_plannedFences_25 (by decide) ?_
              refine lv_iload_n hx hb dX3_plannedFences_4 rfl (lv_at hl 0 rfl) ?_
              refine lv_iconst (v := 3) hx hb dX3_plannedFences_5 (by decide) ?_
              refine lv_icmp_ge (tgt := 28) hx hb dX3_plannedFences_6 (by decide) (fun c_6_4 => ?_) (fun c_6_4 => ?_)
              · ---- to 28
                refine lv_iload_n hx hb dX3_plannedFences_28 rfl (lv_at hl 1 rfl) ?_
                rw [hQ]
                exact ra_iretR hx hb hr hlocks rfl (by unfold nfen nfs; rw [if_neg c_16, if_neg c_16_2, if_neg c_16_3]; rfl) dX3_plannedFences_29
              · ---- on
                exact absurd c_6_4 (by decide)

set_option maxHeartbeats 4000000 in
set_option maxRecDepth 100000 in
theorem c_X3_choosePlan (l : Launch) (dC : Nat → ClassId) (dI : Nat → Nat → Nat) (cyI cyA : ClassId) (q0 z0 e0 g0 : Nat) (isv fz : Int32) (t0 d0 : Nat) (a0 a1 a2 a3 a4 n : Nat) (fh fg ff fk : FN) (vs vb vd : Int32) (fp : FN) (cd ly : Nat) (hn : n ≤ 7) (hcd : cd < 512) (hly : ly ≤ 20) (sz : Nat) : Met l yX3_choosePlan wsX3_choosePlan (rm 1) (kW dC dI cyI cyA [.ref q0, .int (nI cd), .int (nI ly)] sz [ob q0 3 [.ref a0, .ref t0, .ref z0, .int isv, .ref d0, .ref e0, .int fz, .ref g0], ob a0 0 [.int (nI n), .ref a1, .ref a2, .ref a3, .ref a4, .int vs, .int vb, .int vd], ai a1 cyI 7 fh, ai a2 cyI 7 fg, ai a3 cyI 7 ff, ai a4 cyI 7 fk, ai g0 cyI 3 fp]) (qI dC dI cyI cyA (fun (r : Int32) (u : FN) => match u with | fp2 => r = bj (okP n ly cd) ∧ (okP n ly cd → ∀ y, y < 3 → fp2 y = dcd cd y)) (va_A [ob q0 3 [.ref a0, .ref t0, .ref z0, .int isv, .ref d0, .ref e0, .int fz, .ref g0], ob a0 0 [.int (nI n), .ref a1, .ref a2, .ref a3, .ref a4, .int vs, .int vb, .int vd], ai a1 cyI 7 fh, ai a2 cyI 7 fg, ai a3 cyI 7 ff, ai a4 cyI 7 fk, ai g0 cyI 3 fp] sz) (fun u : FN => match u with | fp2 => [ob q0 3 [.ref a0, .ref t0, .ref z0, .int isv, .ref d0, .ref e0, .int fz, .ref g0], ob a0 0 [.int (nI n), .ref a1, .ref a2, .ref a3, .ref a4, .int vs, .int vb, .int vd], ai a1 cyI 7 fh, ai a2 cyI 7 fg, ai a3 cyI 7 ff, ai a4 cyI 7 fk, ai g0 cyI 3 fp2])) 0 0 (va_A [ob q0 3 [.ref a0, .ref t0, .ref z0, .int isv, .ref d0, .ref e0, .int fz, .ref g0], ob a0 0 [.int (nI n), .ref a1, .ref a2, .ref a3, .ref a4, .int vs, .int vb, .int vd], ai a1 cyI 7 fh, ai a2 cyI 7 fg, ai a3 cyI 7 ff, ai a4 cyI 7 fk, ai g0 cyI 3 fp] sz) := by
  refine ra_metW (cc := cX3_choosePlan) (maxL := 5) (Qc := fun A => qI dC dI cyI cyA (fun (r : Int32) (u : FN) => match u with | fp2 => r = bj (okP n ly cd) ∧ (okP n ly cd → ∀ y, y < 3 → fp2 y = dcd cd y)) A (fun u : FN => match u with | fp2 => [ob q0 3 [.ref a0, .ref t0, .ref z0, .int isv, .ref d0, .ref e0, .int fz, .ref g0], ob a0 0 [.int (nI n), .ref a1, .ref a2, .ref a3, .ref a4, .int vs, .int vb, .int vd], ai a1 cyI 7 fh, ai a2 cyI 7 fg, ai a3 cyI 7 ff, ai a4 cyI 7 fk, ai g0 cyI 3 fp2])) (by decide) rfl (Nat.le_of_ble_eq_true rfl) ?_
  intro p e s m below meth c A args Q hQ hx hb hr hlocks hml hts hown hnm hK hN hP hD hA hS ls hl
  have hl : lv_has ls 5 [(0, .ref q0), (1, .int (nI cd)), (2, .int (nI ly))] := hl
  have hown : s.vm.findClass RX3 = some m.cls := hown
  have hw_1 := hts (.fieldLink RX3 10 "DuneBench" "shore" "LDuneBench$Coast;") (by decide +kernel)
  have hin_X3 : ∀ w ∈ u_ws RX3 TX3 8, w ∈ wsX3_choosePlan := by decide +kernel
  have hw_3 := hts (.fieldLink RX3 44 "DuneBench" "planCells" "[I") (by decide +kernel)
  obtain ⟨H, hHe⟩ : ∃ H, H = s.heap := ⟨_, rfl⟩
  obtain ⟨locs, hLe⟩ : ∃ locs : List Loc, locs = [] := ⟨_, rfl⟩
  have hP : va_P (dC, dI) vwCl [ob q0 3 [.ref a0, .ref t0, .ref z0, .int isv, .ref d0, .ref e0, .int fz, .ref g0], ob a0 0 [.int (nI n), .ref a1, .ref a2, .ref a3, .ref a4, .int vs, .int vb, .int vd], ai a1 cyI 7 fh, ai a2 cyI 7 fg, ai a3 cyI 7 ff, ai a4 cyI 7 fk, ai g0 cyI 3 fp] H := by rw [hHe]; exact hP
  have hS : va_S A s.heap H locs := by rw [hHe, hLe]; exact hS
  suffices hgo : W p l e (rm 1) s m args below meth c H locs 0 0 Q (F0 m 0 ls []) by rw [hHe, hLe] at hgo; exact hgo
  have hd0 := dg_lt cd 0
  have hd1 := dg_lt cd 1
  have hd2 := dg_lt cd 2
  refine lv_iconst (v := 0) hx hb dX3_choosePlan_0 (by decide) ?_
  refine lv_istore_n (lv' := [(3, .int 0), (0, .ref q0), (1, .int (nI cd)), (2, .int (nI ly))]) hx hb dX3_choosePlan_1 rfl hl (by decide) rfl (fun ls hl => ?_)
  refine lv_iload_n hx hb dX3_choosePlan_2 rfl (lv_at hl 0 rfl) ?_
  refine lv_iconst (v := 3) hx hb dX3_choosePlan_3 (by decide) ?_
  refine lv_icmp_ge (tgt := 72) hx hb dX3_choosePlan_4 (by decide) (fun c_4 => ?_) (fun c_4 => ?_)
  · ---- to 72
    exact absurd c_4 (by decide)
  · ---- on
    refine lv_iload_n hx hb dX3_choosePlan_7 rfl (lv_at hl 2 rfl) ?_
    refine lv_iconst (v := 3) hx hb dX3_choosePlan_8 (by decide) ?_
    refine lv_iconst (v := 2) hx hb dX3_choosePlan_9 (by decide) ?_
    refine lv_iload_n hx hb dX3_choosePlan_10 rfl (lv_at hl 0 rfl) ?_
    refine lv_isub hx hb dX3_choosePlan_11 ?_
    refine ra_top (2) (by decide) ?_
    refine lv_imul hx hb dX3_choosePlan_12 ?_
    refine ra_top (6) (by decide) ?_
    refine lv_ishr hx hb dX3_choosePlan_13 ?_
    refine lv_bipush (v := 7) hx hb dX3_choosePlan_14 (by decide) ?_
    refine lv_iand hx hb dX3_choosePlan_16 ?_
    refine ra_top (nI (dg cd 0)) (dg_0 hcd) ?_
    refine lv_istore (lv' := [(4, .int (nI (dg cd 0))), (3, .int 0), (0, .ref q0), (1, .int (nI cd)), (2, .int (nI ly))]) hx hb dX3_choosePlan_17 hl (by decide) rfl (fun ls hl => ?_)
    refine lv_iload hx hb dX3_choosePlan_19 (lv_at hl 0 rfl) ?_
    refine lv_bipush (v := 7) hx hb dX3_choosePlan_21 (by decide) ?_
    refine lv_icmp_ne (tgt := 36) hx hb dX3_choosePlan_23 (by decide) (fun c_23 => ?_) (fun c_23 => ?_)
    · ---- to 36
      have n_23 := (nq_eq_n (dg cd 0) 7 (by omega) (by omega)).mp c_23
      refine lv_aload_n hx hb dX3_choosePlan_36 rfl (lv_at hl 2 rfl) ?_
      refine va_get (D := (dC, dI)) (ci := 3) (v := .ref a0) (C := RX3) (T := TX3) (N := 8) hx hb hts hin_X3 hown hK hP 0 rfl rfl 0 (by decide) hw_1 (fun _ h9 => h9) rfl dX3_choosePlan_37 ?_
      refine lv_iload hx hb dX3_choosePlan_40 (lv_at hl 0 rfl) ?_
      refine ra_cR (q := (RX0, TX0, 8)) (ci := 0) (As := [.int (nI (dg cd 0))]) (rest := []) (wc := [ob a0 0 [.int (nI n), .ref a1, .ref a2, .ref a3, .ref a4, .int vs, .int vb, .int vd], ai a1 cyI 7 fh, ai a2 cyI 7 fg, ai a3 cyI 7 ff, ai a4 cyI 7 fk]) ⟨hx, hb, hml, hown, hts⟩ (c_X0_has l dC dI cyI cyA a0 a1 a2 a3 a4 n fh fg ff fk vs vb vd (nI (dg cd 0)) ) (cwV 1 hts gX3_choosePlan_X0_has rfl rfl rfl (by decide +kernel) ⟨Nat.le_of_ble_eq_true rfl, Nat.le_of_ble_eq_true rfl⟩) hK hN hP [1, 2, 3, 4, 5] rfl rfl rfl rfl hl.1 rfl (Nat.le_of_ble_eq_true rfl) dX3_choosePlan_42 ⟨Nat.le_of_ble_eq_true rfl, Nat.le_of_ble_eq_true rfl⟩ ?_
      refine lv_if_eq (tgt := 64) hx hb dX3_choosePlan_45 (by decide) (fun c_45 => ?_) (fun c_45 => ?_)
      · ---- to 64
        have c_45 := bi_0 c_45
        have m_45 : n ≤ dg cd _ := Nat.not_lt.mp (fun q => c_45 ⟨nI_pos' (by omega), (nq_lt _ n (by omega) (by omega)).mpr q⟩)
        refine lv_iconst (v := 0) hx hb dX3_choosePlan_64 (by decide) ?_
        rw [hQ]
        exact ra_iretW fp hx hb hr hlocks rfl hK hP hD hS ⟨(bj_f (by unfold okP okY; omega)).symm, fun q => absurd q (by unfold okP okY; omega)⟩ dX3_choosePlan_65
      · ---- on
        have c_45 := bi_1 c_45
        have m_45 := (nq_lt _ n (by omega) (by omega)).mp c_45.2
        refine lv_iload_n hx hb dX3_choosePlan_48 rfl (lv_at hl 1 rfl) ?_
        refine lv_iload_n hx hb dX3_choosePlan_49 rfl (lv_at hl 4 rfl) ?_
        refine lv_icmp_gt (tgt := 64) hx hb dX3_choosePlan_50 (by decide) (fun c_50 => ?_) (fun c_50 => ?_)
        · ---- to 64
          have n_50 := (nq_lt ly 0 (by omega) (by omega)).mp c_50
          refine lv_iconst (v := 0) hx hb dX3_choosePlan_64 (by decide) ?_
          rw [hQ]
          exact ra_iretW fp hx hb hr hlocks rfl hK hP hD hS ⟨(bj_f (by unfold okP okY; omega)).symm, fun q => absurd q (by unfold okP okY; omega)⟩ dX3_choosePlan_65
        · ---- on
          have n_50 := (nq_lt_n ly 0 (by omega) (by omega)).mp c_50
          refine lv_aload_n hx hb dX3_choosePlan_53 rfl (lv_at hl 2 rfl) ?_
          refine va_get (D := (dC, dI)) (ci := 3) (v := .ref g0) (C := RX3) (T := TX3) (N := 8) hx hb hts hin_X3 hown hK hP 0 rfl rfl 7 (by decide) hw_3 (fun _ h9 => h9) rfl dX3_choosePlan_54 ?_
          refine lv_iload_n hx hb dX3_choosePlan_57 rfl (lv_at hl 1 rfl) ?_
          refine lv_iload hx hb dX3_choosePlan_58 (lv_at hl 0 rfl) ?_
          refine ra_iast hx hb hK hP hD hS 6 rfl 0 rfl (by omega) (Nat.le_of_ble_eq_true rfl) dX3_choosePlan_60 (fun H locs hP hD hS => ?_)
          have hP : va_P (dC, dI) vwCl [ob q0 3 [.ref a0, .ref t0, .ref z0, .int isv, .ref d0, .ref e0, .int fz, .ref g0], ob a0 0 [.int (nI n), .ref a1, .ref a2, .ref a3, .ref a4, .int vs, .int vb, .int vd], ai a1 cyI 7 fh, ai a2 cyI 7 fg, ai a3 cyI 7 ff, ai a4 cyI 7 fk, ai g0 cyI 3 (upd fp 0 (nI (dg cd 0)))] H := hP
          have hD : va_D A [ob q0 3 [.ref a0, .ref t0, .ref z0, .int isv, .ref d0, .ref e0, .int fz, .ref g0], ob a0 0 [.int (nI n), .ref a1, .ref a2, .ref a3, .ref a4, .int vs, .int vb, .int vd], ai a1 cyI 7 fh, ai a2 cyI 7 fg, ai a3 cyI 7 ff, ai a4 cyI 7 fk, ai g0 cyI 3 (upd fp 0 (nI (dg cd 0)))] := hD
          refine lv_goto (tgt := 66) hx hb dX3_choosePlan_61 (by decide) ?_
          refine lv_iinc (v := 1) (lv' := [(3, .int 1), (4, .int (nI (dg cd 0))), (0, .ref q0), (1, .int (nI cd)), (2, .int (nI ly))]) hx hb dX3_choosePlan_66 hl (k := 1) rfl (by decide) (by decide) rfl (fun ls hl => ?_)
          refine lv_goto (tgt := 2) hx hb dX3_choosePlan_69 (by decide) ?_
          refine lv_iload_n hx hb dX3_choosePlan_2 rfl (lv_at hl 0 rfl) ?_
          refine lv_iconst (v := 3) hx hb dX3_choosePlan_3 (by decide) ?_
          refine lv_icmp_ge (tgt := 72) hx hb dX3_choosePlan_4 (by decide) (fun c_4_2 => ?_) (fun c_4_2 => ?_)
          · ---- to 72
            exact absurd c_4_2 (by decide)
          · ---- on
            refine lv_iload_n hx hb dX3_choosePlan_7 rfl (lv_at hl 3 rfl) ?_
            refine lv_iconst (v := 3) hx hb dX3_choosePlan_8 (by decide) ?_
            refine lv_iconst (v := 2) hx hb dX3_choosePlan_9 (by decide) ?_
            refine lv_iload_n hx hb dX3_choosePlan_10 rfl (lv_at hl 0 rfl) ?_
            refine lv_isub hx hb dX3_choosePlan_11 ?_
            refine ra_top (1) (by decide) ?_
            refine lv_imul hx hb dX3_choosePlan_12 ?_
            refine ra_top (3) (by decide) ?_
            refine lv_ishr hx hb dX3_choosePlan_13 ?_
            refine lv_bipush (v := 7) hx hb dX3_choosePlan_14 (by decide) ?_
            refine lv_iand hx hb dX3_choosePlan_16 ?_
            refine ra_top (nI (dg cd 1)) (dg_1 hcd) ?_
            refine lv_istore (lv' := [(4, .int (nI (dg cd 1))), (3, .int 1), (0, .ref q0), (1, .int (nI cd)), (2, .int (nI ly))]) hx hb dX3_choosePlan_17 hl (by decide) rfl (fun ls hl => ?_)
            refine lv_iload hx hb dX3_choosePlan_19 (lv_at hl 0 rfl) ?_
            refine lv_bipush (v := 7) hx hb dX3_choosePlan_21 (by decide) ?_
            refine lv_icmp_ne (tgt := 36) hx hb dX3_choosePlan_23 (by decide) (fun c_23_2 => ?_) (fun c_23_2 => ?_)
            · ---- to 36
              have n_23_2 := (nq_eq_n (dg cd 1) 7 (by omega) (by omega)).mp c_23_2
              refine lv_aload_n hx hb dX3_choosePlan_36 rfl (lv_at hl 2 rfl) ?_
              refine va_get (D := (dC, dI)) (ci := 3) (v := .ref a0) (C := RX3) (T := TX3) (N := 8) hx hb hts hin_X3 hown hK hP 0 rfl rfl 0 (by decide) hw_1 (fun _ h9 => h9) rfl dX3_choosePlan_37 ?_
              refine lv_iload hx hb dX3_choosePlan_40 (lv_at hl 0 rfl) ?_
              refine ra_cR (q := (RX0, TX0, 8)) (ci := 0) (As := [.int (nI (dg cd 1))]) (rest := []) (wc := [ob a0 0 [.int (nI n), .ref a1, .ref a2, .ref a3, .ref a4, .int vs, .int vb, .int vd], ai a1 cyI 7 fh, ai a2 cyI 7 fg, ai a3 cyI 7 ff, ai a4 cyI 7 fk]) ⟨hx, hb, hml, hown, hts⟩ (c_X0_has l dC dI cyI cyA a0 a1 a2 a3 a4 n fh fg ff fk vs vb vd (nI (dg cd 1)) ) (cwV 1 hts gX3_choosePlan_X0_has rfl rfl rfl (by decide +kernel) ⟨Nat.le_of_ble_eq_true rfl, Nat.le_of_ble_eq_true rfl⟩) hK hN hP [1, 2, 3, 4, 5] rfl rfl rfl rfl hl.1 rfl (Nat.le_of_ble_eq_true rfl) dX3_choosePlan_42 ⟨Nat.le_of_ble_eq_true rfl, Nat.le_of_ble_eq_true rfl⟩ ?_
              refine lv_if_eq (tgt := 64) hx hb dX3_choosePlan_45 (by decide) (fun c_45_2 => ?_) (fun c_45_2 => ?_)
              · ---- to 64
                have c_45_2 := bi_0 c_45_2
                have m_45_2 : n ≤ dg cd _ := Nat.not_lt.mp (fun q => c_45_2 ⟨nI_pos' (by omega), (nq_lt _ n (by omega) (by omega)).mpr q⟩)
                refine lv_iconst (v := 0) hx hb dX3_choosePlan_64 (by decide) ?_
                rw [hQ]
                exact ra_iretW (upd fp 0 (nI (dg cd 0))) hx hb hr hlocks rfl hK hP hD hS ⟨(bj_f (by unfold okP okY; omega)).symm, fun q => absurd q (by unfold okP okY; omega)⟩ dX3_choosePlan_65
              · ---- on
                have c_45_2 := bi_1 c_45_2
                have m_45_2 := (nq_lt _ n (by omega) (by omega)).mp c_45_2.2
                refine lv_iload_n hx hb dX3_choosePlan_48 rfl (lv_at hl 1 rfl) ?_
                refine lv_iload_n hx hb dX3_choosePlan_49 rfl (lv_at hl 4 rfl) ?_
                refine lv_icmp_gt (tgt := 64) hx hb dX3_choosePlan_50 (by decide) (fun c_50_2 => ?_) (fun c_50_2 => ?_)
                · ---- to 64
                  have n_50_2 := (nq_lt ly 1 (by omega) (by omega)).mp c_50_2
                  refine lv_iconst (v := 0) hx hb dX3_choosePlan_64 (by decide) ?_
                  rw [hQ]
                  exact ra_iretW (upd fp 0 (nI (dg cd 0))) hx hb hr hlocks rfl hK hP hD hS ⟨(bj_f (by unfold okP okY; omega)).symm, fun q => absurd q (by unfold okP okY; omega)⟩ dX3_choosePlan_65
                · ---- on
                  have n_50_2 := (nq_lt_n ly 1 (by omega) (by omega)).mp c_50_2
                  refine lv_aload_n hx hb dX3_choosePlan_53 rfl (lv_at hl 2 rfl) ?_
                  refine va_get (D := (dC, dI)) (ci := 3) (v := .ref g0) (C := RX3) (T := TX3) (N := 8) hx hb hts hin_X3 hown hK hP 0 rfl rfl 7 (by decide) hw_3 (fun _ h9 => h9) rfl dX3_choosePlan_54 ?_
                  refine lv_iload_n hx hb dX3_choosePlan_57 rfl (lv_at hl 1 rfl) ?_
                  refine lv_iload hx hb dX3_choosePlan_58 (lv_at hl 0 rfl) ?_
                  refine ra_iast hx hb hK hP hD hS 6 rfl 1 rfl (by omega) (Nat.le_of_ble_eq_true rfl) dX3_choosePlan_60 (fun H locs hP hD hS => ?_)
                  have hP : va_P (dC, dI) vwCl [ob q0 3 [.ref a0, .ref t0, .ref z0, .int isv, .ref d0, .ref e0, .int fz, .ref g0], ob a0 0 [.int (nI n), .ref a1, .ref a2, .ref a3, .ref a4, .int vs, .int vb, .int vd], ai a1 cyI 7 fh, ai a2 cyI 7 fg, ai a3 cyI 7 ff, ai a4 cyI 7 fk, ai g0 cyI 3 (upd (upd fp 0 (nI (dg cd 0))) 1 (nI (dg cd 1)))] H := hP
                  have hD : va_D A [ob q0 3 [.ref a0, .ref t0, .ref z0, .int isv, .ref d0, .ref e0, .int fz, .ref g0], ob a0 0 [.int (nI n), .ref a1, .ref a2, .ref a3, .ref a4, .int vs, .int vb, .int vd], ai a1 cyI 7 fh, ai a2 cyI 7 fg, ai a3 cyI 7 ff, ai a4 cyI 7 fk, ai g0 cyI 3 (upd (upd fp 0 (nI (dg cd 0))) 1 (nI (dg cd 1)))] := hD
                  refine lv_goto (tgt := 66) hx hb dX3_choosePlan_61 (by decide) ?_
                  refine lv_iinc (v := 2) (lv' := [(3, .int 2), (4, .int (nI (dg cd 1))), (0, .ref q0), (1, .int (nI cd)), (2, .int (nI ly))]) hx hb dX3_choosePlan_66 hl (k := 1) rfl (by decide) (by decide) rfl (fun ls hl => ?_)
                  refine lv_goto (tgt := 2) hx hb dX3_choosePlan_69 (by decide) ?_
                  refine lv_iload_n hx hb dX3_choosePlan_2 rfl (lv_at hl 0 rfl) ?_
                  refine lv_iconst (v := 3) hx hb dX3_choosePlan_3 (by decide) ?_
                  refine lv_icmp_ge (tgt := 72) hx hb dX3_choosePlan_4 (by decide) (fun c_4_3 => ?_) (fun c_4_3 => ?_)
                  · ---- to 72
                    exact absurd c_4_3 (by decide)
                  · ---- on
                    refine lv_iload_n hx hb dX3_choosePlan_7 rfl (lv_at hl 3 rfl) ?_
                    refine lv_iconst (v := 3) hx hb dX3_choosePlan_8 (by decide) ?_
                    refine lv_iconst (v := 2) hx hb dX3_choosePlan_9 (by decide) ?_
                    refine lv_iload_n hx hb dX3_choosePlan_10 rfl (lv_at hl 0 rfl) ?_
                    refine lv_isub hx hb dX3_choosePlan_11 ?_
                    refine ra_top (0) (by decide) ?_
                    refine lv_imul hx hb dX3_choosePlan_12 ?_
                    refine ra_top (0) (by decide) ?_
                    refine lv_ishr hx hb dX3_choosePlan_13 ?_
                    refine lv_bipush (v := 7) hx hb dX3_choosePlan_14 (by decide) ?_
                    refine lv_iand hx hb dX3_choosePlan_16 ?_
                    refine ra_top (nI (dg cd 2)) (dg_2 hcd) ?_
                    refine lv_istore (lv' := [(4, .int (nI (dg cd 2))), (3, .int 2), (0, .ref q0), (1, .int (nI cd)), (2, .int (nI ly))]) hx hb dX3_choosePlan_17 hl (by decide) rfl (fun ls hl => ?_)
                    refine lv_iload hx hb dX3_choosePlan_19 (lv_at hl 0 rfl) ?_
                    refine lv_bipush (v := 7) hx hb dX3_choosePlan_21 (by decide) ?_
                    refine lv_icmp_ne (tgt := 36) hx hb dX3_choosePlan_23 (by decide) (fun c_23_3 => ?_) (fun c_23_3 => ?_)
                    · ---- to 36
                      have n_23_3 := (nq_eq_n (dg cd 2) 7 (by omega) (by omega)).mp c_23_3
                      refine lv_aload_n hx hb dX3_choosePlan_36 rfl (lv_at hl 2 rfl) ?_
                      refine va_get (D := (dC, dI)) (ci := 3) (v := .ref a0) (C := RX3) (T := TX3) (N := 8) hx hb hts hin_X3 hown hK hP 0 rfl rfl 0 (by decide) hw_1 (fun _ h9 => h9) rfl dX3_choosePlan_37 ?_
                      refine lv_iload hx hb dX3_choosePlan_40 (lv_at hl 0 rfl) ?_
                      refine ra_cR (q := (RX0, TX0, 8)) (ci := 0) (As := [.int (nI (dg cd 2))]) (rest := []) (wc := [ob a0 0 [.int (nI n), .ref a1, .ref a2, .ref a3, .ref a4, .int vs, .int vb, .int vd], ai a1 cyI 7 fh, ai a2 cyI 7 fg, ai a3 cyI 7 ff, ai a4 cyI 7 fk]) ⟨hx, hb, hml, hown, hts⟩ (c_X0_has l dC dI cyI cyA a0 a1 a2 a3 a4 n fh fg ff fk vs vb vd (nI (dg cd 2)) ) (cwV 1 hts gX3_choosePlan_X0_has rfl rfl rfl (by decide +kernel) ⟨Nat.le_of_ble_eq_true rfl, Nat.le_of_ble_eq_true rfl⟩) hK hN hP [1, 2, 3, 4, 5] rfl rfl rfl rfl hl.1 rfl (Nat.le_of_ble_eq_true rfl) dX3_choosePlan_42 ⟨Nat.le_of_ble_eq_true rfl, Nat.le_of_ble_eq_true rfl⟩ ?_
                      refine lv_if_eq (tgt := 64) hx hb dX3_choosePlan_45 (by decide) (fun c_45_3 => ?_) (fun c_45_3 => ?_)
                      · ---- to 64
                        have c_45_3 := bi_0 c_45_3
                        have m_45_3 : n ≤ dg cd _ := Nat.not_lt.mp (fun q => c_45_3 ⟨nI_pos' (by omega), (nq_lt _ n (by omega) (by omega)).mpr q⟩)
                        refine lv_iconst (v := 0) hx hb dX3_choosePlan_64 (by decide) ?_
                        rw [hQ]
                        exact ra_iretW (upd (upd fp 0 (nI (dg cd 0))) 1 (nI (dg cd 1))) hx hb hr hlocks rfl hK hP hD hS ⟨(bj_f (by unfold okP okY; omega)).symm, fun q => absurd q (by unfold okP okY; omega)⟩ dX3_choosePlan_65
                      · ---- on
                        have c_45_3 := bi_1 c_45_3
                        have m_45_3 := (nq_lt _ n (by omega) (by omega)).mp c_45_3.2
                        refine lv_iload_n hx hb dX3_choosePlan_48 rfl (lv_at hl 1 rfl) ?_
                        refine lv_iload_n hx hb dX3_choosePlan_49 rfl (lv_at hl 4 rfl) ?_
                        refine lv_icmp_gt (tgt := 64) hx hb dX3_choosePlan_50 (by decide) (fun c_50_3 => ?_) (fun c_50_3 => ?_)
                        · ---- to 64
                          have n_50_3 := (nq_lt ly 2 (by omega) (by omega)).mp c_50_3
                          refine lv_iconst (v := 0) hx hb dX3_choosePlan_64 (by decide) ?_
                          rw [hQ]
                          exact ra_iretW (upd (upd fp 0 (nI (dg cd 0))) 1 (nI (dg cd 1))) hx hb hr hlocks rfl hK hP hD hS ⟨(bj_f (by unfold okP okY; omega)).symm, fun q => absurd q (by unfold okP okY; omega)⟩ dX3_choosePlan_65
                        · ---- on
                          have n_50_3 := (nq_lt_n ly 2 (by omega) (by omega)).mp c_50_3
                          refine lv_aload_n hx hb dX3_choosePlan_53 rfl (lv_at hl 2 rfl) ?_
                          refine va_get (D := (dC, dI)) (ci := 3) (v := .ref g0) (C := RX3) (T := TX3) (N := 8) hx hb hts hin_X3 hown hK hP 0 rfl rfl 7 (by decide) hw_3 (fun _ h9 => h9) rfl dX3_choosePlan_54 ?_
                          refine lv_iload_n hx hb dX3_choosePlan_57 rfl (lv_at hl 1 rfl) ?_
                          refine lv_iload hx hb dX3_choosePlan_58 (lv_at hl 0 rfl) ?_
                          refine ra_iast hx hb hK hP hD hS 6 rfl 2 rfl (by omega) (Nat.le_of_ble_eq_true rfl) dX3_choosePlan_60 (fun H locs hP hD hS => ?_)
                          have hP : va_P (dC, dI) vwCl [ob q0 3 [.ref a0, .ref t0, .ref z0, .int isv, .ref d0, .ref e0, .int fz, .ref g0], ob a0 0 [.int (nI n), .ref a1, .ref a2, .ref a3, .ref a4, .int vs, .int vb, .int vd], ai a1 cyI 7 fh, ai a2 cyI 7 fg, ai a3 cyI 7 ff, ai a4 cyI 7 fk, ai g0 cyI 3 (upd (upd (upd fp 0 (nI (dg cd 0))) 1 (nI (dg cd 1))) 2 (nI (dg cd 2)))] H := hP
                          have hD : va_D A [ob q0 3 [.ref a0, .ref t0, .ref z0, .int isv, .ref d0, .ref e0, .int fz, .ref g0], ob a0 0 [.int (nI n), .ref a1, .ref a2, .ref a3, .ref a4, .int vs, .int vb, .int vd], ai a1 cyI 7 fh, ai a2 cyI 7 fg, ai a3 cyI 7 ff, ai a4 cyI 7 fk, ai g0 cyI 3 (upd (upd (upd fp 0 (nI (dg cd 0))) 1 (nI (dg cd 1))) 2 (nI (dg cd 2)))] := hD
                          refine lv_goto (tgt := 66) hx hb dX3_choosePlan_61 (by decide) ?_
                          refine lv_iinc (v := 3) (lv' := [(3, .int 3), (4, .int (nI (dg cd 2))), (0, .ref q0), (1, .int (nI cd)), (2, .int (nI ly))]) hx hb dX3_choosePlan_66 hl (k := 1) rfl (by decide) (by decide) rfl (fun ls hl => ?_)
                          refine lv_goto (tgt := 2) hx hb dX3_choosePlan_69 (by decide) ?_
                          refine lv_iload_n hx hb dX3_choosePlan_2 rfl (lv_at hl 0 rfl) ?_
                          refine lv_iconst (v := 3) hx hb dX3_choosePlan_3 (by decide) ?_
                          refine lv_icmp_ge (tgt := 72) hx hb dX3_choosePlan_4 (by decide) (fun c_4_4 => ?_) (fun c_4_4 => ?_)
                          · ---- to 72
                            refine lv_iconst (v := 1) hx hb dX3_choosePlan_72 (by decide) ?_
                            rw [hQ]
                            exact ra_iretW (upd (upd (upd fp 0 (nI (dg cd 0))) 1 (nI (dg cd 1))) 2 (nI (dg cd 2))) hx hb hr hlocks rfl hK hP hD hS ⟨(bj_t (by unfold okP okY; omega)).symm, fun _ y hy => by rcases (show y = 0 ∨ y = 1 ∨ y = 2 by omega) with rfl | rfl | rfl <;> (unfold dcd; first | (rw [if_pos (by omega)]; rfl) | (rw [if_neg (by omega)]; rfl))⟩ dX3_choosePlan_73
                          · ---- on
                            exact absurd c_4_4 (by decide)
                    · ---- on
                      have n_23_3 := (nq_eq (dg cd 2) 7 (by omega) (by omega)).mp c_23_3
                      refine lv_aload_n hx hb dX3_choosePlan_26 rfl (lv_at hl 2 rfl) ?_
                      refine va_get (D := (dC, dI)) (ci := 3) (v := .ref g0) (C := RX3) (T := TX3) (N := 8) hx hb hts hin_X3 hown hK hP 0 rfl rfl 7 (by decide) hw_3 (fun _ h9 => h9) rfl dX3_choosePlan_27 ?_
                      refine lv_iload_n hx hb dX3_choosePlan_30 rfl (lv_at hl 1 rfl) ?_
                      refine lv_iconst (v := (-1)) hx hb dX3_choosePlan_31 (by decide) ?_
                      refine ra_iast hx hb hK hP hD hS 6 rfl 2 rfl (by omega) (Nat.le_of_ble_eq_true rfl) dX3_choosePlan_32 (fun H locs hP hD hS => ?_)
                      have hP : va_P (dC, dI) vwCl [ob q0 3 [.ref a0, .ref t0, .ref z0, .int isv, .ref d0, .ref e0, .int fz, .ref g0], ob a0 0 [.int (nI n), .ref a1, .ref a2, .ref a3, .ref a4, .int vs, .int vb, .int vd], ai a1 cyI 7 fh, ai a2 cyI 7 fg, ai a3 cyI 7 ff, ai a4 cyI 7 fk, ai g0 cyI 3 (upd (upd (upd fp 0 (nI (dg cd 0))) 1 (nI (dg cd 1))) 2 (-1))] H := hP
                      have hD : va_D A [ob q0 3 [.ref a0, .ref t0, .ref z0, .int isv, .ref d0, .ref e0, .int fz, .ref g0], ob a0 0 [.int (nI n), .ref a1, .ref a2, .ref a3, .ref a4, .int vs, .int vb, .int vd], ai a1 cyI 7 fh, ai a2 cyI 7 fg, ai a3 cyI 7 ff, ai a4 cyI 7 fk, ai g0 cyI 3 (upd (upd (upd fp 0 (nI (dg cd 0))) 1 (nI (dg cd 1))) 2 (-1))] := hD
                      refine lv_goto (tgt := 66) hx hb dX3_choosePlan_33 (by decide) ?_
                      refine lv_iinc (v := 3) (lv' := [(3, .int 3), (4, .int (nI (dg cd 2))), (0, .ref q0), (1, .int (nI cd)), (2, .int (nI ly))]) hx hb dX3_choosePlan_66 hl (k := 1) rfl (by decide) (by decide) rfl (fun ls hl => ?_)
                      refine lv_goto (tgt := 2) hx hb dX3_choosePlan_69 (by decide) ?_
                      refine lv_iload_n hx hb dX3_choosePlan_2 rfl (lv_at hl 0 rfl) ?_
                      refine lv_iconst (v := 3) hx hb dX3_choosePlan_3 (by decide) ?_
                      refine lv_icmp_ge (tgt := 72) hx hb dX3_choosePlan_4 (by decide) (fun c_4_4 => ?_) (fun c_4_4 => ?_)
                      · ---- to 72
                        refine lv_iconst (v := 1) hx hb dX3_choosePlan_72 (by decide) ?_
                        rw [hQ]
                        exact ra_iretW (upd (upd (upd fp 0 (nI (dg cd 0))) 1 (nI (dg cd 1))) 2 (-1)) hx hb hr hlocks rfl hK hP hD hS ⟨(bj_t (by unfold okP okY; omega)).symm, fun _ y hy => by rcases (show y = 0 ∨ y = 1 ∨ y = 2 by omega) with rfl | rfl | rfl <;> (unfold dcd; first | (rw [if_pos (by omega)]; rfl) | (rw [if_neg (by omega)]; rfl))⟩ dX3_choosePlan_73
                      · ---- on
                        exact absurd c_4_4 (by decide)
            · ---- on
              have n_23_2 := (nq_eq (dg cd 1) 7 (by omega) (by omega)).mp c_23_2
              refine lv_aload_n hx hb dX3_choosePlan_26 rfl (lv_at hl 2 rfl) ?_
              refine va_get (D := (dC, dI)) (ci := 3) (v := .ref g0) (C := RX3) (T := TX3) (N := 8) hx hb hts hin_X3 hown hK hP 0 rfl rfl 7 (by decide) hw_3 (fun _ h9 => h9) rfl dX3_choosePlan_27 ?_
              refine lv_iload_n hx hb dX3_choosePlan_30 rfl (lv_at hl 1 rfl) ?_
              refine lv_iconst (v := (-1)) hx hb dX3_choosePlan_31 (by decide) ?_
              refine ra_iast hx hb hK hP hD hS 6 rfl 1 rfl (by omega) (Nat.le_of_ble_eq_true rfl) dX3_choosePlan_32 (fun H locs hP hD hS => ?_)
              have hP : va_P (dC, dI) vwCl [ob q0 3 [.ref a0, .ref t0, .ref z0, .int isv, .ref d0, .ref e0, .int fz, .ref g0], ob a0 0 [.int (nI n), .ref a1, .ref a2, .ref a3, .ref a4, .int vs, .int vb, .int vd], ai a1 cyI 7 fh, ai a2 cyI 7 fg, ai a3 cyI 7 ff, ai a4 cyI 7 fk, ai g0 cyI 3 (upd (upd fp 0 (nI (dg cd 0))) 1 (-1))] H := hP
              have hD : va_D A [ob q0 3 [.ref a0, .ref t0, .ref z0, .int isv, .ref d0, .ref e0, .int fz, .ref g0], ob a0 0 [.int (nI n), .ref a1, .ref a2, .ref a3, .ref a4, .int vs, .int vb, .int vd], ai a1 cyI 7 fh, ai a2 cyI 7 fg, ai a3 cyI 7 ff, ai a4 cyI 7 fk, ai g0 cyI 3 (upd (upd fp 0 (nI (dg cd 0))) 1 (-1))] := hD
              refine lv_goto (tgt := 66) hx hb dX3_choosePlan_33 (by decide) ?_
              refine lv_iinc (v := 2) (lv' := [(3, .int 2), (4, .int (nI (dg cd 1))), (0, .ref q0), (1, .int (nI cd)), (2, .int (nI ly))]) hx hb dX3_choosePlan_66 hl (k := 1) rfl (by decide) (by decide) rfl (fun ls hl => ?_)
              refine lv_goto (tgt := 2) hx hb dX3_choosePlan_69 (by decide) ?_
              refine lv_iload_n hx hb dX3_choosePlan_2 rfl (lv_at hl 0 rfl) ?_
              refine lv_iconst (v := 3) hx hb dX3_choosePlan_3 (by decide) ?_
              refine lv_icmp_ge (tgt := 72) hx hb dX3_choosePlan_4 (by decide) (fun c_4_3 => ?_) (fun c_4_3 => ?_)
              · ---- to 72
                exact absurd c_4_3 (by decide)
              · ---- on
                refine lv_iload_n hx hb dX3_choosePlan_7 rfl (lv_at hl 3 rfl) ?_
                refine lv_iconst (v := 3) hx hb dX3_choosePlan_8 (by decide) ?_
                refine lv_iconst (v := 2) hx hb dX3_choosePlan_9 (by decide) ?_
                refine lv_iload_n hx hb dX3_choosePlan_10 rfl (lv_at hl 0 rfl) ?_
                refine lv_isub hx hb dX3_choosePlan_11 ?_
                refine ra_top (0) (by decide) ?_
                refine lv_imul hx hb dX3_choosePlan_12 ?_
                refine ra_top (0) (by decide) ?_
                refine lv_ishr hx hb dX3_choosePlan_13 ?_
                refine lv_bipush (v := 7) hx hb dX3_choosePlan_14 (by decide) ?_
                refine lv_iand hx hb dX3_choosePlan_16 ?_
                refine ra_top (nI (dg cd 2)) (dg_2 hcd) ?_
                refine lv_istore (lv' := [(4, .int (nI (dg cd 2))), (3, .int 2), (0, .ref q0), (1, .int (nI cd)), (2, .int (nI ly))]) hx hb dX3_choosePlan_17 hl (by decide) rfl (fun ls hl => ?_)
                refine lv_iload hx hb dX3_choosePlan_19 (lv_at hl 0 rfl) ?_
                refine lv_bipush (v := 7) hx hb dX3_choosePlan_21 (by decide) ?_
                refine lv_icmp_ne (tgt := 36) hx hb dX3_choosePlan_23 (by decide) (fun c_23_3 => ?_) (fun c_23_3 => ?_)
                · ---- to 36
                  have n_23_3 := (nq_eq_n (dg cd 2) 7 (by omega) (by omega)).mp c_23_3
                  refine lv_aload_n hx hb dX3_choosePlan_36 rfl (lv_at hl 2 rfl) ?_
                  refine va_get (D := (dC, dI)) (ci := 3) (v := .ref a0) (C := RX3) (T := TX3) (N := 8) hx hb hts hin_X3 hown hK hP 0 rfl rfl 0 (by decide) hw_1 (fun _ h9 => h9) rfl dX3_choosePlan_37 ?_
                  refine lv_iload hx hb dX3_choosePlan_40 (lv_at hl 0 rfl) ?_
                  refine ra_cR (q := (RX0, TX0, 8)) (ci := 0) (As := [.int (nI (dg cd 2))]) (rest := []) (wc := [ob a0 0 [.int (nI n), .ref a1, .ref a2, .ref a3, .ref a4, .int vs, .int vb, .int vd], ai a1 cyI 7 fh, ai a2 cyI 7 fg, ai a3 cyI 7 ff, ai a4 cyI 7 fk]) ⟨hx, hb, hml, hown, hts⟩ (c_X0_has l dC dI cyI cyA a0 a1 a2 a3 a4 n fh fg ff fk vs vb vd (nI (dg cd 2)) ) (cwV 1 hts gX3_choosePlan_X0_has rfl rfl rfl (by decide +kernel) ⟨Nat.le_of_ble_eq_true rfl, Nat.le_of_ble_eq_true rfl⟩) hK hN hP [1, 2, 3, 4, 5] rfl rfl rfl rfl hl.1 rfl (Nat.le_of_ble_eq_true rfl) dX3_choosePlan_42 ⟨Nat.le_of_ble_eq_true rfl, Nat.le_of_ble_eq_true rfl⟩ ?_
                  refine lv_if_eq (tgt := 64) hx hb dX3_choosePlan_45 (by decide) (fun c_45_2 => ?_) (fun c_45_2 => ?_)
                  · ---- to 64
                    have c_45_2 := bi_0 c_45_2
                    have m_45_2 : n ≤ dg cd _ := Nat.not_lt.mp (fun q => c_45_2 ⟨nI_pos' (by omega), (nq_lt _ n (by omega) (by omega)).mpr q⟩)
                    refine lv_iconst (v := 0) hx hb dX3_choosePlan_64 (by decide) ?_
                    rw [hQ]
                    exact ra_iretW (upd (upd fp 0 (nI (dg cd 0))) 1 (-1)) hx hb hr hlocks rfl hK hP hD hS ⟨(bj_f (by unfold okP okY; omega)).symm, fun q => absurd q (by unfold okP okY; omega)⟩ dX3_choosePlan_65
                  · ---- on
                    have c_45_2 := bi_1 c_45_2
                    have m_45_2 := (nq_lt _ n (by omega) (by omega)).mp c_45_2.2
                    refine lv_iload_n hx hb dX3_choosePlan_48 rfl (lv_at hl 1 rfl) ?_
                    refine lv_iload_n hx hb dX3_choosePlan_49 rfl (lv_at hl 4 rfl) ?_
                    refine lv_icmp_gt (tgt := 64) hx hb dX3_choosePlan_50 (by decide) (fun c_50_2 => ?_) (fun c_50_2 => ?_)
                    · ---- to 64
                      have n_50_2 := (nq_lt ly 2 (by omega) (by omega)).mp c_50_2
                      refine lv_iconst (v := 0) hx hb dX3_choosePlan_64 (by decide) ?_
                      rw [hQ]
                      exact ra_iretW (upd (upd fp 0 (nI (dg cd 0))) 1 (-1)) hx hb hr hlocks rfl hK hP hD hS ⟨(bj_f (by unfold okP okY; omega)).symm, fun q => absurd q (by unfold okP okY; omega)⟩ dX3_choosePlan_65
                    · ---- on
                      have n_50_2 := (nq_lt_n ly 2 (by omega) (by omega)).mp c_50_2
                      refine lv_aload_n hx hb dX3_choosePlan_53 rfl (lv_at hl 2 rfl) ?_
                      refine va_get (D := (dC, dI)) (ci := 3) (v := .ref g0) (C := RX3) (T := TX3) (N := 8) hx hb hts hin_X3 hown hK hP 0 rfl rfl 7 (by decide) hw_3 (fun _ h9 => h9) rfl dX3_choosePlan_54 ?_
                      refine lv_iload_n hx hb dX3_choosePlan_57 rfl (lv_at hl 1 rfl) ?_
                      refine lv_iload hx hb dX3_choosePlan_58 (lv_at hl 0 rfl) ?_
                      refine ra_iast hx hb hK hP hD hS 6 rfl 2 rfl (by omega) (Nat.le_of_ble_eq_true rfl) dX3_choosePlan_60 (fun H locs hP hD hS => ?_)
                      have hP : va_P (dC, dI) vwCl [ob q0 3 [.ref a0, .ref t0, .ref z0, .int isv, .ref d0, .ref e0, .int fz, .ref g0], ob a0 0 [.int (nI n), .ref a1, .ref a2, .ref a3, .ref a4, .int vs, .int vb, .int vd], ai a1 cyI 7 fh, ai a2 cyI 7 fg, ai a3 cyI 7 ff, ai a4 cyI 7 fk, ai g0 cyI 3 (upd (upd (upd fp 0 (nI (dg cd 0))) 1 (-1)) 2 (nI (dg cd 2)))] H := hP
                      have hD : va_D A [ob q0 3 [.ref a0, .ref t0, .ref z0, .int isv, .ref d0, .ref e0, .int fz, .ref g0], ob a0 0 [.int (nI n), .ref a1, .ref a2, .ref a3, .ref a4, .int vs, .int vb, .int vd], ai a1 cyI 7 fh, ai a2 cyI 7 fg, ai a3 cyI 7 ff, ai a4 cyI 7 fk, ai g0 cyI 3 (upd (upd (upd fp 0 (nI (dg cd 0))) 1 (-1)) 2 (nI (dg cd 2)))] := hD
                      refine lv_goto (tgt := 66) hx hb dX3_choosePlan_61 (by decide) ?_
                      refine lv_iinc (v := 3) (lv' := [(3, .int 3), (4, .int (nI (dg cd 2))), (0, .ref q0), (1, .int (nI cd)), (2, .int (nI ly))]) hx hb dX3_choosePlan_66 hl (k := 1) rfl (by decide) (by decide) rfl (fun ls hl => ?_)
                      refine lv_goto (tgt := 2) hx hb dX3_choosePlan_69 (by decide) ?_
                      refine lv_iload_n hx hb dX3_choosePlan_2 rfl (lv_at hl 0 rfl) ?_
                      refine lv_iconst (v := 3) hx hb dX3_choosePlan_3 (by decide) ?_
                      refine lv_icmp_ge (tgt := 72) hx hb dX3_choosePlan_4 (by decide) (fun c_4_4 => ?_) (fun c_4_4 => ?_)
                      · ---- to 72
                        refine lv_iconst (v := 1) hx hb dX3_choosePlan_72 (by decide) ?_
                        rw [hQ]
                        exact ra_iretW (upd (upd (upd fp 0 (nI (dg cd 0))) 1 (-1)) 2 (nI (dg cd 2))) hx hb hr hlocks rfl hK hP hD hS ⟨(bj_t (by unfold okP okY; omega)).symm, fun _ y hy => by rcases (show y = 0 ∨ y = 1 ∨ y = 2 by omega) with rfl | rfl | rfl <;> (unfold dcd; first | (rw [if_pos (by omega)]; rfl) | (rw [if_neg (by omega)]; rfl))⟩ dX3_choosePlan_73
                      · ---- on
                        exact absurd c_4_4 (by decide)
                · ---- on
                  have n_23_3 := (nq_eq (dg cd 2) 7 (by omega) (by omega)).mp c_23_3
                  refine lv_aload_n hx hb dX3_choosePlan_26 rfl (lv_at hl 2 rfl) ?_
                  refine va_get (D := (dC, dI)) (ci := 3) (v := .ref g0) (C := RX3) (T := TX3) (N := 8) hx hb hts hin_X3 hown hK hP 0 rfl rfl 7 (by decide) hw_3 (fun _ h9 => h9) rfl dX3_choosePlan_27 ?_
                  refine lv_iload_n hx hb dX3_choosePlan_30 rfl (lv_at hl 1 rfl) ?_
                  refine lv_iconst (v := (-1)) hx hb dX3_choosePlan_31 (by decide) ?_
                  refine ra_iast hx hb hK hP hD hS 6 rfl 2 rfl (by omega) (Nat.le_of_ble_eq_true rfl) dX3_choosePlan_32 (fun H locs hP hD hS => ?_)
                  have hP : va_P (dC, dI) vwCl [ob q0 3 [.ref a0, .ref t0, .ref z0, .int isv, .ref d0, .ref e0, .int fz, .ref g0], ob a0 0 [.int (nI n), .ref a1, .ref a2, .ref a3, .ref a4, .int vs, .int vb, .int vd], ai a1 cyI 7 fh, ai a2 cyI 7 fg, ai a3 cyI 7 ff, ai a4 cyI 7 fk, ai g0 cyI 3 (upd (upd (upd fp 0 (nI (dg cd 0))) 1 (-1)) 2 (-1))] H := hP
                  have hD : va_D A [ob q0 3 [.ref a0, .ref t0, .ref z0, .int isv, .ref d0, .ref e0, .int fz, .ref g0], ob a0 0 [.int (nI n), .ref a1, .ref a2, .ref a3, .ref a4, .int vs, .int vb, .int vd], ai a1 cyI 7 fh, ai a2 cyI 7 fg, ai a3 cyI 7 ff, ai a4 cyI 7 fk, ai g0 cyI 3 (upd (upd (upd fp 0 (nI (dg cd 0))) 1 (-1)) 2 (-1))] := hD
                  refine lv_goto (tgt := 66) hx hb dX3_choosePlan_33 (by decide) ?_
                  refine lv_iinc (v := 3) (lv' := [(3, .int 3), (4, .int (nI (dg cd 2))), (0, .ref q0), (1, .int (nI cd)), (2, .int (nI ly))]) hx hb dX3_choosePlan_66 hl (k := 1) rfl (by decide) (by decide) rfl (fun ls hl => ?_)
                  refine lv_goto (tgt := 2) hx hb dX3_choosePlan_69 (by decide) ?_
                  refine lv_iload_n hx hb dX3_choosePlan_2 rfl (lv_at hl 0 rfl) ?_
                  refine lv_iconst (v := 3) hx hb dX3_choosePlan_3 (by decide) ?_
                  refine lv_icmp_ge (tgt := 72) hx hb dX3_choosePlan_4 (by decide) (fun c_4_4 => ?_) (fun c_4_4 => ?_)
                  · ---- to 72
                    refine lv_iconst (v := 1) hx hb dX3_choosePlan_72 (by decide) ?_
                    rw [hQ]
                    exact ra_iretW (upd (upd (upd fp 0 (nI (dg cd 0))) 1 (-1)) 2 (-1)) hx hb hr hlocks rfl hK hP hD hS ⟨(bj_t (by unfold okP okY; omega)).symm, fun _ y hy => by rcases (show y = 0 ∨ y = 1 ∨ y = 2 by omega) with rfl | rfl | rfl <;> (unfold dcd; first | (rw [if_pos (by omega)]; rfl) | (rw [if_neg (by omega)]; rfl))⟩ dX3_choosePlan_73
                  · ---- on
                    exact absurd c_4_4 (by decide)
    · ---- on
      have n_23 := (nq_eq (dg cd 0) 7 (by omega) (by omega)).mp c_23
      refine lv_aload_n hx hb dX3_choosePlan_26 rfl (lv_at hl 2 rfl) ?_
      refine va_get (D := (dC, dI)) (ci := 3) (v := .ref g0) (C := RX3) (T := TX3) (N := 8) hx hb hts hin_X3 hown hK hP 0 rfl rfl 7 (by decide) hw_3 (fun _ h9 => h9) rfl dX3_choosePlan_27 ?_
      refine lv_iload_n hx hb dX3_choosePlan_30 rfl (lv_at hl 1 rfl) ?_
      refine lv_iconst (v := (-1)) hx hb dX3_choosePlan_31 (by decide) ?_
      refine ra_iast hx hb hK hP hD hS 6 rfl 0 rfl (by omega) (Nat.le_of_ble_eq_true rfl) dX3_choosePlan_32 (fun H locs hP hD hS => ?_)
      have hP : va_P (dC, dI) vwCl [ob q0 3 [.ref a0, .ref t0, .ref z0, .int isv, .ref d0, .ref e0, .int fz, .ref g0], ob a0 0 [.int (nI n), .ref a1, .ref a2, .ref a3, .ref a4, .int vs, .int vb, .int vd], ai a1 cyI 7 fh, ai a2 cyI 7 fg, ai a3 cyI 7 ff, ai a4 cyI 7 fk, ai g0 cyI 3 (upd fp 0 (-1))] H := hP
      have hD : va_D A [ob q0 3 [.ref a0, .ref t0, .ref z0, .int isv, .ref d0, .ref e0, .int fz, .ref g0], ob a0 0 [.int (nI n), .ref a1, .ref a2, .ref a3, .ref a4, .int vs, .int vb, .int vd], ai a1 cyI 7 fh, ai a2 cyI 7 fg, ai a3 cyI 7 ff, ai a4 cyI 7 fk, ai g0 cyI 3 (upd fp 0 (-1))] := hD
      refine lv_goto (tgt := 66) hx hb dX3_choosePlan_33 (by decide) ?_
      refine lv_iinc (v := 1) (lv' := [(3, .int 1), (4, .int (nI (dg cd 0))), (0, .ref q0), (1, .int (nI cd)), (2, .int (nI ly))]) hx hb dX3_choosePlan_66 hl (k := 1) rfl (by decide) (by decide) rfl (fun ls hl => ?_)
      refine lv_goto (tgt := 2) hx hb dX3_choosePlan_69 (by decide) ?_
      refine lv_iload_n hx hb dX3_choosePlan_2 rfl (lv_at hl 0 rfl) ?_
      refine lv_iconst (v := 3) hx hb dX3_choosePlan_3 (by decide) ?_
      refine lv_icmp_ge (tgt := 72) hx hb dX3_choosePlan_4 (by decide) (fun c_4_2 => ?_) (fun c_4_2 => ?_)
      · ---- to 72
        exact absurd c_4_2 (by decide)
      · ---- on
        refine lv_iload_n hx hb dX3_choosePlan_7 rfl (lv_at hl 3 rfl) ?_
        refine lv_iconst (v := 3) hx hb dX3_choosePlan_8 (by decide) ?_
        refine lv_iconst (v := 2) hx hb dX3_choosePlan_9 (by decide) ?_
        refine lv_iload_n hx hb dX3_choosePlan_10 rfl (lv_at hl 0 rfl) ?_
        refine lv_isub hx hb dX3_choosePlan_11 ?_
        refine ra_top (1) (by decide) ?_
        refine lv_imul hx hb dX3_choosePlan_12 ?_
        refine ra_top (3) (by decide) ?_
        refine lv_ishr hx hb dX3_choosePlan_13 ?_
        refine lv_bipush (v := 7) hx hb dX3_choosePlan_14 (by decide) ?_
        refine lv_iand hx hb dX3_choosePlan_16 ?_
        refine ra_top (nI (dg cd 1)) (dg_1 hcd) ?_
        refine lv_istore (lv' := [(4, .int (nI (dg cd 1))), (3, .int 1), (0, .ref q0), (1, .int (nI cd)), (2, .int (nI ly))]) hx hb dX3_choosePlan_17 hl (by decide) rfl (fun ls hl => ?_)
        refine lv_iload hx hb dX3_choosePlan_19 (lv_at hl 0 rfl) ?_
        refine lv_bipush (v := 7) hx hb dX3_choosePlan_21 (by decide) ?_
        refine lv_icmp_ne (tgt := 36) hx hb dX3_choosePlan_23 (by decide) (fun c_23_2 => ?_) (fun c_23_2 => ?_)
        · ---- to 36
          have n_23_2 := (nq_eq_n (dg cd 1) 7 (by omega) (by omega)).mp c_23_2
          refine lv_aload_n hx hb dX3_choosePlan_36 rfl (lv_at hl 2 rfl) ?_
          refine va_get (D := (dC, dI)) (ci := 3) (v := .ref a0) (C := RX3) (T := TX3) (N := 8) hx hb hts hin_X3 hown hK hP 0 rfl rfl 0 (by decide) hw_1 (fun _ h9 => h9) rfl dX3_choosePlan_37 ?_
          refine lv_iload hx hb dX3_choosePlan_40 (lv_at hl 0 rfl) ?_
          refine ra_cR (q := (RX0, TX0, 8)) (ci := 0) (As := [.int (nI (dg cd 1))]) (rest := []) (wc := [ob a0 0 [.int (nI n), .ref a1, .ref a2, .ref a3, .ref a4, .int vs, .int vb, .int vd], ai a1 cyI 7 fh, ai a2 cyI 7 fg, ai a3 cyI 7 ff, ai a4 cyI 7 fk]) ⟨hx, hb, hml, hown, hts⟩ (c_X0_has l dC dI cyI cyA a0 a1 a2 a3 a4 n fh fg ff fk vs vb vd (nI (dg cd 1)) ) (cwV 1 hts gX3_choosePlan_X0_has rfl rfl rfl (by decide +kernel) ⟨Nat.le_of_ble_eq_true rfl, Nat.le_of_ble_eq_true rfl⟩) hK hN hP [1, 2, 3, 4, 5] rfl rfl rfl rfl hl.1 rfl (Nat.le_of_ble_eq_true rfl) dX3_choosePlan_42 ⟨Nat.le_of_ble_eq_true rfl, Nat.le_of_ble_eq_true rfl⟩ ?_
          refine lv_if_eq (tgt := 64) hx hb dX3_choosePlan_45 (by decide) (fun c_45 => ?_) (fun c_45 => ?_)
          · ---- to 64
            have c_45 := bi_0 c_45
            have m_45 : n ≤ dg cd _ := Nat.not_lt.mp (fun q => c_45 ⟨nI_pos' (by omega), (nq_lt _ n (by omega) (by omega)).mpr q⟩)
            refine lv_iconst (v := 0) hx hb dX3_choosePlan_64 (by decide) ?_
            rw [hQ]
            exact ra_iretW (upd fp 0 (-1)) hx hb hr hlocks rfl hK hP hD hS ⟨(bj_f (by unfold okP okY; omega)).symm, fun q => absurd q (by unfold okP okY; omega)⟩ dX3_choosePlan_65
          · ---- on
            have c_45 := bi_1 c_45
            have m_45 := (nq_lt _ n (by omega) (by omega)).mp c_45.2
            refine lv_iload_n hx hb dX3_choosePlan_48 rfl (lv_at hl 1 rfl) ?_
            refine lv_iload_n hx hb dX3_choosePlan_49 rfl (lv_at hl 4 rfl) ?_
            refine lv_icmp_gt (tgt := 64) hx hb dX3_choosePlan_50 (by decide) (fun c_50 => ?_) (fun c_50 => ?_)
            · ---- to 64
              have n_50 := (nq_lt ly 1 (by omega) (by omega)).mp c_50
              refine lv_iconst (v := 0) hx hb dX3_choosePlan_64 (by decide) ?_
              rw [hQ]
              exact ra_iretW (upd fp 0 (-1)) hx hb hr hlocks rfl hK hP hD hS ⟨(bj_f (by unfold okP okY; omega)).symm, fun q => absurd q (by unfold okP okY; omega)⟩ dX3_choosePlan_65
            · ---- on
              have n_50 := (nq_lt_n ly 1 (by omega) (by omega)).mp c_50
              refine lv_aload_n hx hb dX3_choosePlan_53 rfl (lv_at hl 2 rfl) ?_
              refine va_get (D := (dC, dI)) (ci := 3) (v := .ref g0) (C := RX3) (T := TX3) (N := 8) hx hb hts hin_X3 hown hK hP 0 rfl rfl 7 (by decide) hw_3 (fun _ h9 => h9) rfl dX3_choosePlan_54 ?_
              refine lv_iload_n hx hb dX3_choosePlan_57 rfl (lv_at hl 1 rfl) ?_
              refine lv_iload hx hb dX3_choosePlan_58 (lv_at hl 0 rfl) ?_
              refine ra_iast hx hb hK hP hD hS 6 rfl 1 rfl (by omega) (Nat.le_of_ble_eq_true rfl) dX3_choosePlan_60 (fun H locs hP hD hS => ?_)
              have hP : va_P (dC, dI) vwCl [ob q0 3 [.ref a0, .ref t0, .ref z0, .int isv, .ref d0, .ref e0, .int fz, .ref g0], ob a0 0 [.int (nI n), .ref a1, .ref a2, .ref a3, .ref a4, .int vs, .int vb, .int vd], ai a1 cyI 7 fh, ai a2 cyI 7 fg, ai a3 cyI 7 ff, ai a4 cyI 7 fk, ai g0 cyI 3 (upd (upd fp 0 (-1)) 1 (nI (dg cd 1)))] H := hP
              have hD : va_D A [ob q0 3 [.ref a0, .ref t0, .ref z0, .int isv, .ref d0, .ref e0, .int fz, .ref g0], ob a0 0 [.int (nI n), .ref a1, .ref a2, .ref a3, .ref a4, .int vs, .int vb, .int vd], ai a1 cyI 7 fh, ai a2 cyI 7 fg, ai a3 cyI 7 ff, ai a4 cyI 7 fk, ai g0 cyI 3 (upd (upd fp 0 (-1)) 1 (nI (dg cd 1)))] := hD
              refine lv_goto (tgt := 66) hx hb dX3_choosePlan_61 (by decide) ?_
              refine lv_iinc (v := 2) (lv' := [(3, .int 2), (4, .int (nI (dg cd 1))), (0, .ref q0), (1, .int (nI cd)), (2, .int (nI ly))]) hx hb dX3_choosePlan_66 hl (k := 1) rfl (by decide) (by decide) rfl (fun ls hl => ?_)
              refine lv_goto (tgt := 2) hx hb dX3_choosePlan_69 (by decide) ?_
              refine lv_iload_n hx hb dX3_choosePlan_2 rfl (lv_at hl 0 rfl) ?_
              refine lv_iconst (v := 3) hx hb dX3_choosePlan_3 (by decide) ?_
              refine lv_icmp_ge (tgt := 72) hx hb dX3_choosePlan_4 (by decide) (fun c_4_3 => ?_) (fun c_4_3 => ?_)
              · ---- to 72
                exact absurd c_4_3 (by decide)
              · ---- on
                refine lv_iload_n hx hb dX3_choosePlan_7 rfl (lv_at hl 3 rfl) ?_
                refine lv_iconst (v := 3) hx hb dX3_choosePlan_8 (by decide) ?_
                refine lv_iconst (v := 2) hx hb dX3_choosePlan_9 (by decide) ?_
                refine lv_iload_n hx hb dX3_choosePlan_10 rfl (lv_at hl 0 rfl) ?_
                refine lv_isub hx hb dX3_choosePlan_11 ?_
                refine ra_top (0) (by decide) ?_
                refine lv_imul hx hb dX3_choosePlan_12 ?_
                refine ra_top (0) (by decide) ?_
                refine lv_ishr hx hb dX3_choosePlan_13 ?_
                refine lv_bipush (v := 7) hx hb dX3_choosePlan_14 (by decide) ?_
                refine lv_iand hx hb dX3_choosePlan_16 ?_
                refine ra_top (nI (dg cd 2)) (dg_2 hcd) ?_
                refine lv_istore (lv' := [(4, .int (nI (dg cd 2))), (3, .int 2), (0, .ref q0), (1, .int (nI cd)), (2, .int (nI ly))]) hx hb dX3_choosePlan_17 hl (by decide) rfl (fun ls hl => ?_)
                refine lv_iload hx hb dX3_choosePlan_19 (lv_at hl 0 rfl) ?_
                refine lv_bipush (v := 7) hx hb dX3_choosePlan_21 (by decide) ?_
                refine lv_icmp_ne (tgt := 36) hx hb dX3_choosePlan_23 (by decide) (fun c_23_3 => ?_) (fun c_23_3 => ?_)
                · ---- to 36
                  have n_23_3 := (nq_eq_n (dg cd 2) 7 (by omega) (by omega)).mp c_23_3
                  refine lv_aload_n hx hb dX3_choosePlan_36 rfl (lv_at hl 2 rfl) ?_
                  refine va_get (D := (dC, dI)) (ci := 3) (v := .ref a0) (C := RX3) (T := TX3) (N := 8) hx hb hts hin_X3 hown hK hP 0 rfl rfl 0 (by decide) hw_1 (fun _ h9 => h9) rfl dX3_choosePlan_37 ?_
                  refine lv_iload hx hb dX3_choosePlan_40 (lv_at hl 0 rfl) ?_
                  refine ra_cR (q := (RX0, TX0, 8)) (ci := 0) (As := [.int (nI (dg cd 2))]) (rest := []) (wc := [ob a0 0 [.int (nI n), .ref a1, .ref a2, .ref a3, .ref a4, .int vs, .int vb, .int vd], ai a1 cyI 7 fh, ai a2 cyI 7 fg, ai a3 cyI 7 ff, ai a4 cyI 7 fk]) ⟨hx, hb, hml, hown, hts⟩ (c_X0_has l dC dI cyI cyA a0 a1 a2 a3 a4 n fh fg ff fk vs vb vd (nI (dg cd 2)) ) (cwV 1 hts gX3_choosePlan_X0_has rfl rfl rfl (by decide +kernel) ⟨Nat.le_of_ble_eq_true rfl, Nat.le_of_ble_eq_true rfl⟩) hK hN hP [1, 2, 3, 4, 5] rfl rfl rfl rfl hl.1 rfl (Nat.le_of_ble_eq_true rfl) dX3_choosePlan_42 ⟨Nat.le_of_ble_eq_true rfl, Nat.le_of_ble_eq_true rfl⟩ ?_
                  refine lv_if_eq (tgt := 64) hx hb dX3_choosePlan_45 (by decide) (fun c_45_2 => ?_) (fun c_45_2 => ?_)
                  · ---- to 64
                    have c_45_2 := bi_0 c_45_2
                    have m_45_2 : n ≤ dg cd _ := Nat.not_lt.mp (fun q => c_45_2 ⟨nI_pos' (by omega), (nq_lt _ n (by omega) (by omega)).mpr q⟩)
                    refine lv_iconst (v := 0) hx hb dX3_choosePlan_64 (by decide) ?_
                    rw [hQ]
                    exact ra_iretW (upd (upd fp 0 (-1)) 1 (nI (dg cd 1))) hx hb hr hlocks rfl hK hP hD hS ⟨(bj_f (by unfold okP okY; omega)).symm, fun q => absurd q (by unfold okP okY; omega)⟩ dX3_choosePlan_65
                  · ---- on
                    have c_45_2 := bi_1 c_45_2
                    have m_45_2 := (nq_lt _ n (by omega) (by omega)).mp c_45_2.2
                    refine lv_iload_n hx hb dX3_choosePlan_48 rfl (lv_at hl 1 rfl) ?_
                    refine lv_iload_n hx hb dX3_choosePlan_49 rfl (lv_at hl 4 rfl) ?_
                    refine lv_icmp_gt (tgt := 64) hx hb dX3_choosePlan_50 (by decide) (fun c_50_2 => ?_) (fun c_50_2 => ?_)
                    · ---- to 64
                      have n_50_2 := (nq_lt ly 2 (by omega) (by omega)).mp c_50_2
                      refine lv_iconst (v := 0) hx hb dX3_choosePlan_64 (by decide) ?_
                      rw [hQ]
                      exact ra_iretW (upd (upd fp 0 (-1)) 1 (nI (dg cd 1))) hx hb hr hlocks rfl hK hP hD hS ⟨(bj_f (by unfold okP okY; omega)).symm, fun q => absurd q (by unfold okP okY; omega)⟩ dX3_choosePlan_65
                    · ---- on
                      have n_50_2 := (nq_lt_n ly 2 (by omega) (by omega)).mp c_50_2
                      refine lv_aload_n hx hb dX3_choosePlan_53 rfl (lv_at hl 2 rfl) ?_
                      refine va_get (D := (dC, dI)) (ci := 3) (v := .ref g0) (C := RX3) (T := TX3) (N := 8) hx hb hts hin_X3 hown hK hP 0 rfl rfl 7 (by decide) hw_3 (fun _ h9 => h9) rfl dX3_choosePlan_54 ?_
                      refine lv_iload_n hx hb dX3_choosePlan_57 rfl (lv_at hl 1 rfl) ?_
                      refine lv_iload hx hb dX3_choosePlan_58 (lv_at hl 0 rfl) ?_
                      refine ra_iast hx hb hK hP hD hS 6 rfl 2 rfl (by omega) (Nat.le_of_ble_eq_true rfl) dX3_choosePlan_60 (fun H locs hP hD hS => ?_)
                      have hP : va_P (dC, dI) vwCl [ob q0 3 [.ref a0, .ref t0, .ref z0, .int isv, .ref d0, .ref e0, .int fz, .ref g0], ob a0 0 [.int (nI n), .ref a1, .ref a2, .ref a3, .ref a4, .int vs, .int vb, .int vd], ai a1 cyI 7 fh, ai a2 cyI 7 fg, ai a3 cyI 7 ff, ai a4 cyI 7 fk, ai g0 cyI 3 (upd (upd (upd fp 0 (-1)) 1 (nI (dg cd 1))) 2 (nI (dg cd 2)))] H := hP
                      have hD : va_D A [ob q0 3 [.ref a0, .ref t0, .ref z0, .int isv, .ref d0, .ref e0, .int fz, .ref g0], ob a0 0 [.int (nI n), .ref a1, .ref a2, .ref a3, .ref a4, .int vs, .int vb, .int vd], ai a1 cyI 7 fh, ai a2 cyI 7 fg, ai a3 cyI 7 ff, ai a4 cyI 7 fk, ai g0 cyI 3 (upd (upd (upd fp 0 (-1)) 1 (nI (dg cd 1))) 2 (nI (dg cd 2)))] := hD
                      refine lv_goto (tgt := 66) hx hb dX3_choosePlan_61 (by decide) ?_
                      refine lv_iinc (v := 3) (lv' := [(3, .int 3), (4, .int (nI (dg cd 2))), (0, .ref q0), (1, .int (nI cd)), (2, .int (nI ly))]) hx hb dX3_choosePlan_66 hl (k := 1) rfl (by decide) (by decide) rfl (fun ls hl => ?_)
                      refine lv_goto (tgt := 2) hx hb dX3_choosePlan_69 (by decide) ?_
                      refine lv_iload_n hx hb dX3_choosePlan_2 rfl (lv_at hl 0 rfl) ?_
                      refine lv_iconst (v := 3) hx hb dX3_choosePlan_3 (by decide) ?_
                      refine lv_icmp_ge (tgt := 72) hx hb dX3_choosePlan_4 (by decide) (fun c_4_4 => ?_) (fun c_4_4 => ?_)
                      · ---- to 72
                        refine lv_iconst (v := 1) hx hb dX3_choosePlan_72 (by decide) ?_
                        rw [hQ]
                        exact ra_iretW (upd (upd (upd fp 0 (-1)) 1 (nI (dg cd 1))) 2 (nI (dg cd 2))) hx hb hr hlocks rfl hK hP hD hS ⟨(bj_t (by unfold okP okY; omega)).symm, fun _ y hy => by rcases (show y = 0 ∨ y = 1 ∨ y = 2 by omega) with rfl | rfl | rfl <;> (unfold dcd; first | (rw [if_pos (by omega)]; rfl) | (rw [if_neg (by omega)]; rfl))⟩ dX3_choosePlan_73
                      · ---- on
                        exact absurd c_4_4 (by decide)
                · ---- on
                  have n_23_3 := (nq_eq (dg cd 2) 7 (by omega) (by omega)).mp c_23_3
                  refine lv_aload_n hx hb dX3_choosePlan_26 rfl (lv_at hl 2 rfl) ?_
                  refine va_get (D := (dC, dI)) (ci := 3) (v := .ref g0) (C := RX3) (T := TX3) (N := 8) hx hb hts hin_X3 hown hK hP 0 rfl rfl 7 (by decide) hw_3 (fun _ h9 => h9) rfl dX3_choosePlan_27 ?_
                  refine lv_iload_n hx hb dX3_choosePlan_30 rfl (lv_at hl 1 rfl) ?_
                  refine lv_iconst (v := (-1)) hx hb dX3_choosePlan_31 (by decide) ?_
                  refine ra_iast hx hb hK hP hD hS 6 rfl 2 rfl (by omega) (Nat.le_of_ble_eq_true rfl) dX3_choosePlan_32 (fun H locs hP hD hS => ?_)
                  have hP : va_P (dC, dI) vwCl [ob q0 3 [.ref a0, .ref t0, .ref z0, .int isv, .ref d0, .ref e0, .int fz, .ref g0], ob a0 0 [.int (nI n), .ref a1, .ref a2, .ref a3, .ref a4, .int vs, .int vb, .int vd], ai a1 cyI 7 fh, ai a2 cyI 7 fg, ai a3 cyI 7 ff, ai a4 cyI 7 fk, ai g0 cyI 3 (upd (upd (upd fp 0 (-1)) 1 (nI (dg cd 1))) 2 (-1))] H := hP
                  have hD : va_D A [ob q0 3 [.ref a0, .ref t0, .ref z0, .int isv, .ref d0, .ref e0, .int fz, .ref g0], ob a0 0 [.int (nI n), .ref a1, .ref a2, .ref a3, .ref a4, .int vs, .int vb, .int vd], ai a1 cyI 7 fh, ai a2 cyI 7 fg, ai a3 cyI 7 ff, ai a4 cyI 7 fk, ai g0 cyI 3 (upd (upd (upd fp 0 (-1)) 1 (nI (dg cd 1))) 2 (-1))] := hD
                  refine lv_goto (tgt := 66) hx hb dX3_choosePlan_33 (by decide) ?_
                  refine lv_iinc (v := 3) (lv' := [(3, .int 3), (4, .int (nI (dg cd 2))), (0, .ref q0), (1, .int (nI cd)), (2, .int (nI ly))]) hx hb dX3_choosePlan_66 hl (k := 1) rfl (by decide) (by decide) rfl (fun ls hl => ?_)
                  refine lv_goto (tgt := 2) hx hb dX3_choosePlan_69 (by decide) ?_
                  refine lv_iload_n hx hb dX3_choosePlan_2 rfl (lv_at hl 0 rfl) ?_
                  refine lv_iconst (v := 3) hx hb dX3_choosePlan_3 (by decide) ?_
                  refine lv_icmp_ge (tgt := 72) hx hb dX3_choosePlan_4 (by decide) (fun c_4_4 => ?_) (fun c_4_4 => ?_)
                  · ---- to 72
                    refine lv_iconst (v := 1) hx hb dX3_choosePlan_72 (by decide) ?_
                    rw [hQ]
                    exact ra_iretW (upd (upd (upd fp 0 (-1)) 1 (nI (dg cd 1))) 2 (-1)) hx hb hr hlocks rfl hK hP hD hS ⟨(bj_t (by unfold okP okY; omega)).symm, fun _ y hy => by rcases (show y = 0 ∨ y = 1 ∨ y = 2 by omega) with rfl | rfl | rfl <;> (unfold dcd; first | (rw [if_pos (by omega)]; rfl) | (rw [if_neg (by omega)]; rfl))⟩ dX3_choosePlan_73
                  · ---- on
                    exact absurd c_4_4 (by decide)
        · ---- on
          have n_23_2 := (nq_eq (dg cd 1) 7 (by omega) (by omega)).mp c_23_2
          refine lv_aload_n hx hb dX3_choosePlan_26 rfl (lv_at hl 2 rfl) ?_
          refine va_get (D := (dC, dI)) (ci := 3) (v := .ref g0) (C := RX3) (T := TX3) (N := 8) hx hb hts hin_X3 hown hK hP 0 rfl rfl 7 (by decide) hw_3 (fun _ h9 => h9) rfl dX3_choosePlan_27 ?_
          refine lv_iload_n hx hb dX3_choosePlan_30 rfl (lv_at hl 1 rfl) ?_
          refine lv_iconst (v := (-1)) hx hb dX3_choosePlan_31 (by decide) ?_
          refine ra_iast hx hb hK hP hD hS 6 rfl 1 rfl (by omega) (Nat.le_of_ble_eq_true rfl) dX3_choosePlan_32 (fun H locs hP hD hS => ?_)
          have hP : va_P (dC, dI) vwCl [ob q0 3 [.ref a0, .ref t0, .ref z0, .int isv, .ref d0, .ref e0, .int fz, .ref g0], ob a0 0 [.int (nI n), .ref a1, .ref a2, .ref a3, .ref a4, .int vs, .int vb, .int vd], ai a1 cyI 7 fh, ai a2 cyI 7 fg, ai a3 cyI 7 ff, ai a4 cyI 7 fk, ai g0 cyI 3 (upd (upd fp 0 (-1)) 1 (-1))] H := hP
          have hD : va_D A [ob q0 3 [.ref a0, .ref t0, .ref z0, .int isv, .ref d0, .ref e0, .int fz, .ref g0], ob a0 0 [.int (nI n), .ref a1, .ref a2, .ref a3, .ref a4, .int vs, .int vb, .int vd], ai a1 cyI 7 fh, ai a2 cyI 7 fg, ai a3 cyI 7 ff, ai a4 cyI 7 fk, ai g0 cyI 3 (upd (upd fp 0 (-1)) 1 (-1))] := hD
          refine lv_goto (tgt := 66) hx hb dX3_choosePlan_33 (by decide) ?_
          refine lv_iinc (v := 2) (lv' := [(3, .int 2), (4, .int (nI (dg cd 1))), (0, .ref q0), (1, .int (nI cd)), (2, .int (nI ly))]) hx hb dX3_choosePlan_66 hl (k := 1) rfl (by decide) (by decide) rfl (fun ls hl => ?_)
          refine lv_goto (tgt := 2) hx hb dX3_choosePlan_69 (by decide) ?_
          refine lv_iload_n hx hb dX3_choosePlan_2 rfl (lv_at hl 0 rfl) ?_
          refine lv_iconst (v := 3) hx hb dX3_choosePlan_3 (by decide) ?_
          refine lv_icmp_ge (tgt := 72) hx hb dX3_choosePlan_4 (by decide) (fun c_4_3 => ?_) (fun c_4_3 => ?_)
          · ---- to 72
            exact absurd c_4_3 (by decide)
          · ---- on
            refine lv_iload_n hx hb dX3_choosePlan_7 rfl (lv_at hl 3 rfl) ?_
            refine lv_iconst (v := 3) hx hb dX3_choosePlan_8 (by decide) ?_
            refine lv_iconst (v := 2) hx hb dX3_choosePlan_9 (by decide) ?_
            refine lv_iload_n hx hb dX3_choosePlan_10 rfl (lv_at hl 0 rfl) ?_
            refine lv_isub hx hb dX3_choosePlan_11 ?_
            refine ra_top (0) (by decide) ?_
            refine lv_imul hx hb dX3_choosePlan_12 ?_
            refine ra_top (0) (by decide) ?_
            refine lv_ishr hx hb dX3_choosePlan_13 ?_
            refine lv_bipush (v := 7) hx hb dX3_choosePlan_14 (by decide) ?_
            refine lv_iand hx hb dX3_choosePlan_16 ?_
            refine ra_top (nI (dg cd 2)) (dg_2 hcd) ?_
            refine lv_istore (lv' := [(4, .int (nI (dg cd 2))), (3, .int 2), (0, .ref q0), (1, .int (nI cd)), (2, .int (nI ly))]) hx hb dX3_choosePlan_17 hl (by decide) rfl (fun ls hl => ?_)
            refine lv_iload hx hb dX3_choosePlan_19 (lv_at hl 0 rfl) ?_
            refine lv_bipush (v := 7) hx hb dX3_choosePlan_21 (by decide) ?_
            refine lv_icmp_ne (tgt := 36) hx hb dX3_choosePlan_23 (by decide) (fun c_23_3 => ?_) (fun c_23_3 => ?_)
            · ---- to 36
              have n_23_3 := (nq_eq_n (dg cd 2) 7 (by omega) (by omega)).mp c_23_3
              refine lv_aload_n hx hb dX3_choosePlan_36 rfl (lv_at hl 2 rfl) ?_
              refine va_get (D := (dC, dI)) (ci := 3) (v := .ref a0) (C := RX3) (T := TX3) (N := 8) hx hb hts hin_X3 hown hK hP 0 rfl rfl 0 (by decide) hw_1 (fun _ h9 => h9) rfl dX3_choosePlan_37 ?_
              refine lv_iload hx hb dX3_choosePlan_40 (lv_at hl 0 rfl) ?_
              refine ra_cR (q := (RX0, TX0, 8)) (ci := 0) (As := [.int (nI (dg cd 2))]) (rest := []) (wc := [ob a0 0 [.int (nI n), .ref a1, .ref a2, .ref a3, .ref a4, .int vs, .int vb, .int vd], ai a1 cyI 7 fh, ai a2 cyI 7 fg, ai a3 cyI 7 ff, ai a4 cyI 7 fk]) ⟨hx, hb, hml, hown, hts⟩ (c_X0_has l dC dI cyI cyA a0 a1 a2 a3 a4 n fh fg ff fk vs vb vd (nI (dg cd 2)) ) (cwV 1 hts gX3_choosePlan_X0_has rfl rfl rfl (by decide +kernel) ⟨Nat.le_of_ble_eq_true rfl, Nat.le_of_ble_eq_true rfl⟩) hK hN hP [1, 2, 3, 4, 5] rfl rfl rfl rfl hl.1 rfl (Nat.le_of_ble_eq_true rfl) dX3_choosePlan_42 ⟨Nat.le_of_ble_eq_true rfl, Nat.le_of_ble_eq_true rfl⟩ ?_
              refine lv_if_eq (tgt := 64) hx hb dX3_choosePlan_45 (by decide) (fun c_45 => ?_) (fun c_45 => ?_)
              · ---- to 64
                have c_45 := bi_0 c_45
                have m_45 : n ≤ dg cd _ := Nat.not_lt.mp (fun q => c_45 ⟨nI_pos' (by omega), (nq_lt _ n (by omega) (by omega)).mpr q⟩)
                refine lv_iconst (v := 0) hx hb dX3_choosePlan_64 (by decide) ?_
                rw [hQ]
                exact ra_iretW (upd (upd fp 0 (-1)) 1 (-1)) hx hb hr hlocks rfl hK hP hD hS ⟨(bj_f (by unfold okP okY; omega)).symm, fun q => absurd q (by unfold okP okY; omega)⟩ dX3_choosePlan_65
              · ---- on
                have c_45 := bi_1 c_45
                have m_45 := (nq_lt _ n (by omega) (by omega)).mp c_45.2
                refine lv_iload_n hx hb dX3_choosePlan_48 rfl (lv_at hl 1 rfl) ?_
                refine lv_iload_n hx hb dX3_choosePlan_49 rfl (lv_at hl 4 rfl) ?_
                refine lv_icmp_gt (tgt := 64) hx hb dX3_choosePlan_50 (by decide) (fun c_50 => ?_) (fun c_50 => ?_)
                · ---- to 64
                  have n_50 := (nq_lt ly 2 (by omega) (by omega)).mp c_50
                  refine lv_iconst (v := 0) hx hb dX3_choosePlan_64 (by decide) ?_
                  rw [hQ]
                  exact ra_iretW (upd (upd fp 0 (-1)) 1 (-1)) hx hb hr hlocks rfl hK hP hD hS ⟨(bj_f (by unfold okP okY; omega)).symm, fun q => absurd q (by unfold okP okY; omega)⟩ dX3_choosePlan_65
                · ---- on
                  have n_50 := (nq_lt_n ly 2 (by omega) (by omega)).mp c_50
                  refine lv_aload_n hx hb dX3_choosePlan_53 rfl (lv_at hl 2 rfl) ?_
                  refine va_get (D := (dC, dI)) (ci := 3) (v := .ref g0) (C := RX3) (T := TX3) (N := 8) hx hb hts hin_X3 hown hK hP 0 rfl rfl 7 (by decide) hw_3 (fun _ h9 => h9) rfl dX3_choosePlan_54 ?_
                  refine lv_iload_n hx hb dX3_choosePlan_57 rfl (lv_at hl 1 rfl) ?_
                  refine lv_iload hx hb dX3_choosePlan_58 (lv_at hl 0 rfl) ?_
                  refine ra_iast hx hb hK hP hD hS 6 rfl 2 rfl (by omega) (Nat.le_of_ble_eq_true rfl) dX3_choosePlan_60 (fun H locs hP hD hS => ?_)
                  have hP : va_P (dC, dI) vwCl [ob q0 3 [.ref a0, .ref t0, .ref z0, .int isv, .ref d0, .ref e0, .int fz, .ref g0], ob a0 0 [.int (nI n), .ref a1, .ref a2, .ref a3, .ref a4, .int vs, .int vb, .int vd], ai a1 cyI 7 fh, ai a2 cyI 7 fg, ai a3 cyI 7 ff, ai a4 cyI 7 fk, ai g0 cyI 3 (upd (upd (upd fp 0 (-1)) 1 (-1)) 2 (nI (dg cd 2)))] H := hP
                  have hD : va_D A [ob q0 3 [.ref a0, .ref t0, .ref z0, .int isv, .ref d0, .ref e0, .int fz, .ref g0], ob a0 0 [.int (nI n), .ref a1, .ref a2, .ref a3, .ref a4, .int vs, .int vb, .int vd], ai a1 cyI 7 fh, ai a2 cyI 7 fg, ai a3 cyI 7 ff, ai a4 cyI 7 fk, ai g0 cyI 3 (upd (upd (upd fp 0 (-1)) 1 (-1)) 2 (nI (dg cd 2)))] := hD
                  refine lv_goto (tgt := 66) hx hb dX3_choosePlan_61 (by decide) ?_
                  refine lv_iinc (v := 3) (lv' := [(3, .int 3), (4, .int (nI (dg cd 2))), (0, .ref q0), (1, .int (nI cd)), (2, .int (nI ly))]) hx hb dX3_choosePlan_66 hl (k := 1) rfl (by decide) (by decide) rfl (fun ls hl => ?_)
                  refine lv_goto (tgt := 2) hx hb dX3_choosePlan_69 (by decide) ?_
                  refine lv_iload_n hx hb dX3_choosePlan_2 rfl (lv_at hl 0 rfl) ?_
                  refine lv_iconst (v := 3) hx hb dX3_choosePlan_3 (by decide) ?_
                  refine lv_icmp_ge (tgt := 72) hx hb dX3_choosePlan_4 (by decide) (fun c_4_4 => ?_) (fun c_4_4 => ?_)
                  · ---- to 72
                    refine lv_iconst (v := 1) hx hb dX3_choosePlan_72 (by decide) ?_
                    rw [hQ]
                    exact ra_iretW (upd (upd (upd fp 0 (-1)) 1 (-1)) 2 (nI (dg cd 2))) hx hb hr hlocks rfl hK hP hD hS ⟨(bj_t (by unfold okP okY; omega)).symm, fun _ y hy => by rcases (show y = 0 ∨ y = 1 ∨ y = 2 by omega) with rfl | rfl | rfl <;> (unfold dcd; first | (rw [if_pos (by omega)]; rfl) | (rw [if_neg (by omega)]; rfl))⟩ dX3_choosePlan_73
                  · ---- on
                    exact absurd c_4_4 (by decide)
            · ---- on
              have n_23_3 := (nq_eq (dg cd 2) 7 (by omega) (by omega)).mp c_23_3
              refine lv_aload_n hx hb dX3_choosePlan_26 rfl (lv_at hl 2 rfl) ?_
              refine va_get (D := (dC, dI)) (ci := 3) (v := .ref g0) (C := RX3) (T := TX3) (N := 8) hx hb hts hin_X3 hown hK hP 0 rfl rfl 7 (by decide) hw_3 (fun _ h9 => h9) rfl dX3_choosePlan_27 ?_
              refine lv_iload_n hx hb dX3_choosePlan_30 rfl (lv_at hl 1 rfl) ?_
              refine lv_iconst (v := (-1)) hx hb dX3_choosePlan_31 (by decide) ?_
              refine ra_iast hx hb hK hP hD hS 6 rfl 2 rfl (by omega) (Nat.le_of_ble_eq_true rfl) dX3_choosePlan_32 (fun H locs hP hD hS => ?_)
              have hP : va_P (dC, dI) vwCl [ob q0 3 [.ref a0, .ref t0, .ref z0, .int isv, .ref d0, .ref e0, .int fz, .ref g0], ob a0 0 [.int (nI n), .ref a1, .ref a2, .ref a3, .ref a4, .int vs, .int vb, .int vd], ai a1 cyI 7 fh, ai a2 cyI 7 fg, ai a3 cyI 7 ff, ai a4 cyI 7 fk, ai g0 cyI 3 (upd (upd (upd fp 0 (-1)) 1 (-1)) 2 (-1))] H := hP
              have hD : va_D A [ob q0 3 [.ref a0, .ref t0, .ref z0, .int isv, .ref d0, .ref e0, .int fz, .ref g0], ob a0 0 [.int (nI n), .ref a1, .ref a2, .ref a3, .ref a4, .int vs, .int vb, .int vd], ai a1 cyI 7 fh, ai a2 cyI 7 fg, ai a3 cyI 7 ff, ai a4 cyI 7 fk, ai g0 cyI 3 (upd (upd (upd fp 0 (-1)) 1 (-1)) 2 (-1))] := hD
              refine lv_goto (tgt := 66) hx hb dX3_choosePlan_33 (by decide) ?_
              refine lv_iinc (v := 3) (lv' := [(3, .int 3), (4, .int (nI (dg cd 2))), (0, .ref q0), (1, .int (nI cd)), (2, .int (nI ly))]) hx hb dX3_choosePlan_66 hl (k := 1) rfl (by decide) (by decide) rfl (fun ls hl => ?_)
              refine lv_goto (tgt := 2) hx hb dX3_choosePlan_69 (by decide) ?_
              refine lv_iload_n hx hb dX3_choosePlan_2 rfl (lv_at hl 0 rfl) ?_
              refine lv_iconst (v := 3) hx hb dX3_choosePlan_3 (by decide) ?_
              refine lv_icmp_ge (tgt := 72) hx hb dX3_choosePlan_4 (by decide) (fun c_4_4 => ?_) (fun c_4_4 => ?_)
              · ---- to 72
                refine lv_iconst (v := 1) hx hb dX3_choosePlan_72 (by decide) ?_
                rw [hQ]
                exact ra_iretW (upd (upd (upd fp 0 (-1)) 1 (-1)) 2 (-1)) hx hb hr hlocks rfl hK hP hD hS ⟨(bj_t (by unfold okP okY; omega)).symm, fun _ y hy => by rcases (show y = 0 ∨ y = 1 ∨ y = 2 by omega) with rfl | rfl | rfl <;> (unfold dcd; first | (rw [if_pos (by omega)]; rfl) | (rw [if_neg (by omega)]; rfl))⟩ dX3_choosePlan_73
              · ---- on
                exact absurd c_4_4 (by decide)

set_option maxHeartbeats 4000000 in
set_option maxRecDepth 100000 in
theorem c_X3_worstCrest (l : Launch) (dC : Nat → ClassId) (dI : Nat → Nat → Nat) (cyI cyA : ClassId) (q0 z0 e0 g0 : Nat) (isv fz : Int32) (a0 a1 a2 a3 a4 n : Nat) (fh fg ff fk : FN) (vs vb vd : Int32) (t0 t1 t2 t3 t4 tn : Nat) (th tg tf tk : FN) (ts tb td : Int32) (d0 d1 d2 d3 : Nat) (ct : Nat → Nat) (k0 k1 k2 v0 v1 v2 : Nat) (kd vl : Nat → FN) (fp : FN) (fo : Int32) (hn : n ≤ 7) (hct : ∀ w, w < 3 → ct w ≤ 12) (sz : Nat) : Met l yX3_worstCrest wsX3_worstCrest (rm 4) (kW dC dI cyI cyA [.ref q0, .int fo] sz [ob q0 3 [.ref a0, .ref t0, .ref z0, .int isv, .ref d0, .ref e0, .int fz, .ref g0], ob a0 0 [.int (nI n), .ref a1, .ref a2, .ref a3, .ref a4, .int vs, .int vb, .int vd], ai a1 cyI 7 fh, ai a2 cyI 7 fg, ai a3 cyI 7 ff, ai a4 cyI 7 fk, ob t0 0 [.int (nI tn), .ref t1, .ref t2, .ref t3, .ref t4, .int ts, .int tb, .int td], ai t1 cyI 7 th, ai t2 cyI 7 tg, ai t3 cyI 7 tf, ai t4 cyI 7 tk, ob d0 2 [.ref d1, .ref d2, .ref d3], ai d1 cyI 3 (nF ct), aa d2 cyA 3 (r3 k0 k1 k2), aa d3 cyA 3 (r3 v0 v1 v2), ai k0 cyI 12 (kd 0), ai k1 cyI 12 (kd 1), ai k2 cyI 12 (kd 2), ai v0 cyI 12 (vl 0), ai v1 cyI 12 (vl 1), ai v2 cyI 12 (vl 2), ai g0 cyI 3 fp]) (qI dC dI cyI cyA (fun (r : Int32) (u : Nat × FN × FN × FN × FN × Int32 × Int32 × Int32) => match u with | (xn, xh, xg, xf, xk, xs, xb, xd) => r = wCr ct (crW phc psc nuc n fz ct kd vl fh fg ff fk vs vb fp) (flW phc psc nuc n fz ct kd vl fh fg ff fk vs vb fp) fo) (va_A [ob q0 3 [.ref a0, .ref t0, .ref z0, .int isv, .ref d0, .ref e0, .int fz, .ref g0], ob a0 0 [.int (nI n), .ref a1, .ref a2, .ref a3, .ref a4, .int vs, .int vb, .int vd], ai a1 cyI 7 fh, ai a2 cyI 7 fg, ai a3 cyI 7 ff, ai a4 cyI 7 fk, ob t0 0 [.int (nI tn), .ref t1, .ref t2, .ref t3, .ref t4, .int ts, .int tb, .int td], ai t1 cyI 7 th, ai t2 cyI 7 tg, ai t3 cyI 7 tf, ai t4 cyI 7 tk, ob d0 2 [.ref d1, .ref d2, .ref d3], ai d1 cyI 3 (nF ct), aa d2 cyA 3 (r3 k0 k1 k2), aa d3 cyA 3 (r3 v0 v1 v2), ai k0 cyI 12 (kd 0), ai k1 cyI 12 (kd 1), ai k2 cyI 12 (kd 2), ai v0 cyI 12 (vl 0), ai v1 cyI 12 (vl 1), ai v2 cyI 12 (vl 2), ai g0 cyI 3 fp] sz) (fun u : Nat × FN × FN × FN × FN × Int32 × Int32 × Int32 => match u with | (xn, xh, xg, xf, xk, xs, xb, xd) => [ob q0 3 [.ref a0, .ref t0, .ref z0, .int isv, .ref d0, .ref e0, .int fz, .ref g0], ob a0 0 [.int (nI n), .ref a1, .ref a2, .ref a3, .ref a4, .int vs, .int vb, .int vd], ai a1 cyI 7 fh, ai a2 cyI 7 fg, ai a3 cyI 7 ff, ai a4 cyI 7 fk, ob t0 0 [.int (nI xn), .ref t1, .ref t2, .ref t3, .ref t4, .int xs, .int xb, .int xd], ai t1 cyI 7 xh, ai t2 cyI 7 xg, ai t3 cyI 7 xf, ai t4 cyI 7 xk, ob d0 2 [.ref d1, .ref d2, .ref d3], ai d1 cyI 3 (nF ct), aa d2 cyA 3 (r3 k0 k1 k2), aa d3 cyA 3 (r3 v0 v1 v2), ai k0 cyI 12 (kd 0), ai k1 cyI 12 (kd 1), ai k2 cyI 12 (kd 2), ai v0 cyI 12 (vl 0), ai v1 cyI 12 (vl 1), ai v2 cyI 12 (vl 2), ai g0 cyI 3 fp])) 0 0 (va_A [ob q0 3 [.ref a0, .ref t0, .ref z0, .int isv, .ref d0, .ref e0, .int fz, .ref g0], ob a0 0 [.int (nI n), .ref a1, .ref a2, .ref a3, .ref a4, .int vs, .int vb, .int vd], ai a1 cyI 7 fh, ai a2 cyI 7 fg, ai a3 cyI 7 ff, ai a4 cyI 7 fk, ob t0 0 [.int (nI tn), .ref t1, .ref t2, .ref t3, .ref t4, .int ts, .int tb, .int td], ai t1 cyI 7 th, ai t2 cyI 7 tg, ai t3 cyI 7 tf, ai t4 cyI 7 tk, ob d0 2 [.ref d1, .ref d2, .ref d3], ai d1 cyI 3 (nF ct), aa d2 cyA 3 (r3 k0 k1 k2), aa d3 cyA 3 (r3 v0 v1 v2), ai k0 cyI 12 (kd 0), ai k1 cyI 12 (kd 1), ai k2 cyI 12 (kd 2), ai v0 cyI 12 (vl 0), ai v1 cyI 12 (vl 1), ai v2 cyI 12 (vl 2), ai g0 cyI 3 fp] sz) := by
  refine ra_metW (cc := cX3_worstCrest) (maxL := 4) (Qc := fun A => qI dC dI cyI cyA (fun (r : Int32) (u : Nat × FN × FN × FN × FN × Int32 × Int32 × Int32) => match u with | (xn, xh, xg, xf, xk, xs, xb, xd) => r = wCr ct (crW phc psc nuc n fz ct kd vl fh fg ff fk vs vb fp) (flW phc psc nuc n fz ct kd vl fh fg ff fk vs vb fp) fo) A (fun u : Nat × FN × FN × FN × FN × Int32 × Int32 × Int32 => match u with | (xn, xh, xg, xf, xk, xs, xb, xd) => [ob q0 3 [.ref a0, .ref t0, .ref z0, .int isv, .ref d0, .ref e0, .int fz, .ref g0], ob a0 0 [.int (nI n), .ref a1, .ref a2, .ref a3, .ref a4, .int vs, .int vb, .int vd], ai a1 cyI 7 fh, ai a2 cyI 7 fg, ai a3 cyI 7 ff, ai a4 cyI 7 fk, ob t0 0 [.int (nI xn), .ref t1, .ref t2, .ref t3, .ref t4, .int xs, .int xb, .int xd], ai t1 cyI 7 xh, ai t2 cyI 7 xg, ai t3 cyI 7 xf, ai t4 cyI 7 xk, ob d0 2 [.ref d1, .ref d2, .ref d3], ai d1 cyI 3 (nF ct), aa d2 cyA 3 (r3 k0 k1 k2), aa d3 cyA 3 (r3 v0 v1 v2), ai k0 cyI 12 (kd 0), ai k1 cyI 12 (kd 1), ai k2 cyI 12 (kd 2), ai v0 cyI 12 (vl 0), ai v1 cyI 12 (vl 1), ai v2 cyI 12 (vl 2), ai g0 cyI 3 fp])) (by decide) rfl (Nat.le_of_ble_eq_true rfl) ?_
  intro p e s m below meth c A args Q hQ hx hb hr hlocks hml hts hown hnm hK hN hP hD hA hS ls hl
  have hl : lv_has ls 4 [(0, .ref q0), (1, .int fo)] := hl
  have hown : s.vm.findClass RX3 = some m.cls := hown
  have hw_1 := hts (.fieldLink RX3 29 "DuneBench" "weathers" "LDuneBench$Weathers;") (by decide +kernel)
  have hin_X3 : ∀ w ∈ u_ws RX3 TX3 8, w ∈ wsX3_worstCrest := by decide +kernel
  have hw_3 := hts (.fieldLink RX3 91 "DuneBench$Weathers" "count" "[I") (by decide +kernel)
  have hin_X2 : ∀ w ∈ u_ws RX2 TX2 3, w ∈ wsX3_worstCrest := by decide +kernel
  have hw_5 := hts (.fieldLink RX3 16 "DuneBench" "trial" "LDuneBench$Coast;") (by decide +kernel)
  have hw_6 := hts (.methodLink RX3 195 Lib.Math.min.name) (by decide +kernel)
  have hw_7 := hts (.static Lib.Math.min.name) (by decide +kernel)
  have hw_8 := hts (.initialized "java/lang/Math") (by decide +kernel)
  have hw_9 := hts (.code Lib.Math.min.name Lib.Math.min.code 2 (some .int)) (by decide +kernel)
  have hw_10 := hts (.fieldLink RX3 105 "DuneBench$Coast" "flooded" "I") (by decide +kernel)
  have hin_X0 : ∀ w ∈ u_ws RX0 TX0 8, w ∈ wsX3_worstCrest := by decide +kernel
  obtain ⟨H, hHe⟩ : ∃ H, H = s.heap := ⟨_, rfl⟩
  obtain ⟨locs, hLe⟩ : ∃ locs : List Loc, locs = [] := ⟨_, rfl⟩
  have hP : va_P (dC, dI) vwCl [ob q0 3 [.ref a0, .ref t0, .ref z0, .int isv, .ref d0, .ref e0, .int fz, .ref g0], ob a0 0 [.int (nI n), .ref a1, .ref a2, .ref a3, .ref a4, .int vs, .int vb, .int vd], ai a1 cyI 7 fh, ai a2 cyI 7 fg, ai a3 cyI 7 ff, ai a4 cyI 7 fk, ob t0 0 [.int (nI tn), .ref t1, .ref t2, .ref t3, .ref t4, .int ts, .int tb, .int td], ai t1 cyI 7 th, ai t2 cyI 7 tg, ai t3 cyI 7 tf, ai t4 cyI 7 tk, ob d0 2 [.ref d1, .ref d2, .ref d3], ai d1 cyI 3 (nF ct), aa d2 cyA 3 (r3 k0 k1 k2), aa d3 cyA 3 (r3 v0 v1 v2), ai k0 cyI 12 (kd 0), ai k1 cyI 12 (kd 1), ai k2 cyI 12 (kd 2), ai v0 cyI 12 (vl 0), ai v1 cyI 12 (vl 1), ai v2 cyI 12 (vl 2), ai g0 cyI 3 fp] H := by rw [hHe]; exact hP
  have hS : va_S A s.heap H locs := by rw [hHe, hLe]; exact hS
  suffices hgo : W p l e (rm 4) s m args below meth c H locs 0 0 Q (F0 m 0 ls []) by rw [hHe, hLe] at hgo; exact hgo
  have hc0 := hct 0 (by omega)
  have hc1 := hct 1 (by omega)
  have hc2 := hct 2 (by omega)
  refine lv_bipush (v := 99) hx hb dX3_worstCrest_0 (by decide) ?_
  refine lv_istore_n (lv' := [(2, .int 99), (0, .ref q0), (1, .int fo)]) hx hb dX3_worstCrest_2 rfl hl (by decide) rfl (fun ls hl => ?_)
  refine lv_iconst (v := 0) hx hb dX3_worstCrest_3 (by decide) ?_
  refine lv_istore_n (lv' := [(3, .int 0), (2, .int 99), (0, .ref q0), (1, .int fo)]) hx hb dX3_worstCrest_4 rfl hl (by decide) rfl (fun ls hl => ?_)
  refine lv_iload_n hx hb dX3_worstCrest_5 rfl (lv_at hl 0 rfl) ?_
  refine lv_iconst (v := 3) hx hb dX3_worstCrest_6 (by decide) ?_
  refine lv_icmp_ge (tgt := 62) hx hb dX3_worstCrest_7 (by decide) (fun c_7 => ?_) (fun c_7 => ?_)
  · ---- to 62
    exact absurd c_7 (by decide)
  · ---- on
    refine lv_aload_n hx hb dX3_worstCrest_10 rfl (lv_at hl 2 rfl) ?_
    refine va_get (D := (dC, dI)) (ci := 3) (v := .ref d0) (C := RX3) (T := TX3) (N := 8) hx hb hts hin_X3 hown hK hP 0 rfl rfl 4 (by decide) hw_1 (fun _ h9 => h9) rfl dX3_worstCrest_11 ?_
    refine va_get (D := (dC, dI)) (ci := 2) (v := .ref d1) (C := RX2) (T := TX2) (N := 3) hx hb hts hin_X2 hown hK hP 11 rfl rfl 0 (by decide) hw_3 (fun _ h9 => h9) rfl dX3_worstCrest_14 ?_
    refine lv_iload_n hx hb dX3_worstCrest_17 rfl (lv_at hl 0 rfl) ?_
    refine ra_iald hx hb hK hP 12 rfl 0 rfl (by omega) (Nat.le_of_ble_eq_true rfl) dX3_worstCrest_18 ?_
    refine ra_top (nI (ct 0)) rfl ?_
    refine lv_if_le (tgt := 56) hx hb dX3_worstCrest_19 (by decide) (fun c_19 => ?_) (fun c_19 => ?_)
    · ---- to 56
      have n_19 := (nq_le (ct 0) 0 (by omega) (by omega)).mp c_19
      refine lv_iinc (v := 1) (lv' := [(3, .int 1), (2, .int 99), (0, .ref q0), (1, .int fo)]) hx hb dX3_worstCrest_56 hl (k := 0) rfl (by decide) (by decide) rfl (fun ls hl => ?_)
      refine lv_goto (tgt := 5) hx hb dX3_worstCrest_59 (by decide) ?_
      refine lv_iload_n hx hb dX3_worstCrest_5 rfl (lv_at hl 0 rfl) ?_
      refine lv_iconst (v := 3) hx hb dX3_worstCrest_6 (by decide) ?_
      refine lv_icmp_ge (tgt := 62) hx hb dX3_worstCrest_7 (by decide) (fun c_7_2 => ?_) (fun c_7_2 => ?_)
      · ---- to 62
        exact absurd c_7_2 (by decide)
      · ---- on
        refine lv_aload_n hx hb dX3_worstCrest_10 rfl (lv_at hl 2 rfl) ?_
        refine va_get (D := (dC, dI)) (ci := 3) (v := .ref d0) (C := RX3) (T := TX3) (N := 8) hx hb hts hin_X3 hown hK hP 0 rfl rfl 4 (by decide) hw_1 (fun _ h9 => h9) rfl dX3_worstCrest_11 ?_
        refine va_get (D := (dC, dI)) (ci := 2) (v := .ref d1) (C := RX2) (T := TX2) (N := 3) hx hb hts hin_X2 hown hK hP 11 rfl rfl 0 (by decide) hw_3 (fun _ h9 => h9) rfl dX3_worstCrest_14 ?_
        refine lv_iload_n hx hb dX3_worstCrest_17 rfl (lv_at hl 0 rfl) ?_
        refine ra_iald hx hb hK hP 12 rfl 1 rfl (by omega) (Nat.le_of_ble_eq_true rfl) dX3_worstCrest_18 ?_
        refine ra_top (nI (ct 1)) rfl ?_
        refine lv_if_le (tgt := 56) hx hb dX3_worstCrest_19 (by decide) (fun c_19_2 => ?_) (fun c_19_2 => ?_)
        · ---- to 56
          have n_19_2 := (nq_le (ct 1) 0 (by omega) (by omega)).mp c_19_2
          refine lv_iinc (v := 2) (lv' := [(3, .int 2), (2, .int 99), (0, .ref q0), (1, .int fo)]) hx hb dX3_worstCrest_56 hl (k := 0) rfl (by decide) (by decide) rfl (fun ls hl => ?_)
          refine lv_goto (tgt := 5) hx hb dX3_worstCrest_59 (by decide) ?_
          refine lv_iload_n hx hb dX3_worstCrest_5 rfl (lv_at hl 0 rfl) ?_
          refine lv_iconst (v := 3) hx hb dX3_worstCrest_6 (by decide) ?_
          refine lv_icmp_ge (tgt := 62) hx hb dX3_worstCrest_7 (by decide) (fun c_7_3 => ?_) (fun c_7_3 => ?_)
          · ---- to 62
            exact absurd c_7_3 (by decide)
          · ---- on
            refine lv_aload_n hx hb dX3_worstCrest_10 rfl (lv_at hl 2 rfl) ?_
            refine va_get (D := (dC, dI)) (ci := 3) (v := .ref d0) (C := RX3) (T := TX3) (N := 8) hx hb hts hin_X3 hown hK hP 0 rfl rfl 4 (by decide) hw_1 (fun _ h9 => h9) rfl dX3_worstCrest_11 ?_
            refine va_get (D := (dC, dI)) (ci := 2) (v := .ref d1) (C := RX2) (T := TX2) (N := 3) hx hb hts hin_X2 hown hK hP 11 rfl rfl 0 (by decide) hw_3 (fun _ h9 => h9) rfl dX3_worstCrest_14 ?_
            refine lv_iload_n hx hb dX3_worstCrest_17 rfl (lv_at hl 0 rfl) ?_
            refine ra_iald hx hb hK hP 12 rfl 2 rfl (by omega) (Nat.le_of_ble_eq_true rfl) dX3_worstCrest_18 ?_
            refine ra_top (nI (ct 2)) rfl ?_
            refine lv_if_le (tgt := 56) hx hb dX3_worstCrest_19 (by decide) (fun c_19_3 => ?_) (fun c_19_3 => ?_)
            · ---- to 56
              have n_19_3 := (nq_le (ct 2) 0 (by omega) (by omega)).mp c_19_3
              refine lv_iinc (v := 3) (lv' := [(3, .int 3), (2, .int 99), (0, .ref q0), (1, .int fo)]) hx hb dX3_worstCrest_56 hl (k := 0) rfl (by decide) (by decide) rfl (fun ls hl => ?_)
              refine lv_goto (tgt := 5) hx hb dX3_worstCrest_59 (by decide) ?_
              refine lv_iload_n hx hb dX3_worstCrest_5 rfl (lv_at hl 0 rfl) ?_
              refine lv_iconst (v := 3) hx hb dX3_worstCrest_6 (by decide) ?_
              refine lv_icmp_ge (tgt := 62) hx hb dX3_worstCrest_7 (by decide) (fun c_7_4 => ?_) (fun c_7_4 => ?_)
              · ---- to 62
                refine lv_iload_n hx hb dX3_worstCrest_62 rfl (lv_at hl 1 rfl) ?_
                rw [hQ]
                exact ra_iretW (tn, th, tg, tf, tk, ts, tb, td) hx hb hr hlocks rfl hK hP hD hS (Eq.symm ((wSt_0 (ct := ct) (cr := crW phc psc nuc n fz ct kd vl fh fg ff fk vs vb fp) (fl := flW phc psc nuc n fz ct kd vl fh fg ff fk vs vb fp) (fo := fo) (w := 0) n_19).trans ((wSt_0 (ct := ct) (cr := crW phc psc nuc n fz ct kd vl fh fg ff fk vs vb fp) (fl := flW phc psc nuc n fz ct kd vl fh fg ff fk vs vb fp) (fo := fo) (w := 1) n_19_2).trans (wSt_0 (ct := ct) (cr := crW phc psc nuc n fz ct kd vl fh fg ff fk vs vb fp) (fl := flW phc psc nuc n fz ct kd vl fh fg ff fk vs vb fp) (fo := fo) (w := 2) n_19_3)))) dX3_worstCrest_63
              · ---- on
                exact absurd c_7_4 (by decide)
            · ---- on
              have n_19_3 := (nq_le_n (ct 2) 0 (by omega) (by omega)).mp c_19_3
              refine lv_aload_n hx hb dX3_worstCrest_22 rfl (lv_at hl 2 rfl) ?_
              refine lv_iload_n hx hb dX3_worstCrest_23 rfl (lv_at hl 0 rfl) ?_
              refine ra_cV (q := (RX3, TX3, 8)) (ci := 3) (As := [.int 2]) (rest := []) (wc := [ob q0 3 [.ref a0, .ref t0, .ref z0, .int isv, .ref d0, .ref e0, .int fz, .ref g0], ob a0 0 [.int (nI n), .ref a1, .ref a2, .ref a3, .ref a4, .int vs, .int vb, .int vd], ai a1 cyI 7 fh, ai a2 cyI 7 fg, ai a3 cyI 7 ff, ai a4 cyI 7 fk, ob t0 0 [.int (nI tn), .ref t1, .ref t2, .ref t3, .ref t4, .int ts, .int tb, .int td], ai t1 cyI 7 th, ai t2 cyI 7 tg, ai t3 cyI 7 tf, ai t4 cyI 7 tk, ob d0 2 [.ref d1, .ref d2, .ref d3], ai d1 cyI 3 (nF ct), aa d2 cyA 3 (r3 k0 k1 k2), aa d3 cyA 3 (r3 v0 v1 v2), ai k2 cyI 12 (kd 2), ai v2 cyI 12 (vl 2), ai g0 cyI 3 fp]) (wr := [ai k0 cyI 12 (kd 0), ai k1 cyI 12 (kd 1), ai v0 cyI 12 (vl 0), ai v1 cyI 12 (vl 1)]) ⟨hx, hb, hml, hown, hts⟩ (c_X3_play l dC dI cyI cyA q0 z0 e0 g0 isv fz a0 a1 a2 a3 a4 n fh fg ff fk vs vb vd t0 t1 t2 t3 t4 tn th tg tf tk ts tb td d0 d1 d2 d3 ct (r3 k0 k1 k2) (r3 v0 v1 v2) 2 k2 v2 (kd 2) (vl 2) fp (by omega) (by omega) (by omega) rfl rfl H.size) (cwV 1 hts gX3_worstCrest_X3_play rfl rfl rfl (by decide +kernel) ⟨Nat.le_of_ble_eq_true rfl, Nat.le_of_ble_eq_true rfl⟩) hK hN hP hD hA hS [0, 1, 2, 3, 4, 5, 6, 7, 8, 9, 10, 11, 12, 13, 14, 17, 20, 21] [15, 16, 18, 19] rfl rfl (by decide) (by decide) (by decide) rfl rfl rfl hl.1 rfl (Nat.le_of_ble_eq_true rfl) dX3_worstCrest_24 ⟨Nat.le_of_ble_eq_true rfl, Nat.le_of_ble_eq_true rfl⟩ (fun u_1 hw_c1 H locs hP hD hS => ?_)
              have hP : va_P (dC, dI) vwCl [ai k0 cyI 12 (kd 0), ai k1 cyI 12 (kd 1), ai v0 cyI 12 (vl 0), ai v1 cyI 12 (vl 1), ob q0 3 [.ref a0, .ref t0, .ref z0, .int isv, .ref d0, .ref e0, .int fz, .ref g0], ob a0 0 [.int (nI n), .ref a1, .ref a2, .ref a3, .ref a4, .int vs, .int vb, .int vd], ai a1 cyI 7 fh, ai a2 cyI 7 fg, ai a3 cyI 7 ff, ai a4 cyI 7 fk, ob t0 0 [.int (nI n), .ref t1, .ref t2, .ref t3, .ref t4, .int ((pl phc psc nuc n fp fz (kd 2) (vl 2) (ct 2) 0 0 fh fg (bgY n ff fp fz 0) fk vs vb 0).2.2.2.2.1), .int ((pl phc psc nuc n fp fz (kd 2) (vl 2) (ct 2) 0 0 fh fg (bgY n ff fp fz 0) fk vs vb 0).2.2.2.2.2.1), .int ((pl phc psc nuc n fp fz (kd 2) (vl 2) (ct 2) 0 0 fh fg (bgY n ff fp fz 0) fk vs vb 0).2.2.2.2.2.2)], ai t1 cyI 7 ((pl phc psc nuc n fp fz (kd 2) (vl 2) (ct 2) 0 0 fh fg (bgY n ff fp fz 0) fk vs vb 0).1), ai t2 cyI 7 ((pl phc psc nuc n fp fz (kd 2) (vl 2) (ct 2) 0 0 fh fg (bgY n ff fp fz 0) fk vs vb 0).2.1), ai t3 cyI 7 ((pl phc psc nuc n fp fz (kd 2) (vl 2) (ct 2) 0 0 fh fg (bgY n ff fp fz 0) fk vs vb 0).2.2.1), ai t4 cyI 7 ((pl phc psc nuc n fp fz (kd 2) (vl 2) (ct 2) 0 0 fh fg (bgY n ff fp fz 0) fk vs vb 0).2.2.2.1), ob d0 2 [.ref d1, .ref d2, .ref d3], ai d1 cyI 3 (nF ct), aa d2 cyA 3 (r3 k0 k1 k2), aa d3 cyA 3 (r3 v0 v1 v2), ai k2 cyI 12 (kd 2), ai v2 cyI 12 (vl 2), ai g0 cyI 3 fp] H := hP
              have hD : va_D A [ai k0 cyI 12 (kd 0), ai k1 cyI 12 (kd 1), ai v0 cyI 12 (vl 0), ai v1 cyI 12 (vl 1), ob q0 3 [.ref a0, .ref t0, .ref z0, .int isv, .ref d0, .ref e0, .int fz, .ref g0], ob a0 0 [.int (nI n), .ref a1, .ref a2, .ref a3, .ref a4, .int vs, .int vb, .int vd], ai a1 cyI 7 fh, ai a2 cyI 7 fg, ai a3 cyI 7 ff, ai a4 cyI 7 fk, ob t0 0 [.int (nI n), .ref t1, .ref t2, .ref t3, .ref t4, .int ((pl phc psc nuc n fp fz (kd 2) (vl 2) (ct 2) 0 0 fh fg (bgY n ff fp fz 0) fk vs vb 0).2.2.2.2.1), .int ((pl phc psc nuc n fp fz (kd 2) (vl 2) (ct 2) 0 0 fh fg (bgY n ff fp fz 0) fk vs vb 0).2.2.2.2.2.1), .int ((pl phc psc nuc n fp fz (kd 2) (vl 2) (ct 2) 0 0 fh fg (bgY n ff fp fz 0) fk vs vb 0).2.2.2.2.2.2)], ai t1 cyI 7 ((pl phc psc nuc n fp fz (kd 2) (vl 2) (ct 2) 0 0 fh fg (bgY n ff fp fz 0) fk vs vb 0).1), ai t2 cyI 7 ((pl phc psc nuc n fp fz (kd 2) (vl 2) (ct 2) 0 0 fh fg (bgY n ff fp fz 0) fk vs vb 0).2.1), ai t3 cyI 7 ((pl phc psc nuc n fp fz (kd 2) (vl 2) (ct 2) 0 0 fh fg (bgY n ff fp fz 0) fk vs vb 0).2.2.1), ai t4 cyI 7 ((pl phc psc nuc n fp fz (kd 2) (vl 2) (ct 2) 0 0 fh fg (bgY n ff fp fz 0) fk vs vb 0).2.2.2.1), ob d0 2 [.ref d1, .ref d2, .ref d3], ai d1 cyI 3 (nF ct), aa d2 cyA 3 (r3 k0 k1 k2), aa d3 cyA 3 (r3 v0 v1 v2), ai k2 cyI 12 (kd 2), ai v2 cyI 12 (vl 2), ai g0 cyI 3 fp] := hD
              refine lv_iload_n hx hb dX3_worstCrest_27 rfl (lv_at hl 1 rfl) ?_
              refine lv_aload_n hx hb dX3_worstCrest_28 rfl (lv_at hl 2 rfl) ?_
              refine va_get (D := (dC, dI)) (ci := 3) (v := .ref t0) (C := RX3) (T := TX3) (N := 8) hx hb hts hin_X3 hown hK hP 4 rfl rfl 1 (by decide) hw_5 (fun _ h9 => h9) rfl dX3_worstCrest_29 ?_
              refine ra_cR (q := (RX0, TX0, 8)) (ci := 0) (As := []) (rest := [.int 99]) (wc := [ob t0 0 [.int (nI n), .ref t1, .ref t2, .ref t3, .ref t4, .int ((pl phc psc nuc n fp fz (kd 2) (vl 2) (ct 2) 0 0 fh fg (bgY n ff fp fz 0) fk vs vb 0).2.2.2.2.1), .int ((pl phc psc nuc n fp fz (kd 2) (vl 2) (ct 2) 0 0 fh fg (bgY n ff fp fz 0) fk vs vb 0).2.2.2.2.2.1), .int ((pl phc psc nuc n fp fz (kd 2) (vl 2) (ct 2) 0 0 fh fg (bgY n ff fp fz 0) fk vs vb 0).2.2.2.2.2.2)], ai t1 cyI 7 ((pl phc psc nuc n fp fz (kd 2) (vl 2) (ct 2) 0 0 fh fg (bgY n ff fp fz 0) fk vs vb 0).1), ai t2 cyI 7 ((pl phc psc nuc n fp fz (kd 2) (vl 2) (ct 2) 0 0 fh fg (bgY n ff fp fz 0) fk vs vb 0).2.1), ai t3 cyI 7 ((pl phc psc nuc n fp fz (kd 2) (vl 2) (ct 2) 0 0 fh fg (bgY n ff fp fz 0) fk vs vb 0).2.2.1), ai t4 cyI 7 ((pl phc psc nuc n fp fz (kd 2) (vl 2) (ct 2) 0 0 fh fg (bgY n ff fp fz 0) fk vs vb 0).2.2.2.1)]) ⟨hx, hb, hml, hown, hts⟩ (c_X0_greatestHeight l dC dI cyI cyA t0 t1 t2 t3 t4 n ((pl phc psc nuc n fp fz (kd 2) (vl 2) (ct 2) 0 0 fh fg (bgY n ff fp fz 0) fk vs vb 0).1) ((pl phc psc nuc n fp fz (kd 2) (vl 2) (ct 2) 0 0 fh fg (bgY n ff fp fz 0) fk vs vb 0).2.1) ((pl phc psc nuc n fp fz (kd 2) (vl 2) (ct 2) 0 0 fh fg (bgY n ff fp fz 0) fk vs vb 0).2.2.1) ((pl phc psc nuc n fp fz (kd 2) (vl 2) (ct 2) 0 0 fh fg (bgY n ff fp fz 0) fk vs vb 0).2.2.2.1) ((pl phc psc nuc n fp fz (kd 2) (vl 2) (ct 2) 0 0 fh fg (bgY n ff fp fz 0) fk vs vb 0).2.2.2.2.1) ((pl phc psc nuc n fp fz (kd 2) (vl 2) (ct 2) 0 0 fh fg (bgY n ff fp fz 0) fk vs vb 0).2.2.2.2.2.1) ((pl phc psc nuc n fp fz (kd 2) (vl 2) (ct 2) 0 0 fh fg (bgY n ff fp fz 0) fk vs vb 0).2.2.2.2.2.2) (by omega)) (cwV 0 hts gX3_worstCrest_X0_greatestHeight rfl rfl rfl (by decide +kernel) ⟨Nat.le_of_ble_eq_true rfl, Nat.le_of_ble_eq_true rfl⟩) hK hN hP [10, 11, 12, 13, 14] rfl rfl rfl rfl hl.1 rfl (Nat.le_of_ble_eq_true rfl) dX3_worstCrest_32 ⟨Nat.le_of_ble_eq_true rfl, Nat.le_of_ble_eq_true rfl⟩ ?_
              refine va_mmin hx hb (hml.trans hl.1.symm) hown hw_6 hw_7 hw_8 hw_9 (Nat.le_of_ble_eq_true rfl) (Nat.le_of_ble_eq_true rfl) (Nat.le_of_ble_eq_true rfl) (Nat.le_of_ble_eq_true rfl) dX3_worstCrest_35 ?_
              refine ra_top (jmin 99 (gMax ((pl phc psc nuc n fp fz (kd 2) (vl 2) (ct 2) 0 0 fh fg (bgY n ff fp fz 0) fk vs vb 0).1) n 0 0)) rfl ?_
              refine lv_istore_n (lv' := [(2, .int (jmin 99 (gMax ((pl phc psc nuc n fp fz (kd 2) (vl 2) (ct 2) 0 0 fh fg (bgY n ff fp fz 0) fk vs vb 0).1) n 0 0))), (3, .int 2), (0, .ref q0), (1, .int fo)]) hx hb dX3_worstCrest_38 rfl hl (by decide) rfl (fun ls hl => ?_)
              refine lv_aload_n hx hb dX3_worstCrest_39 rfl (lv_at hl 2 rfl) ?_
              refine va_get (D := (dC, dI)) (ci := 3) (v := .ref t0) (C := RX3) (T := TX3) (N := 8) hx hb hts hin_X3 hown hK hP 4 rfl rfl 1 (by decide) hw_5 (fun _ h9 => h9) rfl dX3_worstCrest_40 ?_
              refine va_get (D := (dC, dI)) (ci := 0) (v := .int ((pl phc psc nuc n fp fz (kd 2) (vl 2) (ct 2) 0 0 fh fg (bgY n ff fp fz 0) fk vs vb 0).2.2.2.2.2.2)) (C := RX0) (T := TX0) (N := 8) hx hb hts hin_X0 hown hK hP 10 rfl rfl 7 (by decide) hw_10 (fun _ h9 => h9) rfl dX3_worstCrest_43 ?_
              refine lv_if_gt (tgt := 54) hx hb dX3_worstCrest_46 (by decide) (fun c_46 => ?_) (fun c_46 => ?_)
              · ---- to 54
                refine lv_iconst (v := (-1)) hx hb dX3_worstCrest_54 (by decide) ?_
                rw [hQ]
                exact ra_iretW (n, (pl phc psc nuc n fp fz (kd 2) (vl 2) (ct 2) 0 0 fh fg (bgY n ff fp fz 0) fk vs vb 0).1, (pl phc psc nuc n fp fz (kd 2) (vl 2) (ct 2) 0 0 fh fg (bgY n ff fp fz 0) fk vs vb 0).2.1, (pl phc psc nuc n fp fz (kd 2) (vl 2) (ct 2) 0 0 fh fg (bgY n ff fp fz 0) fk vs vb 0).2.2.1, (pl phc psc nuc n fp fz (kd 2) (vl 2) (ct 2) 0 0 fh fg (bgY n ff fp fz 0) fk vs vb 0).2.2.2.1, (pl phc psc nuc n fp fz (kd 2) (vl 2) (ct 2) 0 0 fh fg (bgY n ff fp fz 0) fk vs vb 0).2.2.2.2.1, (pl phc psc nuc n fp fz (kd 2) (vl 2) (ct 2) 0 0 fh fg (bgY n ff fp fz 0) fk vs vb 0).2.2.2.2.2.1, (pl phc psc nuc n fp fz (kd 2) (vl 2) (ct 2) 0 0 fh fg (bgY n ff fp fz 0) fk vs vb 0).2.2.2.2.2.2) hx hb hr hlocks rfl hK (hP.sub [4, 5, 6, 7, 8, 9, 10, 11, 12, 13, 14, 15, 16, 17, 18, 0, 1, 19, 2, 3, 20, 21] rfl) (hD.sub [4, 5, 6, 7, 8, 9, 10, 11, 12, 13, 14, 15, 16, 17, 18, 0, 1, 19, 2, 3, 20, 21] (by decide) rfl) hS (Eq.symm ((wSt_0 (ct := ct) (cr := crW phc psc nuc n fz ct kd vl fh fg ff fk vs vb fp) (fl := flW phc psc nuc n fz ct kd vl fh fg ff fk vs vb fp) (fo := fo) (w := 0) n_19).trans ((wSt_0 (ct := ct) (cr := crW phc psc nuc n fz ct kd vl fh fg ff fk vs vb fp) (fl := flW phc psc nuc n fz ct kd vl fh fg ff fk vs vb fp) (fo := fo) (w := 1) n_19_2).trans (wSt_f (ct := ct) (cr := crW phc psc nuc n fz ct kd vl fh fg ff fk vs vb fp) (fl := flW phc psc nuc n fz ct kd vl fh fg ff fk vs vb fp) (fo := fo) (w := 2) n_19_3 c_46)))) dX3_worstCrest_55
              · ---- on
                refine lv_iload_n hx hb dX3_worstCrest_49 rfl (lv_at hl 0 rfl) ?_
                refine lv_iload_n hx hb dX3_worstCrest_50 rfl (lv_at hl 3 rfl) ?_
                refine lv_icmp_ge (tgt := 56) hx hb dX3_worstCrest_51 (by decide) (fun c_51 => ?_) (fun c_51 => ?_)
                · ---- to 56
                  refine lv_iinc (v := 3) (lv' := [(3, .int 3), (2, .int (jmin 99 (gMax ((pl phc psc nuc n fp fz (kd 2) (vl 2) (ct 2) 0 0 fh fg (bgY n ff fp fz 0) fk vs vb 0).1) n 0 0))), (0, .ref q0), (1, .int fo)]) hx hb dX3_worstCrest_56 hl (k := 1) rfl (by decide) (by decide) rfl (fun ls hl => ?_)
                  refine lv_goto (tgt := 5) hx hb dX3_worstCrest_59 (by decide) ?_
                  refine lv_iload_n hx hb dX3_worstCrest_5 rfl (lv_at hl 0 rfl) ?_
                  refine lv_iconst (v := 3) hx hb dX3_worstCrest_6 (by decide) ?_
                  refine lv_icmp_ge (tgt := 62) hx hb dX3_worstCrest_7 (by decide) (fun c_7_4 => ?_) (fun c_7_4 => ?_)
                  · ---- to 62
                    refine lv_iload_n hx hb dX3_worstCrest_62 rfl (lv_at hl 1 rfl) ?_
                    rw [hQ]
                    exact ra_iretW (n, (pl phc psc nuc n fp fz (kd 2) (vl 2) (ct 2) 0 0 fh fg (bgY n ff fp fz 0) fk vs vb 0).1, (pl phc psc nuc n fp fz (kd 2) (vl 2) (ct 2) 0 0 fh fg (bgY n ff fp fz 0) fk vs vb 0).2.1, (pl phc psc nuc n fp fz (kd 2) (vl 2) (ct 2) 0 0 fh fg (bgY n ff fp fz 0) fk vs vb 0).2.2.1, (pl phc psc nuc n fp fz (kd 2) (vl 2) (ct 2) 0 0 fh fg (bgY n ff fp fz 0) fk vs vb 0).2.2.2.1, (pl phc psc nuc n fp fz (kd 2) (vl 2) (ct 2) 0 0 fh fg (bgY n ff fp fz 0) fk vs vb 0).2.2.2.2.1, (pl phc psc nuc n fp fz (kd 2) (vl 2) (ct 2) 0 0 fh fg (bgY n ff fp fz 0) fk vs vb 0).2.2.2.2.2.1, (pl phc psc nuc n fp fz (kd 2) (vl 2) (ct 2) 0 0 fh fg (bgY n ff fp fz 0) fk vs vb 0).2.2.2.2.2.2) hx hb hr hlocks rfl hK (hP.sub [4, 5, 6, 7, 8, 9, 10, 11, 12, 13, 14, 15, 16, 17, 18, 0, 1, 19, 2, 3, 20, 21] rfl) (hD.sub [4, 5, 6, 7, 8, 9, 10, 11, 12, 13, 14, 15, 16, 17, 18, 0, 1, 19, 2, 3, 20, 21] (by decide) rfl) hS (Eq.symm ((wSt_0 (ct := ct) (cr := crW phc psc nuc n fz ct kd vl fh fg ff fk vs vb fp) (fl := flW phc psc nuc n fz ct kd vl fh fg ff fk vs vb fp) (fo := fo) (w := 0) n_19).trans ((wSt_0 (ct := ct) (cr := crW phc psc nuc n fz ct kd vl fh fg ff fk vs vb fp) (fl := flW phc psc nuc n fz ct kd vl fh fg ff fk vs vb fp) (fo := fo) (w := 1) n_19_2).trans (wSt_k (ct := ct) (cr := crW phc psc nuc n fz ct kd vl fh fg ff fk vs vb fp) (fl := flW phc psc nuc n fz ct kd vl fh fg ff fk vs vb fp) (fo := fo) (w := 2) n_19_3 c_46 c_51)))) dX3_worstCrest_63
                  · ---- on
                    exact absurd c_7_4 (by decide)
                · ---- on
                  refine lv_iconst (v := (-1)) hx hb dX3_worstCrest_54 (by decide) ?_
                  rw [hQ]
                  exact ra_iretW (n, (pl phc psc nuc n fp fz (kd 2) (vl 2) (ct 2) 0 0 fh fg (bgY n ff fp fz 0) fk vs vb 0).1, (pl phc psc nuc n fp fz (kd 2) (vl 2) (ct 2) 0 0 fh fg (bgY n ff fp fz 0) fk vs vb 0).2.1, (pl phc psc nuc n fp fz (kd 2) (vl 2) (ct 2) 0 0 fh fg (bgY n ff fp fz 0) fk vs vb 0).2.2.1, (pl phc psc nuc n fp fz (kd 2) (vl 2) (ct 2) 0 0 fh fg (bgY n ff fp fz 0) fk vs vb 0).2.2.2.1, (pl phc psc nuc n fp fz (kd 2) (vl 2) (ct 2) 0 0 fh fg (bgY n ff fp fz 0) fk vs vb 0).2.2.2.2.1, (pl phc psc nuc n fp fz (kd 2) (vl 2) (ct 2) 0 0 fh fg (bgY n ff fp fz 0) fk vs vb 0).2.2.2.2.2.1, (pl phc psc nuc n fp fz (kd 2) (vl 2) (ct 2) 0 0 fh fg (bgY n ff fp fz 0) fk vs vb 0).2.2.2.2.2.2) hx hb hr hlocks rfl hK (hP.sub [4, 5, 6, 7, 8, 9, 10, 11, 12, 13, 14, 15, 16, 17, 18, 0, 1, 19, 2, 3, 20, 21] rfl) (hD.sub [4, 5, 6, 7, 8, 9, 10, 11, 12, 13, 14, 15, 16, 17, 18, 0, 1, 19, 2, 3, 20, 21] (by decide) rfl) hS (Eq.symm ((wSt_0 (ct := ct) (cr := crW phc psc nuc n fz ct kd vl fh fg ff fk vs vb fp) (fl := flW phc psc nuc n fz ct kd vl fh fg ff fk vs vb fp) (fo := fo) (w := 0) n_19).trans ((wSt_0 (ct := ct) (cr := crW phc psc nuc n fz ct kd vl fh fg ff fk vs vb fp) (fl := flW phc psc nuc n fz ct kd vl fh fg ff fk vs vb fp) (fo := fo) (w := 1) n_19_2).trans (wSt_l (ct := ct) (cr := crW phc psc nuc n fz ct kd vl fh fg ff fk vs vb fp) (fl := flW phc psc nuc n fz ct kd vl fh fg ff fk vs vb fp) (fo := fo) (w := 2) n_19_3 c_46 c_51)))) dX3_worstCrest_55
        · ---- on
          have n_19_2 := (nq_le_n (ct 1) 0 (by omega) (by omega)).mp c_19_2
          refine lv_aload_n hx hb dX3_worstCrest_22 rfl (lv_at hl 2 rfl) ?_
          refine lv_iload_n hx hb dX3_worstCrest_23 rfl (lv_at hl 0 rfl) ?_
          refine ra_cV (q := (RX3, TX3, 8)) (ci := 3) (As := [.int 1]) (rest := []) (wc := [ob q0 3 [.ref a0, .ref t0, .ref z0, .int isv, .ref d0, .ref e0, .int fz, .ref g0], ob a0 0 [.int (nI n), .ref a1, .ref a2, .ref a3, .ref a4, .int vs, .int vb, .int vd], ai a1 cyI 7 fh, ai a2 cyI 7 fg, ai a3 cyI 7 ff, ai a4 cyI 7 fk, ob t0 0 [.int (nI tn), .ref t1, .ref t2, .ref t3, .ref t4, .int ts, .int tb, .int td], ai t1 cyI 7 th, ai t2 cyI 7 tg, ai t3 cyI 7 tf, ai t4 cyI 7 tk, ob d0 2 [.ref d1, .ref d2, .ref d3], ai d1 cyI 3 (nF ct), aa d2 cyA 3 (r3 k0 k1 k2), aa d3 cyA 3 (r3 v0 v1 v2), ai k1 cyI 12 (kd 1), ai v1 cyI 12 (vl 1), ai g0 cyI 3 fp]) (wr := [ai k0 cyI 12 (kd 0), ai k2 cyI 12 (kd 2), ai v0 cyI 12 (vl 0), ai v2 cyI 12 (vl 2)]) ⟨hx, hb, hml, hown, hts⟩ (c_X3_play l dC dI cyI cyA q0 z0 e0 g0 isv fz a0 a1 a2 a3 a4 n fh fg ff fk vs vb vd t0 t1 t2 t3 t4 tn th tg tf tk ts tb td d0 d1 d2 d3 ct (r3 k0 k1 k2) (r3 v0 v1 v2) 1 k1 v1 (kd 1) (vl 1) fp (by omega) (by omega) (by omega) rfl rfl H.size) (cwV 1 hts gX3_worstCrest_X3_play rfl rfl rfl (by decide +kernel) ⟨Nat.le_of_ble_eq_true rfl, Nat.le_of_ble_eq_true rfl⟩) hK hN hP hD hA hS [0, 1, 2, 3, 4, 5, 6, 7, 8, 9, 10, 11, 12, 13, 14, 16, 19, 21] [15, 17, 18, 20] rfl rfl (by decide) (by decide) (by decide) rfl rfl rfl hl.1 rfl (Nat.le_of_ble_eq_true rfl) dX3_worstCrest_24 ⟨Nat.le_of_ble_eq_true rfl, Nat.le_of_ble_eq_true rfl⟩ (fun u_2 hw_c2 H locs hP hD hS => ?_)
          have hP : va_P (dC, dI) vwCl [ai k0 cyI 12 (kd 0), ai k2 cyI 12 (kd 2), ai v0 cyI 12 (vl 0), ai v2 cyI 12 (vl 2), ob q0 3 [.ref a0, .ref t0, .ref z0, .int isv, .ref d0, .ref e0, .int fz, .ref g0], ob a0 0 [.int (nI n), .ref a1, .ref a2, .ref a3, .ref a4, .int vs, .int vb, .int vd], ai a1 cyI 7 fh, ai a2 cyI 7 fg, ai a3 cyI 7 ff, ai a4 cyI 7 fk, ob t0 0 [.int (nI n), .ref t1, .ref t2, .ref t3, .ref t4, .int ((pl phc psc nuc n fp fz (kd 1) (vl 1) (ct 1) 0 0 fh fg (bgY n ff fp fz 0) fk vs vb 0).2.2.2.2.1), .int ((pl phc psc nuc n fp fz (kd 1) (vl 1) (ct 1) 0 0 fh fg (bgY n ff fp fz 0) fk vs vb 0).2.2.2.2.2.1), .int ((pl phc psc nuc n fp fz (kd 1) (vl 1) (ct 1) 0 0 fh fg (bgY n ff fp fz 0) fk vs vb 0).2.2.2.2.2.2)], ai t1 cyI 7 ((pl phc psc nuc n fp fz (kd 1) (vl 1) (ct 1) 0 0 fh fg (bgY n ff fp fz 0) fk vs vb 0).1), ai t2 cyI 7 ((pl phc psc nuc n fp fz (kd 1) (vl 1) (ct 1) 0 0 fh fg (bgY n ff fp fz 0) fk vs vb 0).2.1), ai t3 cyI 7 ((pl phc psc nuc n fp fz (kd 1) (vl 1) (ct 1) 0 0 fh fg (bgY n ff fp fz 0) fk vs vb 0).2.2.1), ai t4 cyI 7 ((pl phc psc nuc n fp fz (kd 1) (vl 1) (ct 1) 0 0 fh fg (bgY n ff fp fz 0) fk vs vb 0).2.2.2.1), ob d0 2 [.ref d1, .ref d2, .ref d3], ai d1 cyI 3 (nF ct), aa d2 cyA 3 (r3 k0 k1 k2), aa d3 cyA 3 (r3 v0 v1 v2), ai k1 cyI 12 (kd 1), ai v1 cyI 12 (vl 1), ai g0 cyI 3 fp] H := hP
          have hD : va_D A [ai k0 cyI 12 (kd 0), ai k2 cyI 12 (kd 2), ai v0 cyI 12 (vl 0), ai v2 cyI 12 (vl 2), ob q0 3 [.ref a0, .ref t0, .ref z0, .int isv, .ref d0, .ref e0, .int fz, .ref g0], ob a0 0 [.int (nI n), .ref a1, .ref a2, .ref a3, .ref a4, .int vs, .int vb, .int vd], ai a1 cyI 7 fh, ai a2 cyI 7 fg, ai a3 cyI 7 ff, ai a4 cyI 7 fk, ob t0 0 [.int (nI n), .ref t1, .ref t2, .ref t3, .ref t4, .int ((pl phc psc nuc n fp fz (kd 1) (vl 1) (ct 1) 0 0 fh fg (bgY n ff fp fz 0) fk vs vb 0).2.2.2.2.1), .int ((pl phc psc nuc n fp fz (kd 1) (vl 1) (ct 1) 0 0 fh fg (bgY n ff fp fz 0) fk vs vb 0).2.2.2.2.2.1), .int ((pl phc psc nuc n fp fz (kd 1) (vl 1) (ct 1) 0 0 fh fg (bgY n ff fp fz 0) fk vs vb 0).2.2.2.2.2.2)], ai t1 cyI 7 ((pl phc psc nuc n fp fz (kd 1) (vl 1) (ct 1) 0 0 fh fg (bgY n ff fp fz 0) fk vs vb 0).1), ai t2 cyI 7 ((pl phc psc nuc n fp fz (kd 1) (vl 1) (ct 1) 0 0 fh fg (bgY n ff fp fz 0) fk vs vb 0).2.1), ai t3 cyI 7 ((pl phc psc nuc n fp fz (kd 1) (vl 1) (ct 1) 0 0 fh fg (bgY n ff fp fz 0) fk vs vb 0).2.2.1), ai t4 cyI 7 ((pl phc psc nuc n fp fz (kd 1) (vl 1) (ct 1) 0 0 fh fg (bgY n ff fp fz 0) fk vs vb 0).2.2.2.1), ob d0 2 [.ref d1, .ref d2, .ref d3], ai d1 cyI 3 (nF ct), aa d2 cyA 3 (r3 k0 k1 k2), aa d3 cyA 3 (r3 v0 v1 v2), ai k1 cyI 12 (kd 1), ai v1 cyI 12 (vl 1), ai g0 cyI 3 fp] := hD
          refine lv_iload_n hx hb dX3_worstCrest_27 rfl (lv_at hl 1 rfl) ?_
          refine lv_aload_n hx hb dX3_worstCrest_28 rfl (lv_at hl 2 rfl) ?_
          refine va_get (D := (dC, dI)) (ci := 3) (v := .ref t0) (C := RX3) (T := TX3) (N := 8) hx hb hts hin_X3 hown hK hP 4 rfl rfl 1 (by decide) hw_5 (fun _ h9 => h9) rfl dX3_worstCrest_29 ?_
          refine ra_cR (q := (RX0, TX0, 8)) (ci := 0) (As := []) (rest := [.int 99]) (wc := [ob t0 0 [.int (nI n), .ref t1, .ref t2, .ref t3, .ref t4, .int ((pl phc psc nuc n fp fz (kd 1) (vl 1) (ct 1) 0 0 fh fg (bgY n ff fp fz 0) fk vs vb 0).2.2.2.2.1), .int ((pl phc psc nuc n fp fz (kd 1) (vl 1) (ct 1) 0 0 fh fg (bgY n ff fp fz 0) fk vs vb 0).2.2.2.2.2.1), .int ((pl phc psc nuc n fp fz (kd 1) (vl 1) (ct 1) 0 0 fh fg (bgY n ff fp fz 0) fk vs vb 0).2.2.2.2.2.2)], ai t1 cyI 7 ((pl phc psc nuc n fp fz (kd 1) (vl 1) (ct 1) 0 0 fh fg (bgY n ff fp fz 0) fk vs vb 0).1), ai t2 cyI 7 ((pl phc psc nuc n fp fz (kd 1) (vl 1) (ct 1) 0 0 fh fg (bgY n ff fp fz 0) fk vs vb 0).2.1), ai t3 cyI 7 ((pl phc psc nuc n fp fz (kd 1) (vl 1) (ct 1) 0 0 fh fg (bgY n ff fp fz 0) fk vs vb 0).2.2.1), ai t4 cyI 7 ((pl phc psc nuc n fp fz (kd 1) (vl 1) (ct 1) 0 0 fh fg (bgY n ff fp fz 0) fk vs vb 0).2.2.2.1)]) ⟨hx, hb, hml, hown, hts⟩ (c_X0_greatestHeight l dC dI cyI cyA t0 t1 t2 t3 t4 n ((pl phc psc nuc n fp fz (kd 1) (vl 1) (ct 1) 0 0 fh fg (bgY n ff fp fz 0) fk vs vb 0).1) ((pl phc psc nuc n fp fz (kd 1) (vl 1) (ct 1) 0 0 fh fg (bgY n ff fp fz 0) fk vs vb 0).2.1) ((pl phc psc nuc n fp fz (kd 1) (vl 1) (ct 1) 0 0 fh fg (bgY n ff fp fz 0) fk vs vb 0).2.2.1) ((pl phc psc nuc n fp fz (kd 1) (vl 1) (ct 1) 0 0 fh fg (bgY n ff fp fz 0) fk vs vb 0).2.2.2.1) ((pl phc psc nuc n fp fz (kd 1) (vl 1) (ct 1) 0 0 fh fg (bgY n ff fp fz 0) fk vs vb 0).2.2.2.2.1) ((pl phc psc nuc n fp fz (kd 1) (vl 1) (ct 1) 0 0 fh fg (bgY n ff fp fz 0) fk vs vb 0).2.2.2.2.2.1) ((pl phc psc nuc n fp fz (kd 1) (vl 1) (ct 1) 0 0 fh fg (bgY n ff fp fz 0) fk vs vb 0).2.2.2.2.2.2) (by omega)) (cwV 0 hts gX3_worstCrest_X0_greatestHeight rfl rfl rfl (by decide +kernel) ⟨Nat.le_of_ble_eq_true rfl, Nat.le_of_ble_eq_true rfl⟩) hK hN hP [10, 11, 12, 13, 14] rfl rfl rfl rfl hl.1 rfl (Nat.le_of_ble_eq_true rfl) dX3_worstCrest_32 ⟨Nat.le_of_ble_eq_true rfl, Nat.le_of_ble_eq_true rfl⟩ ?_
          refine va_mmin hx hb (hml.trans hl.1.symm) hown hw_6 hw_7 hw_8 hw_9 (Nat.le_of_ble_eq_true rfl) (Nat.le_of_ble_eq_true rfl) (Nat.le_of_ble_eq_true rfl) (Nat.le_of_ble_eq_true rfl) dX3_worstCrest_35 ?_
          refine ra_top (jmin 99 (gMax ((pl phc psc nuc n fp fz (kd 1) (vl 1) (ct 1) 0 0 fh fg (bgY n ff fp fz 0) fk vs vb 0).1) n 0 0)) rfl ?_
          refine lv_istore_n (lv' := [(2, .int (jmin 99 (gMax ((pl phc psc nuc n fp fz (kd 1) (vl 1) (ct 1) 0 0 fh fg (bgY n ff fp fz 0) fk vs vb 0).1) n 0 0))), (3, .int 1), (0, .ref q0), (1, .int fo)]) hx hb dX3_worstCrest_38 rfl hl (by decide) rfl (fun ls hl => ?_)
          refine lv_aload_n hx hb dX3_worstCrest_39 rfl (lv_at hl 2 rfl) ?_
          refine va_get (D := (dC, dI)) (ci := 3) (v := .ref t0) (C := RX3) (T := TX3) (N := 8) hx hb hts hin_X3 hown hK hP 4 rfl rfl 1 (by decide) hw_5 (fun _ h9 => h9) rfl dX3_worstCrest_40 ?_
          refine va_get (D := (dC, dI)) (ci := 0) (v := .int ((pl phc psc nuc n fp fz (kd 1) (vl 1) (ct 1) 0 0 fh fg (bgY n ff fp fz 0) fk vs vb 0).2.2.2.2.2.2)) (C := RX0) (T := TX0) (N := 8) hx hb hts hin_X0 hown hK hP 10 rfl rfl 7 (by decide) hw_10 (fun _ h9 => h9) rfl dX3_worstCrest_43 ?_
          refine lv_if_gt (tgt := 54) hx hb dX3_worstCrest_46 (by decide) (fun c_46 => ?_) (fun c_46 => ?_)
          · ---- to 54
            refine lv_iconst (v := (-1)) hx hb dX3_worstCrest_54 (by decide) ?_
            rw [hQ]
            exact ra_iretW (n, (pl phc psc nuc n fp fz (kd 1) (vl 1) (ct 1) 0 0 fh fg (bgY n ff fp fz 0) fk vs vb 0).1, (pl phc psc nuc n fp fz (kd 1) (vl 1) (ct 1) 0 0 fh fg (bgY n ff fp fz 0) fk vs vb 0).2.1, (pl phc psc nuc n fp fz (kd 1) (vl 1) (ct 1) 0 0 fh fg (bgY n ff fp fz 0) fk vs vb 0).2.2.1, (pl phc psc nuc n fp fz (kd 1) (vl 1) (ct 1) 0 0 fh fg (bgY n ff fp fz 0) fk vs vb 0).2.2.2.1, (pl phc psc nuc n fp fz (kd 1) (vl 1) (ct 1) 0 0 fh fg (bgY n ff fp fz 0) fk vs vb 0).2.2.2.2.1, (pl phc psc nuc n fp fz (kd 1) (vl 1) (ct 1) 0 0 fh fg (bgY n ff fp fz 0) fk vs vb 0).2.2.2.2.2.1, (pl phc psc nuc n fp fz (kd 1) (vl 1) (ct 1) 0 0 fh fg (bgY n ff fp fz 0) fk vs vb 0).2.2.2.2.2.2) hx hb hr hlocks rfl hK (hP.sub [4, 5, 6, 7, 8, 9, 10, 11, 12, 13, 14, 15, 16, 17, 18, 0, 19, 1, 2, 20, 3, 21] rfl) (hD.sub [4, 5, 6, 7, 8, 9, 10, 11, 12, 13, 14, 15, 16, 17, 18, 0, 19, 1, 2, 20, 3, 21] (by decide) rfl) hS (Eq.symm ((wSt_0 (ct := ct) (cr := crW phc psc nuc n fz ct kd vl fh fg ff fk vs vb fp) (fl := flW phc psc nuc n fz ct kd vl fh fg ff fk vs vb fp) (fo := fo) (w := 0) n_19).trans (wSt_f (ct := ct) (cr := crW phc psc nuc n fz ct kd vl fh fg ff fk vs vb fp) (fl := flW phc psc nuc n fz ct kd vl fh fg ff fk vs vb fp) (fo := fo) (w := 1) n_19_2 c_46))) dX3_worstCrest_55
          · ---- on
            refine lv_iload_n hx hb dX3_worstCrest_49 rfl (lv_at hl 0 rfl) ?_
            refine lv_iload_n hx hb dX3_worstCrest_50 rfl (lv_at hl 3 rfl) ?_
            refine lv_icmp_ge (tgt := 56) hx hb dX3_worstCrest_51 (by decide) (fun c_51 => ?_) (fun c_51 => ?_)
            · ---- to 56
              refine lv_iinc (v := 2) (lv' := [(3, .int 2), (2, .int (jmin 99 (gMax ((pl phc psc nuc n fp fz (kd 1) (vl 1) (ct 1) 0 0 fh fg (bgY n ff fp fz 0) fk vs vb 0).1) n 0 0))), (0, .ref q0), (1, .int fo)]) hx hb dX3_worstCrest_56 hl (k := 1) rfl (by decide) (by decide) rfl (fun ls hl => ?_)
              refine lv_goto (tgt := 5) hx hb dX3_worstCrest_59 (by decide) ?_
              refine lv_iload_n hx hb dX3_worstCrest_5 rfl (lv_at hl 0 rfl) ?_
              refine lv_iconst (v := 3) hx hb dX3_worstCrest_6 (by decide) ?_
              refine lv_icmp_ge (tgt := 62) hx hb dX3_worstCrest_7 (by decide) (fun c_7_3 => ?_) (fun c_7_3 => ?_)
              · ---- to 62
                exact absurd c_7_3 (by decide)
              · ---- on
                refine lv_aload_n hx hb dX3_worstCrest_10 rfl (lv_at hl 2 rfl) ?_
                refine va_get (D := (dC, dI)) (ci := 3) (v := .ref d0) (C := RX3) (T := TX3) (N := 8) hx hb hts hin_X3 hown hK hP 4 rfl rfl 4 (by decide) hw_1 (fun _ h9 => h9) rfl dX3_worstCrest_11 ?_
                refine va_get (D := (dC, dI)) (ci := 2) (v := .ref d1) (C := RX2) (T := TX2) (N := 3) hx hb hts hin_X2 hown hK hP 15 rfl rfl 0 (by decide) hw_3 (fun _ h9 => h9) rfl dX3_worstCrest_14 ?_
                refine lv_iload_n hx hb dX3_worstCrest_17 rfl (lv_at hl 0 rfl) ?_
                refine ra_iald hx hb hK hP 16 rfl 2 rfl (by omega) (Nat.le_of_ble_eq_true rfl) dX3_worstCrest_18 ?_
                refine ra_top (nI (ct 2)) rfl ?_
                refine lv_if_le (tgt := 56) hx hb dX3_worstCrest_19 (by decide) (fun c_19_3 => ?_) (fun c_19_3 => ?_)
                · ---- to 56
                  have n_19_3 := (nq_le (ct 2) 0 (by omega) (by omega)).mp c_19_3
                  refine lv_iinc (v := 3) (lv' := [(3, .int 3), (2, .int (jmin 99 (gMax ((pl phc psc nuc n fp fz (kd 1) (vl 1) (ct 1) 0 0 fh fg (bgY n ff fp fz 0) fk vs vb 0).1) n 0 0))), (0, .ref q0), (1, .int fo)]) hx hb dX3_worstCrest_56 hl (k := 0) rfl (by decide) (by decide) rfl (fun ls hl => ?_)
                  refine lv_goto (tgt := 5) hx hb dX3_worstCrest_59 (by decide) ?_
                  refine lv_iload_n hx hb dX3_worstCrest_5 rfl (lv_at hl 0 rfl) ?_
                  refine lv_iconst (v := 3) hx hb dX3_worstCrest_6 (by decide) ?_
                  refine lv_icmp_ge (tgt := 62) hx hb dX3_worstCrest_7 (by decide) (fun c_7_4 => ?_) (fun c_7_4 => ?_)
                  · ---- to 62
                    refine lv_iload_n hx hb dX3_worstCrest_62 rfl (lv_at hl 1 rfl) ?_
                    rw [hQ]
                    exact ra_iretW (n, (pl phc psc nuc n fp fz (kd 1) (vl 1) (ct 1) 0 0 fh fg (bgY n ff fp fz 0) fk vs vb 0).1, (pl phc psc nuc n fp fz (kd 1) (vl 1) (ct 1) 0 0 fh fg (bgY n ff fp fz 0) fk vs vb 0).2.1, (pl phc psc nuc n fp fz (kd 1) (vl 1) (ct 1) 0 0 fh fg (bgY n ff fp fz 0) fk vs vb 0).2.2.1, (pl phc psc nuc n fp fz (kd 1) (vl 1) (ct 1) 0 0 fh fg (bgY n ff fp fz 0) fk vs vb 0).2.2.2.1, (pl phc psc nuc n fp fz (kd 1) (vl 1) (ct 1) 0 0 fh fg (bgY n ff fp fz 0) fk vs vb 0).2.2.2.2.1, (pl phc psc nuc n fp fz (kd 1) (vl 1) (ct 1) 0 0 fh fg (bgY n ff fp fz 0) fk vs vb 0).2.2.2.2.2.1, (pl phc psc nuc n fp fz (kd 1) (vl 1) (ct 1) 0 0 fh fg (bgY n ff fp fz 0) fk vs vb 0).2.2.2.2.2.2) hx hb hr hlocks rfl hK (hP.sub [4, 5, 6, 7, 8, 9, 10, 11, 12, 13, 14, 15, 16, 17, 18, 0, 19, 1, 2, 20, 3, 21] rfl) (hD.sub [4, 5, 6, 7, 8, 9, 10, 11, 12, 13, 14, 15, 16, 17, 18, 0, 19, 1, 2, 20, 3, 21] (by decide) rfl) hS (Eq.symm ((wSt_0 (ct := ct) (cr := crW phc psc nuc n fz ct kd vl fh fg ff fk vs vb fp) (fl := flW phc psc nuc n fz ct kd vl fh fg ff fk vs vb fp) (fo := fo) (w := 0) n_19).trans ((wSt_k (ct := ct) (cr := crW phc psc nuc n fz ct kd vl fh fg ff fk vs vb fp) (fl := flW phc psc nuc n fz ct kd vl fh fg ff fk vs vb fp) (fo := fo) (w := 1) n_19_2 c_46 c_51).trans (wSt_0 (ct := ct) (cr := crW phc psc nuc n fz ct kd vl fh fg ff fk vs vb fp) (fl := flW phc psc nuc n fz ct kd vl fh fg ff fk vs vb fp) (fo := fo) (w := 2) n_19_3)))) dX3_worstCrest_63
                  · ---- on
                    exact absurd c_7_4 (by decide)
                · ---- on
                  have n_19_3 := (nq_le_n (ct 2) 0 (by omega) (by omega)).mp c_19_3
                  refine lv_aload_n hx hb dX3_worstCrest_22 rfl (lv_at hl 2 rfl) ?_
                  refine lv_iload_n hx hb dX3_worstCrest_23 rfl (lv_at hl 0 rfl) ?_
                  refine ra_cV (q := (RX3, TX3, 8)) (ci := 3) (As := [.int 2]) (rest := []) (wc := [ob q0 3 [.ref a0, .ref t0, .ref z0, .int isv, .ref d0, .ref e0, .int fz, .ref g0], ob a0 0 [.int (nI n), .ref a1, .ref a2, .ref a3, .ref a4, .int vs, .int vb, .int vd], ai a1 cyI 7 fh, ai a2 cyI 7 fg, ai a3 cyI 7 ff, ai a4 cyI 7 fk, ob t0 0 [.int (nI n), .ref t1, .ref t2, .ref t3, .ref t4, .int ((pl phc psc nuc n fp fz (kd 1) (vl 1) (ct 1) 0 0 fh fg (bgY n ff fp fz 0) fk vs vb 0).2.2.2.2.1), .int ((pl phc psc nuc n fp fz (kd 1) (vl 1) (ct 1) 0 0 fh fg (bgY n ff fp fz 0) fk vs vb 0).2.2.2.2.2.1), .int ((pl phc psc nuc n fp fz (kd 1) (vl 1) (ct 1) 0 0 fh fg (bgY n ff fp fz 0) fk vs vb 0).2.2.2.2.2.2)], ai t1 cyI 7 ((pl phc psc nuc n fp fz (kd 1) (vl 1) (ct 1) 0 0 fh fg (bgY n ff fp fz 0) fk vs vb 0).1), ai t2 cyI 7 ((pl phc psc nuc n fp fz (kd 1) (vl 1) (ct 1) 0 0 fh fg (bgY n ff fp fz 0) fk vs vb 0).2.1), ai t3 cyI 7 ((pl phc psc nuc n fp fz (kd 1) (vl 1) (ct 1) 0 0 fh fg (bgY n ff fp fz 0) fk vs vb 0).2.2.1), ai t4 cyI 7 ((pl phc psc nuc n fp fz (kd 1) (vl 1) (ct 1) 0 0 fh fg (bgY n ff fp fz 0) fk vs vb 0).2.2.2.1), ob d0 2 [.ref d1, .ref d2, .ref d3], ai d1 cyI 3 (nF ct), aa d2 cyA 3 (r3 k0 k1 k2), aa d3 cyA 3 (r3 v0 v1 v2), ai k2 cyI 12 (kd 2), ai v2 cyI 12 (vl 2), ai g0 cyI 3 fp]) (wr := [ai k0 cyI 12 (kd 0), ai v0 cyI 12 (vl 0), ai k1 cyI 12 (kd 1), ai v1 cyI 12 (vl 1)]) ⟨hx, hb, hml, hown, hts⟩ (c_X3_play l dC dI cyI cyA q0 z0 e0 g0 isv fz a0 a1 a2 a3 a4 n fh fg ff fk vs vb vd t0 t1 t2 t3 t4 n ((pl phc psc nuc n fp fz (kd 1) (vl 1) (ct 1) 0 0 fh fg (bgY n ff fp fz 0) fk vs vb 0).1) ((pl phc psc nuc n fp fz (kd 1) (vl 1) (ct 1) 0 0 fh fg (bgY n ff fp fz 0) fk vs vb 0).2.1) ((pl phc psc nuc n fp fz (kd 1) (vl 1) (ct 1) 0 0 fh fg (bgY n ff fp fz 0) fk vs vb 0).2.2.1) ((pl phc psc nuc n fp fz (kd 1) (vl 1) (ct 1) 0 0 fh fg (bgY n ff fp fz 0) fk vs vb 0).2.2.2.1) ((pl phc psc nuc n fp fz (kd 1) (vl 1) (ct 1) 0 0 fh fg (bgY n ff fp fz 0) fk vs vb 0).2.2.2.2.1) ((pl phc psc nuc n fp fz (kd 1) (vl 1) (ct 1) 0 0 fh fg (bgY n ff fp fz 0) fk vs vb 0).2.2.2.2.2.1) ((pl phc psc nuc n fp fz (kd 1) (vl 1) (ct 1) 0 0 fh fg (bgY n ff fp fz 0) fk vs vb 0).2.2.2.2.2.2) d0 d1 d2 d3 ct (r3 k0 k1 k2) (r3 v0 v1 v2) 2 k2 v2 (kd 2) (vl 2) fp (by omega) (by omega) (by omega) rfl rfl H.size) (cwV 1 hts gX3_worstCrest_X3_play rfl rfl rfl (by decide +kernel) ⟨Nat.le_of_ble_eq_true rfl, Nat.le_of_ble_eq_true rfl⟩) hK hN hP hD hA hS [4, 5, 6, 7, 8, 9, 10, 11, 12, 13, 14, 15, 16, 17, 18, 1, 3, 21] [0, 2, 19, 20] rfl rfl (by decide) (by decide) (by decide) rfl rfl rfl hl.1 rfl (Nat.le_of_ble_eq_true rfl) dX3_worstCrest_24 ⟨Nat.le_of_ble_eq_true rfl, Nat.le_of_ble_eq_true rfl⟩ (fun u_3 hw_c3 H locs hP hD hS => ?_)
                  have hP : va_P (dC, dI) vwCl [ai k0 cyI 12 (kd 0), ai v0 cyI 12 (vl 0), ai k1 cyI 12 (kd 1), ai v1 cyI 12 (vl 1), ob q0 3 [.ref a0, .ref t0, .ref z0, .int isv, .ref d0, .ref e0, .int fz, .ref g0], ob a0 0 [.int (nI n), .ref a1, .ref a2, .ref a3, .ref a4, .int vs, .int vb, .int vd], ai a1 cyI 7 fh, ai a2 cyI 7 fg, ai a3 cyI 7 ff, ai a4 cyI 7 fk, ob t0 0 [.int (nI n), .ref t1, .ref t2, .ref t3, .ref t4, .int ((pl phc psc nuc n fp fz (kd 2) (vl 2) (ct 2) 0 0 fh fg (bgY n ff fp fz 0) fk vs vb 0).2.2.2.2.1), .int ((pl phc psc nuc n fp fz (kd 2) (vl 2) (ct 2) 0 0 fh fg (bgY n ff fp fz 0) fk vs vb 0).2.2.2.2.2.1), .int ((pl phc psc nuc n fp fz (kd 2) (vl 2) (ct 2) 0 0 fh fg (bgY n ff fp fz 0) fk vs vb 0).2.2.2.2.2.2)], ai t1 cyI 7 ((pl phc psc nuc n fp fz (kd 2) (vl 2) (ct 2) 0 0 fh fg (bgY n ff fp fz 0) fk vs vb 0).1), ai t2 cyI 7 ((pl phc psc nuc n fp fz (kd 2) (vl 2) (ct 2) 0 0 fh fg (bgY n ff fp fz 0) fk vs vb 0).2.1), ai t3 cyI 7 ((pl phc psc nuc n fp fz (kd 2) (vl 2) (ct 2) 0 0 fh fg (bgY n ff fp fz 0) fk vs vb 0).2.2.1), ai t4 cyI 7 ((pl phc psc nuc n fp fz (kd 2) (vl 2) (ct 2) 0 0 fh fg (bgY n ff fp fz 0) fk vs vb 0).2.2.2.1), ob d0 2 [.ref d1, .ref d2, .ref d3], ai d1 cyI 3 (nF ct), aa d2 cyA 3 (r3 k0 k1 k2), aa d3 cyA 3 (r3 v0 v1 v2), ai k2 cyI 12 (kd 2), ai v2 cyI 12 (vl 2), ai g0 cyI 3 fp] H := hP
                  have hD : va_D A [ai k0 cyI 12 (kd 0), ai v0 cyI 12 (vl 0), ai k1 cyI 12 (kd 1), ai v1 cyI 12 (vl 1), ob q0 3 [.ref a0, .ref t0, .ref z0, .int isv, .ref d0, .ref e0, .int fz, .ref g0], ob a0 0 [.int (nI n), .ref a1, .ref a2, .ref a3, .ref a4, .int vs, .int vb, .int vd], ai a1 cyI 7 fh, ai a2 cyI 7 fg, ai a3 cyI 7 ff, ai a4 cyI 7 fk, ob t0 0 [.int (nI n), .ref t1, .ref t2, .ref t3, .ref t4, .int ((pl phc psc nuc n fp fz (kd 2) (vl 2) (ct 2) 0 0 fh fg (bgY n ff fp fz 0) fk vs vb 0).2.2.2.2.1), .int ((pl phc psc nuc n fp fz (kd 2) (vl 2) (ct 2) 0 0 fh fg (bgY n ff fp fz 0) fk vs vb 0).2.2.2.2.2.1), .int ((pl phc psc nuc n fp fz (kd 2) (vl 2) (ct 2) 0 0 fh fg (bgY n ff fp fz 0) fk vs vb 0).2.2.2.2.2.2)], ai t1 cyI 7 ((pl phc psc nuc n fp fz (kd 2) (vl 2) (ct 2) 0 0 fh fg (bgY n ff fp fz 0) fk vs vb 0).1), ai t2 cyI 7 ((pl phc psc nuc n fp fz (kd 2) (vl 2) (ct 2) 0 0 fh fg (bgY n ff fp fz 0) fk vs vb 0).2.1), ai t3 cyI 7 ((pl phc psc nuc n fp fz (kd 2) (vl 2) (ct 2) 0 0 fh fg (bgY n ff fp fz 0) fk vs vb 0).2.2.1), ai t4 cyI 7 ((pl phc psc nuc n fp fz (kd 2) (vl 2) (ct 2) 0 0 fh fg (bgY n ff fp fz 0) fk vs vb 0).2.2.2.1), ob d0 2 [.ref d1, .ref d2, .ref d3], ai d1 cyI 3 (nF ct), aa d2 cyA 3 (r3 k0 k1 k2), aa d3 cyA 3 (r3 v0 v1 v2), ai k2 cyI 12 (kd 2), ai v2 cyI 12 (vl 2), ai g0 cyI 3 fp] := hD
                  refine lv_iload_n hx hb dX3_worstCrest_27 rfl (lv_at hl 1 rfl) ?_
                  refine lv_aload_n hx hb dX3_worstCrest_28 rfl (lv_at hl 2 rfl) ?_
                  refine va_get (D := (dC, dI)) (ci := 3) (v := .ref t0) (C := RX3) (T := TX3) (N := 8) hx hb hts hin_X3 hown hK hP 4 rfl rfl 1 (by decide) hw_5 (fun _ h9 => h9) rfl dX3_worstCrest_29 ?_
                  refine ra_cR (q := (RX0, TX0, 8)) (ci := 0) (As := []) (rest := [.int (jmin 99 (gMax ((pl phc psc nuc n fp fz (kd 1) (vl 1) (ct 1) 0 0 fh fg (bgY n ff fp fz 0) fk vs vb 0).1) n 0 0))]) (wc := [ob t0 0 [.int (nI n), .ref t1, .ref t2, .ref t3, .ref t4, .int ((pl phc psc nuc n fp fz (kd 2) (vl 2) (ct 2) 0 0 fh fg (bgY n ff fp fz 0) fk vs vb 0).2.2.2.2.1), .int ((pl phc psc nuc n fp fz (kd 2) (vl 2) (ct 2) 0 0 fh fg (bgY n ff fp fz 0) fk vs vb 0).2.2.2.2.2.1), .int ((pl phc psc nuc n fp fz (kd 2) (vl 2) (ct 2) 0 0 fh fg (bgY n ff fp fz 0) fk vs vb 0).2.2.2.2.2.2)], ai t1 cyI 7 ((pl phc psc nuc n fp fz (kd 2) (vl 2) (ct 2) 0 0 fh fg (bgY n ff fp fz 0) fk vs vb 0).1), ai t2 cyI 7 ((pl phc psc nuc n fp fz (kd 2) (vl 2) (ct 2) 0 0 fh fg (bgY n ff fp fz 0) fk vs vb 0).2.1), ai t3 cyI 7 ((pl phc psc nuc n fp fz (kd 2) (vl 2) (ct 2) 0 0 fh fg (bgY n ff fp fz 0) fk vs vb 0).2.2.1), ai t4 cyI 7 ((pl phc psc nuc n fp fz (kd 2) (vl 2) (ct 2) 0 0 fh fg (bgY n ff fp fz 0) fk vs vb 0).2.2.2.1)]) ⟨hx, hb, hml, hown, hts⟩ (c_X0_greatestHeight l dC dI cyI cyA t0 t1 t2 t3 t4 n ((pl phc psc nuc n fp fz (kd 2) (vl 2) (ct 2) 0 0 fh fg (bgY n ff fp fz 0) fk vs vb 0).1) ((pl phc psc nuc n fp fz (kd 2) (vl 2) (ct 2) 0 0 fh fg (bgY n ff fp fz 0) fk vs vb 0).2.1) ((pl phc psc nuc n fp fz (kd 2) (vl 2) (ct 2) 0 0 fh fg (bgY n ff fp fz 0) fk vs vb 0).2.2.1) ((pl phc psc nuc n fp fz (kd 2) (vl 2) (ct 2) 0 0 fh fg (bgY n ff fp fz 0) fk vs vb 0).2.2.2.1) ((pl phc psc nuc n fp fz (kd 2) (vl 2) (ct 2) 0 0 fh fg (bgY n ff fp fz 0) fk vs vb 0).2.2.2.2.1) ((pl phc psc nuc n fp fz (kd 2) (vl 2) (ct 2) 0 0 fh fg (bgY n ff fp fz 0) fk vs vb 0).2.2.2.2.2.1) ((pl phc psc nuc n fp fz (kd 2) (vl 2) (ct 2) 0 0 fh fg (bgY n ff fp fz 0) fk vs vb 0).2.2.2.2.2.2) (by omega)) (cwV 0 hts gX3_worstCrest_X0_greatestHeight rfl rfl rfl (by decide +kernel) ⟨Nat.le_of_ble_eq_true rfl, Nat.le_of_ble_eq_true rfl⟩) hK hN hP [10, 11, 12, 13, 14] rfl rfl rfl rfl hl.1 rfl (Nat.le_of_ble_eq_true rfl) dX3_worstCrest_32 ⟨Nat.le_of_ble_eq_true rfl, Nat.le_of_ble_eq_true rfl⟩ ?_
                  refine va_mmin hx hb (hml.trans hl.1.symm) hown hw_6 hw_7 hw_8 hw_9 (Nat.le_of_ble_eq_true rfl) (Nat.le_of_ble_eq_true rfl) (Nat.le_of_ble_eq_true rfl) (Nat.le_of_ble_eq_true rfl) dX3_worstCrest_35 ?_
                  refine ra_top (jmin (jmin 99 (gMax ((pl phc psc nuc n fp fz (kd 1) (vl 1) (ct 1) 0 0 fh fg (bgY n ff fp fz 0) fk vs vb 0).1) n 0 0)) (gMax ((pl phc psc nuc n fp fz (kd 2) (vl 2) (ct 2) 0 0 fh fg (bgY n ff fp fz 0) fk vs vb 0).1) n 0 0)) rfl ?_
                  refine lv_istore_n (lv' := [(2, .int (jmin (jmin 99 (gMax ((pl phc psc nuc n fp fz (kd 1) (vl 1) (ct 1) 0 0 fh fg (bgY n ff fp fz 0) fk vs vb 0).1) n 0 0)) (gMax ((pl phc psc nuc n fp fz (kd 2) (vl 2) (ct 2) 0 0 fh fg (bgY n ff fp fz 0) fk vs vb 0).1) n 0 0))), (3, .int 2), (0, .ref q0), (1, .int fo)]) hx hb dX3_worstCrest_38 rfl hl (by decide) rfl (fun ls hl => ?_)
                  refine lv_aload_n hx hb dX3_worstCrest_39 rfl (lv_at hl 2 rfl) ?_
                  refine va_get (D := (dC, dI)) (ci := 3) (v := .ref t0) (C := RX3) (T := TX3) (N := 8) hx hb hts hin_X3 hown hK hP 4 rfl rfl 1 (by decide) hw_5 (fun _ h9 => h9) rfl dX3_worstCrest_40 ?_
                  refine va_get (D := (dC, dI)) (ci := 0) (v := .int ((pl phc psc nuc n fp fz (kd 2) (vl 2) (ct 2) 0 0 fh fg (bgY n ff fp fz 0) fk vs vb 0).2.2.2.2.2.2)) (C := RX0) (T := TX0) (N := 8) hx hb hts hin_X0 hown hK hP 10 rfl rfl 7 (by decide) hw_10 (fun _ h9 => h9) rfl dX3_worstCrest_43 ?_
                  refine lv_if_gt (tgt := 54) hx hb dX3_worstCrest_46 (by decide) (fun c_46_2 => ?_) (fun c_46_2 => ?_)
                  · ---- to 54
                    refine lv_iconst (v := (-1)) hx hb dX3_worstCrest_54 (by decide) ?_
                    rw [hQ]
                    exact ra_iretW (n, (pl phc psc nuc n fp fz (kd 2) (vl 2) (ct 2) 0 0 fh fg (bgY n ff fp fz 0) fk vs vb 0).1, (pl phc psc nuc n fp fz (kd 2) (vl 2) (ct 2) 0 0 fh fg (bgY n ff fp fz 0) fk vs vb 0).2.1, (pl phc psc nuc n fp fz (kd 2) (vl 2) (ct 2) 0 0 fh fg (bgY n ff fp fz 0) fk vs vb 0).2.2.1, (pl phc psc nuc n fp fz (kd 2) (vl 2) (ct 2) 0 0 fh fg (bgY n ff fp fz 0) fk vs vb 0).2.2.2.1, (pl phc psc nuc n fp fz (kd 2) (vl 2) (ct 2) 0 0 fh fg (bgY n ff fp fz 0) fk vs vb 0).2.2.2.2.1, (pl phc psc nuc n fp fz (kd 2) (vl 2) (ct 2) 0 0 fh fg (bgY n ff fp fz 0) fk vs vb 0).2.2.2.2.2.1, (pl phc psc nuc n fp fz (kd 2) (vl 2) (ct 2) 0 0 fh fg (bgY n ff fp fz 0) fk vs vb 0).2.2.2.2.2.2) hx hb hr hlocks rfl hK (hP.sub [4, 5, 6, 7, 8, 9, 10, 11, 12, 13, 14, 15, 16, 17, 18, 0, 2, 19, 1, 3, 20, 21] rfl) (hD.sub [4, 5, 6, 7, 8, 9, 10, 11, 12, 13, 14, 15, 16, 17, 18, 0, 2, 19, 1, 3, 20, 21] (by decide) rfl) hS (Eq.symm ((wSt_0 (ct := ct) (cr := crW phc psc nuc n fz ct kd vl fh fg ff fk vs vb fp) (fl := flW phc psc nuc n fz ct kd vl fh fg ff fk vs vb fp) (fo := fo) (w := 0) n_19).trans ((wSt_k (ct := ct) (cr := crW phc psc nuc n fz ct kd vl fh fg ff fk vs vb fp) (fl := flW phc psc nuc n fz ct kd vl fh fg ff fk vs vb fp) (fo := fo) (w := 1) n_19_2 c_46 c_51).trans (wSt_f (ct := ct) (cr := crW phc psc nuc n fz ct kd vl fh fg ff fk vs vb fp) (fl := flW phc psc nuc n fz ct kd vl fh fg ff fk vs vb fp) (fo := fo) (w := 2) n_19_3 c_46_2)))) dX3_worstCrest_55
                  · ---- on
                    refine lv_iload_n hx hb dX3_worstCrest_49 rfl (lv_at hl 0 rfl) ?_
                    refine lv_iload_n hx hb dX3_worstCrest_50 rfl (lv_at hl 3 rfl) ?_
                    refine lv_icmp_ge (tgt := 56) hx hb dX3_worstCrest_51 (by decide) (fun c_51_2 => ?_) (fun c_51_2 => ?_)
                    · ---- to 56
                      refine lv_iinc (v := 3) (lv' := [(3, .int 3), (2, .int (jmin (jmin 99 (gMax ((pl phc psc nuc n fp fz (kd 1) (vl 1) (ct 1) 0 0 fh fg (bgY n ff fp fz 0) fk vs vb 0).1) n 0 0)) (gMax ((pl phc psc nuc n fp fz (kd 2) (vl 2) (ct 2) 0 0 fh fg (bgY n ff fp fz 0) fk vs vb 0).1) n 0 0))), (0, .ref q0), (1, .int fo)]) hx hb dX3_worstCrest_56 hl (k := 1) rfl (by decide) (by decide) rfl (fun ls hl => ?_)
                      refine lv_goto (tgt := 5) hx hb dX3_worstCrest_59 (by decide) ?_
                      refine lv_iload_n hx hb dX3_worstCrest_5 rfl (lv_at hl 0 rfl) ?_
                      refine lv_iconst (v := 3) hx hb dX3_worstCrest_6 (by decide) ?_
                      refine lv_icmp_ge (tgt := 62) hx hb dX3_worstCrest_7 (by decide) (fun c_7_4 => ?_) (fun c_7_4 => ?_)
                      · ---- to 62
                        refine lv_iload_n hx hb dX3_worstCrest_62 rfl (lv_at hl 1 rfl) ?_
                        rw [hQ]
                        exact ra_iretW (n, (pl phc psc nuc n fp fz (kd 2) (vl 2) (ct 2) 0 0 fh fg (bgY n ff fp fz 0) fk vs vb 0).1, (pl phc psc nuc n fp fz (kd 2) (vl 2) (ct 2) 0 0 fh fg (bgY n ff fp fz 0) fk vs vb 0).2.1, (pl phc psc nuc n fp fz (kd 2) (vl 2) (ct 2) 0 0 fh fg (bgY n ff fp fz 0) fk vs vb 0).2.2.1, (pl phc psc nuc n fp fz (kd 2) (vl 2) (ct 2) 0 0 fh fg (bgY n ff fp fz 0) fk vs vb 0).2.2.2.1, (pl phc psc nuc n fp fz (kd 2) (vl 2) (ct 2) 0 0 fh fg (bgY n ff fp fz 0) fk vs vb 0).2.2.2.2.1, (pl phc psc nuc n fp fz (kd 2) (vl 2) (ct 2) 0 0 fh fg (bgY n ff fp fz 0) fk vs vb 0).2.2.2.2.2.1, (pl phc psc nuc n fp fz (kd 2) (vl 2) (ct 2) 0 0 fh fg (bgY n ff fp fz 0) fk vs vb 0).2.2.2.2.2.2) hx hb hr hlocks rfl hK (hP.sub [4, 5, 6, 7, 8, 9, 10, 11, 12, 13, 14, 15, 16, 17, 18, 0, 2, 19, 1, 3, 20, 21] rfl) (hD.sub [4, 5, 6, 7, 8, 9, 10, 11, 12, 13, 14, 15, 16, 17, 18, 0, 2, 19, 1, 3, 20, 21] (by decide) rfl) hS (Eq.symm ((wSt_0 (ct := ct) (cr := crW phc psc nuc n fz ct kd vl fh fg ff fk vs vb fp) (fl := flW phc psc nuc n fz ct kd vl fh fg ff fk vs vb fp) (fo := fo) (w := 0) n_19).trans ((wSt_k (ct := ct) (cr := crW phc psc nuc n fz ct kd vl fh fg ff fk vs vb fp) (fl := flW phc psc nuc n fz ct kd vl fh fg ff fk vs vb fp) (fo := fo) (w := 1) n_19_2 c_46 c_51).trans (wSt_k (ct := ct) (cr := crW phc psc nuc n fz ct kd vl fh fg ff fk vs vb fp) (fl := flW phc psc nuc n fz ct kd vl fh fg ff fk vs vb fp) (fo := fo) (w := 2) n_19_3 c_46_2 c_51_2)))) dX3_worstCrest_63
                      · ---- on
                        exact absurd c_7_4 (by decide)
                    · ---- on
                      refine lv_iconst (v := (-1)) hx hb dX3_worstCrest_54 (by decide) ?_
                      rw [hQ]
                      exact ra_iretW (n, (pl phc psc nuc n fp fz (kd 2) (vl 2) (ct 2) 0 0 fh fg (bgY n ff fp fz 0) fk vs vb 0).1, (pl phc psc nuc n fp fz (kd 2) (vl 2) (ct 2) 0 0 fh fg (bgY n ff fp fz 0) fk vs vb 0).2.1, (pl phc psc nuc n fp fz (kd 2) (vl 2) (ct 2) 0 0 fh fg (bgY n ff fp fz 0) fk vs vb 0).2.2.1, (pl phc psc nuc n fp fz (kd 2) (vl 2) (ct 2) 0 0 fh fg (bgY n ff fp fz 0) fk vs vb 0).2.2.2.1, (pl phc psc nuc n fp fz (kd 2) (vl 2) (ct 2) 0 0 fh fg (bgY n ff fp fz 0) fk vs vb 0).2.2.2.2.1, (pl phc psc nuc n fp fz (kd 2) (vl 2) (ct 2) 0 0 fh fg (bgY n ff fp fz 0) fk vs vb 0).2.2.2.2.2.1, (pl phc psc nuc n fp fz (kd 2) (vl 2) (ct 2) 0 0 fh fg (bgY n ff fp fz 0) fk vs vb 0).2.2.2.2.2.2) hx hb hr hlocks rfl hK (hP.sub [4, 5, 6, 7, 8, 9, 10, 11, 12, 13, 14, 15, 16, 17, 18, 0, 2, 19, 1, 3, 20, 21] rfl) (hD.sub [4, 5, 6, 7, 8, 9, 10, 11, 12, 13, 14, 15, 16, 17, 18, 0, 2, 19, 1, 3, 20, 21] (by decide) rfl) hS (Eq.symm ((wSt_0 (ct := ct) (cr := crW phc psc nuc n fz ct kd vl fh fg ff fk vs vb fp) (fl := flW phc psc nuc n fz ct kd vl fh fg ff fk vs vb fp) (fo := fo) (w := 0) n_19).trans ((wSt_k (ct := ct) (cr := crW phc psc nuc n fz ct kd vl fh fg ff fk vs vb fp) (fl := flW phc psc nuc n fz ct kd vl fh fg ff fk vs vb fp) (fo := fo) (w := 1) n_19_2 c_46 c_51).trans (wSt_l (ct := ct) (cr := crW phc psc nuc n fz ct kd vl fh fg ff fk vs vb fp) (fl := flW phc psc nuc n fz ct kd vl fh fg ff fk vs vb fp) (fo := fo) (w := 2) n_19_3 c_46_2 c_51_2)))) dX3_worstCrest_55
            · ---- on
              refine lv_iconst (v := (-1)) hx hb dX3_worstCrest_54 (by decide) ?_
              rw [hQ]
              exact ra_iretW (n, (pl phc psc nuc n fp fz (kd 1) (vl 1) (ct 1) 0 0 fh fg (bgY n ff fp fz 0) fk vs vb 0).1, (pl phc psc nuc n fp fz (kd 1) (vl 1) (ct 1) 0 0 fh fg (bgY n ff fp fz 0) fk vs vb 0).2.1, (pl phc psc nuc n fp fz (kd 1) (vl 1) (ct 1) 0 0 fh fg (bgY n ff fp fz 0) fk vs vb 0).2.2.1, (pl phc psc nuc n fp fz (kd 1) (vl 1) (ct 1) 0 0 fh fg (bgY n ff fp fz 0) fk vs vb 0).2.2.2.1, (pl phc psc nuc n fp fz (kd 1) (vl 1) (ct 1) 0 0 fh fg (bgY n ff fp fz 0) fk vs vb 0).2.2.2.2.1, (pl phc psc nuc n fp fz (kd 1) (vl 1) (ct 1) 0 0 fh fg (bgY n ff fp fz 0) fk vs vb 0).2.2.2.2.2.1, (pl phc psc nuc n fp fz (kd 1) (vl 1) (ct 1) 0 0 fh fg (bgY n ff fp fz 0) fk vs vb 0).2.2.2.2.2.2) hx hb hr hlocks rfl hK (hP.sub [4, 5, 6, 7, 8, 9, 10, 11, 12, 13, 14, 15, 16, 17, 18, 0, 19, 1, 2, 20, 3, 21] rfl) (hD.sub [4, 5, 6, 7, 8, 9, 10, 11, 12, 13, 14, 15, 16, 17, 18, 0, 19, 1, 2, 20, 3, 21] (by decide) rfl) hS (Eq.symm ((wSt_0 (ct := ct) (cr := crW phc psc nuc n fz ct kd vl fh fg ff fk vs vb fp) (fl := flW phc psc nuc n fz ct kd vl fh fg ff fk vs vb fp) (fo := fo) (w := 0) n_19).trans (wSt_l (ct := ct) (cr := crW phc psc nuc n fz ct kd vl fh fg ff fk vs vb fp) (fl := flW phc psc nuc n fz ct kd vl fh fg ff fk vs vb fp) (fo := fo) (w := 1) n_19_2 c_46 c_51))) dX3_worstCrest_55
    · ---- on
      have n_19 := (nq_le_n (ct 0) 0 (by omega) (by omega)).mp c_19
      refine lv_aload_n hx hb dX3_worstCrest_22 rfl (lv_at hl 2 rfl) ?_
      refine lv_iload_n hx hb dX3_worstCrest_23 rfl (lv_at hl 0 rfl) ?_
      refine ra_cV (q := (RX3, TX3, 8)) (ci := 3) (As := [.int 0]) (rest := []) (wc := [ob q0 3 [.ref a0, .ref t0, .ref z0, .int isv, .ref d0, .ref e0, .int fz, .ref g0], ob a0 0 [.int (nI n), .ref a1, .ref a2, .ref a3, .ref a4, .int vs, .int vb, .int vd], ai a1 cyI 7 fh, ai a2 cyI 7 fg, ai a3 cyI 7 ff, ai a4 cyI 7 fk, ob t0 0 [.int (nI tn), .ref t1, .ref t2, .ref t3, .ref t4, .int ts, .int tb, .int td], ai t1 cyI 7 th, ai t2 cyI 7 tg, ai t3 cyI 7 tf, ai t4 cyI 7 tk, ob d0 2 [.ref d1, .ref d2, .ref d3], ai d1 cyI 3 (nF ct), aa d2 cyA 3 (r3 k0 k1 k2), aa d3 cyA 3 (r3 v0 v1 v2), ai k0 cyI 12 (kd 0), ai v0 cyI 12 (vl 0), ai g0 cyI 3 fp]) (wr := [ai k1 cyI 12 (kd 1), ai k2 cyI 12 (kd 2), ai v1 cyI 12 (vl 1), ai v2 cyI 12 (vl 2)]) ⟨hx, hb, hml, hown, hts⟩ (c_X3_play l dC dI cyI cyA q0 z0 e0 g0 isv fz a0 a1 a2 a3 a4 n fh fg ff fk vs vb vd t0 t1 t2 t3 t4 tn th tg tf tk ts tb td d0 d1 d2 d3 ct (r3 k0 k1 k2) (r3 v0 v1 v2) 0 k0 v0 (kd 0) (vl 0) fp (by omega) (by omega) (by omega) rfl rfl H.size) (cwV 1 hts gX3_worstCrest_X3_play rfl rfl rfl (by decide +kernel) ⟨Nat.le_of_ble_eq_true rfl, Nat.le_of_ble_eq_true rfl⟩) hK hN hP hD hA hS [0, 1, 2, 3, 4, 5, 6, 7, 8, 9, 10, 11, 12, 13, 14, 15, 18, 21] [16, 17, 19, 20] rfl rfl (by decide) (by decide) (by decide) rfl rfl rfl hl.1 rfl (Nat.le_of_ble_eq_true rfl) dX3_worstCrest_24 ⟨Nat.le_of_ble_eq_true rfl, Nat.le_of_ble_eq_true rfl⟩ (fun u_4 hw_c4 H locs hP hD hS => ?_)
      have hP : va_P (dC, dI) vwCl [ai k1 cyI 12 (kd 1), ai k2 cyI 12 (kd 2), ai v1 cyI 12 (vl 1), ai v2 cyI 12 (vl 2), ob q0 3 [.ref a0, .ref t0, .ref z0, .int isv, .ref d0, .ref e0, .int fz, .ref g0], ob a0 0 [.int (nI n), .ref a1, .ref a2, .ref a3, .ref a4, .int vs, .int vb, .int vd], ai a1 cyI 7 fh, ai a2 cyI 7 fg, ai a3 cyI 7 ff, ai a4 cyI 7 fk, ob t0 0 [.int (nI n), .ref t1, .ref t2, .ref t3, .ref t4, .int ((pl phc psc nuc n fp fz (kd 0) (vl 0) (ct 0) 0 0 fh fg (bgY n ff fp fz 0) fk vs vb 0).2.2.2.2.1), .int ((pl phc psc nuc n fp fz (kd 0) (vl 0) (ct 0) 0 0 fh fg (bgY n ff fp fz 0) fk vs vb 0).2.2.2.2.2.1), .int ((pl phc psc nuc n fp fz (kd 0) (vl 0) (ct 0) 0 0 fh fg (bgY n ff fp fz 0) fk vs vb 0).2.2.2.2.2.2)], ai t1 cyI 7 ((pl phc psc nuc n fp fz (kd 0) (vl 0) (ct 0) 0 0 fh fg (bgY n ff fp fz 0) fk vs vb 0).1), ai t2 cyI 7 ((pl phc psc nuc n fp fz (kd 0) (vl 0) (ct 0) 0 0 fh fg (bgY n ff fp fz 0) fk vs vb 0).2.1), ai t3 cyI 7 ((pl phc psc nuc n fp fz (kd 0) (vl 0) (ct 0) 0 0 fh fg (bgY n ff fp fz 0) fk vs vb 0).2.2.1), ai t4 cyI 7 ((pl phc psc nuc n fp fz (kd 0) (vl 0) (ct 0) 0 0 fh fg (bgY n ff fp fz 0) fk vs vb 0).2.2.2.1), ob d0 2 [.ref d1, .ref d2, .ref d3], ai d1 cyI 3 (nF ct), aa d2 cyA 3 (r3 k0 k1 k2), aa d3 cyA 3 (r3 v0 v1 v2), ai k0 cyI 12 (kd 0), ai v0 cyI 12 (vl 0), ai g0 cyI 3 fp] H := hP
      have hD : va_D A [ai k1 cyI 12 (kd 1), ai k2 cyI 12 (kd 2), ai v1 cyI 12 (vl 1), ai v2 cyI 12 (vl 2), ob q0 3 [.ref a0, .ref t0, .ref z0, .int isv, .ref d0, .ref e0, .int fz, .ref g0], ob a0 0 [.int (nI n), .ref a1, .ref a2, .ref a3, .ref a4, .int vs, .int vb, .int vd], ai a1 cyI 7 fh, ai a2 cyI 7 fg, ai a3 cyI 7 ff, ai a4 cyI 7 fk, ob t0 0 [.int (nI n), .ref t1, .ref t2, .ref t3, .ref t4, .int ((pl phc psc nuc n fp fz (kd 0) (vl 0) (ct 0) 0 0 fh fg (bgY n ff fp fz 0) fk vs vb 0).2.2.2.2.1), .int ((pl phc psc nuc n fp fz (kd 0) (vl 0) (ct 0) 0 0 fh fg (bgY n ff fp fz 0) fk vs vb 0).2.2.2.2.2.1), .int ((pl phc psc nuc n fp fz (kd 0) (vl 0) (ct 0) 0 0 fh fg (bgY n ff fp fz 0) fk vs vb 0).2.2.2.2.2.2)], ai t1 cyI 7 ((pl phc psc nuc n fp fz (kd 0) (vl 0) (ct 0) 0 0 fh fg (bgY n ff fp fz 0) fk vs vb 0).1), ai t2 cyI 7 ((pl phc psc nuc n fp fz (kd 0) (vl 0) (ct 0) 0 0 fh fg (bgY n ff fp fz 0) fk vs vb 0).2.1), ai t3 cyI 7 ((pl phc psc nuc n fp fz (kd 0) (vl 0) (ct 0) 0 0 fh fg (bgY n ff fp fz 0) fk vs vb 0).2.2.1), ai t4 cyI 7 ((pl phc psc nuc n fp fz (kd 0) (vl 0) (ct 0) 0 0 fh fg (bgY n ff fp fz 0) fk vs vb 0).2.2.2.1), ob d0 2 [.ref d1, .ref d2, .ref d3], ai d1 cyI 3 (nF ct), aa d2 cyA 3 (r3 k0 k1 k2), aa d3 cyA 3 (r3 v0 v1 v2), ai k0 cyI 12 (kd 0), ai v0 cyI 12 (vl 0), ai g0 cyI 3 fp] := hD
      refine lv_iload_n hx hb dX3_worstCrest_27 rfl (lv_at hl 1 rfl) ?_
      refine lv_aload_n hx hb dX3_worstCrest_28 rfl (lv_at hl 2 rfl) ?_
      refine va_get (D := (dC, dI)) (ci := 3) (v := .ref t0) (C := RX3) (T := TX3) (N := 8) hx hb hts hin_X3 hown hK hP 4 rfl rfl 1 (by decide) hw_5 (fun _ h9 => h9) rfl dX3_worstCrest_29 ?_
      refine ra_cR (q := (RX0, TX0, 8)) (ci := 0) (As := []) (rest := [.int 99]) (wc := [ob t0 0 [.int (nI n), .ref t1, .ref t2, .ref t3, .ref t4, .int ((pl phc psc nuc n fp fz (kd 0) (vl 0) (ct 0) 0 0 fh fg (bgY n ff fp fz 0) fk vs vb 0).2.2.2.2.1), .int ((pl phc psc nuc n fp fz (kd 0) (vl 0) (ct 0) 0 0 fh fg (bgY n ff fp fz 0) fk vs vb 0).2.2.2.2.2.1), .int ((pl phc psc nuc n fp fz (kd 0) (vl 0) (ct 0) 0 0 fh fg (bgY n ff fp fz 0) fk vs vb 0).2.2.2.2.2.2)], ai t1 cyI 7 ((pl phc psc nuc n fp fz (kd 0) (vl 0) (ct 0) 0 0 fh fg (bgY n ff fp fz 0) fk vs vb 0).1), ai t2 cyI 7 ((pl phc psc nuc n fp fz (kd 0) (vl 0) (ct 0) 0 0 fh fg (bgY n ff fp fz 0) fk vs vb 0).2.1), ai t3 cyI 7 ((pl phc psc nuc n fp fz (kd 0) (vl 0) (ct 0) 0 0 fh fg (bgY n ff fp fz 0) fk vs vb 0).2.2.1), ai t4 cyI 7 ((pl phc psc nuc n fp fz (kd 0) (vl 0) (ct 0) 0 0 fh fg (bgY n ff fp fz 0) fk vs vb 0).2.2.2.1)]) ⟨hx, hb, hml, hown, hts⟩ (c_X0_greatestHeight l dC dI cyI cyA t0 t1 t2 t3 t4 n ((pl phc psc nuc n fp fz (kd 0) (vl 0) (ct 0) 0 0 fh fg (bgY n ff fp fz 0) fk vs vb 0).1) ((pl phc psc nuc n fp fz (kd 0) (vl 0) (ct 0) 0 0 fh fg (bgY n ff fp fz 0) fk vs vb 0).2.1) ((pl phc psc nuc n fp fz (kd 0) (vl 0) (ct 0) 0 0 fh fg (bgY n ff fp fz 0) fk vs vb 0).2.2.1) ((pl phc psc nuc n fp fz (kd 0) (vl 0) (ct 0) 0 0 fh fg (bgY n ff fp fz 0) fk vs vb 0).2.2.2.1) ((pl phc psc nuc n fp fz (kd 0) (vl 0) (ct 0) 0 0 fh fg (bgY n ff fp fz 0) fk vs vb 0).2.2.2.2.1) ((pl phc psc nuc n fp fz (kd 0) (vl 0) (ct 0) 0 0 fh fg (bgY n ff fp fz 0) fk vs vb 0).2.2.2.2.2.1) ((pl phc psc nuc n fp fz (kd 0) (vl 0) (ct 0) 0 0 fh fg (bgY n ff fp fz 0) fk vs vb 0).2.2.2.2.2.2) (by omega)) (cwV 0 hts gX3_worstCrest_X0_greatestHeight rfl rfl rfl (by decide +kernel) ⟨Nat.le_of_ble_eq_true rfl, Nat.le_of_ble_eq_true rfl⟩) hK hN hP [10, 11, 12, 13, 14] rfl rfl rfl rfl hl.1 rfl (Nat.le_of_ble_eq_true rfl) dX3_worstCrest_32 ⟨Nat.le_of_ble_eq_true rfl, Nat.le_of_ble_eq_true rfl⟩ ?_
      refine va_mmin hx hb (hml.trans hl.1.symm) hown hw_6 hw_7 hw_8 hw_9 (Nat.le_of_ble_eq_true rfl) (Nat.le_of_ble_eq_true rfl) (Nat.le_of_ble_eq_true rfl) (Nat.le_of_ble_eq_true rfl) dX3_worstCrest_35 ?_
      refine ra_top (jmin 99 (gMax ((pl phc psc nuc n fp fz (kd 0) (vl 0) (ct 0) 0 0 fh fg (bgY n ff fp fz 0) fk vs vb 0).1) n 0 0)) rfl ?_
      refine lv_istore_n (lv' := [(2, .int (jmin 99 (gMax ((pl phc psc nuc n fp fz (kd 0) (vl 0) (ct 0) 0 0 fh fg (bgY n ff fp fz 0) fk vs vb 0).1) n 0 0))), (3, .int 0), (0, .ref q0), (1, .int fo)]) hx hb dX3_worstCrest_38 rfl hl (by decide) rfl (fun ls hl => ?_)
      refine lv_aload_n hx hb dX3_worstCrest_39 rfl (lv_at hl 2 rfl) ?_
      refine va_get (D := (dC, dI)) (ci := 3) (v := .ref t0) (C := RX3) (T := TX3) (N := 8) hx hb hts hin_X3 hown hK hP 4 rfl rfl 1 (by decide) hw_5 (fun _ h9 => h9) rfl dX3_worstCrest_40 ?_
      refine va_get (D := (dC, dI)) (ci := 0) (v := .int ((pl phc psc nuc n fp fz (kd 0) (vl 0) (ct 0) 0 0 fh fg (bgY n ff fp fz 0) fk vs vb 0).2.2.2.2.2.2)) (C := RX0) (T := TX0) (N := 8) hx hb hts hin_X0 hown hK hP 10 rfl rfl 7 (by decide) hw_10 (fun _ h9 => h9) rfl dX3_worstCrest_43 ?_
      refine lv_if_gt (tgt := 54) hx hb dX3_worstCrest_46 (by decide) (fun c_46 => ?_) (fun c_46 => ?_)
      · ---- to 54
        refine lv_iconst (v := (-1)) hx hb dX3_worstCrest_54 (by decide) ?_
        rw [hQ]
        exact ra_iretW (n, (pl phc psc nuc n fp fz (kd 0) (vl 0) (ct 0) 0 0 fh fg (bgY n ff fp fz 0) fk vs vb 0).1, (pl phc psc nuc n fp fz (kd 0) (vl 0) (ct 0) 0 0 fh fg (bgY n ff fp fz 0) fk vs vb 0).2.1, (pl phc psc nuc n fp fz (kd 0) (vl 0) (ct 0) 0 0 fh fg (bgY n ff fp fz 0) fk vs vb 0).2.2.1, (pl phc psc nuc n fp fz (kd 0) (vl 0) (ct 0) 0 0 fh fg (bgY n ff fp fz 0) fk vs vb 0).2.2.2.1, (pl phc psc nuc n fp fz (kd 0) (vl 0) (ct 0) 0 0 fh fg (bgY n ff fp fz 0) fk vs vb 0).2.2.2.2.1, (pl phc psc nuc n fp fz (kd 0) (vl 0) (ct 0) 0 0 fh fg (bgY n ff fp fz 0) fk vs vb 0).2.2.2.2.2.1, (pl phc psc nuc n fp fz (kd 0) (vl 0) (ct 0) 0 0 fh fg (bgY n ff fp fz 0) fk vs vb 0).2.2.2.2.2.2) hx hb hr hlocks rfl hK (hP.sub [4, 5, 6, 7, 8, 9, 10, 11, 12, 13, 14, 15, 16, 17, 18, 19, 0, 1, 20, 2, 3, 21] rfl) (hD.sub [4, 5, 6, 7, 8, 9, 10, 11, 12, 13, 14, 15, 16, 17, 18, 19, 0, 1, 20, 2, 3, 21] (by decide) rfl) hS (Eq.symm (wSt_f (ct := ct) (cr := crW phc psc nuc n fz ct kd vl fh fg ff fk vs vb fp) (fl := flW phc psc nuc n fz ct kd vl fh fg ff fk vs vb fp) (fo := fo) (w := 0) n_19 c_46)) dX3_worstCrest_55
      · ---- on
        refine lv_iload_n hx hb dX3_worstCrest_49 rfl (lv_at hl 0 rfl) ?_
        refine lv_iload_n hx hb dX3_worstCrest_50 rfl (lv_at hl 3 rfl) ?_
        refine lv_icmp_ge (tgt := 56) hx hb dX3_worstCrest_51 (by decide) (fun c_51 => ?_) (fun c_51 => ?_)
        · ---- to 56
          refine lv_iinc (v := 1) (lv' := [(3, .int 1), (2, .int (jmin 99 (gMax ((pl phc psc nuc n fp fz (kd 0) (vl 0) (ct 0) 0 0 fh fg (bgY n ff fp fz 0) fk vs vb 0).1) n 0 0))), (0, .ref q0), (1, .int fo)]) hx hb dX3_worstCrest_56 hl (k := 1) rfl (by decide) (by decide) rfl (fun ls hl => ?_)
          refine lv_goto (tgt := 5) hx hb dX3_worstCrest_59 (by decide) ?_
          refine lv_iload_n hx hb dX3_worstCrest_5 rfl (lv_at hl 0 rfl) ?_
          refine lv_iconst (v := 3) hx hb dX3_worstCrest_6 (by decide) ?_
          refine lv_icmp_ge (tgt := 62) hx hb dX3_worstCrest_7 (by decide) (fun c_7_2 => ?_) (fun c_7_2 => ?_)
          · ---- to 62
            exact absurd c_7_2 (by decide)
          · ---- on
            refine lv_aload_n hx hb dX3_worstCrest_10 rfl (lv_at hl 2 rfl) ?_
            refine va_get (D := (dC, dI)) (ci := 3) (v := .ref d0) (C := RX3) (T := TX3) (N := 8) hx hb hts hin_X3 hown hK hP 4 rfl rfl 4 (by decide) hw_1 (fun _ h9 => h9) rfl dX3_worstCrest_11 ?_
            refine va_get (D := (dC, dI)) (ci := 2) (v := .ref d1) (C := RX2) (T := TX2) (N := 3) hx hb hts hin_X2 hown hK hP 15 rfl rfl 0 (by decide) hw_3 (fun _ h9 => h9) rfl dX3_worstCrest_14 ?_
            refine lv_iload_n hx hb dX3_worstCrest_17 rfl (lv_at hl 0 rfl) ?_
            refine ra_iald hx hb hK hP 16 rfl 1 rfl (by omega) (Nat.le_of_ble_eq_true rfl) dX3_worstCrest_18 ?_
            refine ra_top (nI (ct 1)) rfl ?_
            refine lv_if_le (tgt := 56) hx hb dX3_worstCrest_19 (by decide) (fun c_19_2 => ?_) (fun c_19_2 => ?_)
            · ---- to 56
              have n_19_2 := (nq_le (ct 1) 0 (by omega) (by omega)).mp c_19_2
              refine lv_iinc (v := 2) (lv' := [(3, .int 2), (2, .int (jmin 99 (gMax ((pl phc psc nuc n fp fz (kd 0) (vl 0) (ct 0) 0 0 fh fg (bgY n ff fp fz 0) fk vs vb 0).1) n 0 0))), (0, .ref q0), (1, .int fo)]) hx hb dX3_worstCrest_56 hl (k := 0) rfl (by decide) (by decide) rfl (fun ls hl => ?_)
              refine lv_goto (tgt := 5) hx hb dX3_worstCrest_59 (by decide) ?_
              refine lv_iload_n hx hb dX3_worstCrest_5 rfl (lv_at hl 0 rfl) ?_
              refine lv_iconst (v := 3) hx hb dX3_worstCrest_6 (by decide) ?_
              refine lv_icmp_ge (tgt := 62) hx hb dX3_worstCrest_7 (by decide) (fun c_7_3 => ?_) (fun c_7_3 => ?_)
              · ---- to 62
                exact absurd c_7_3 (by decide)
              · ---- on
                refine lv_aload_n hx hb dX3_worstCrest_10 rfl (lv_at hl 2 rfl) ?_
                refine va_get (D := (dC, dI)) (ci := 3) (v := .ref d0) (C := RX3) (T := TX3) (N := 8) hx hb hts hin_X3 hown hK hP 4 rfl rfl 4 (by decide) hw_1 (fun _ h9 => h9) rfl dX3_worstCrest_11 ?_
                refine va_get (D := (dC, dI)) (ci := 2) (v := .ref d1) (C := RX2) (T := TX2) (N := 3) hx hb hts hin_X2 hown hK hP 15 rfl rfl 0 (by decide) hw_3 (fun _ h9 => h9) rfl dX3_worstCrest_14 ?_
                refine lv_iload_n hx hb dX3_worstCrest_17 rfl (lv_at hl 0 rfl) ?_
                refine ra_iald hx hb hK hP 16 rfl 2 rfl (by omega) (Nat.le_of_ble_eq_true rfl) dX3_worstCrest_18 ?_
                refine ra_top (nI (ct 2)) rfl ?_
                refine lv_if_le (tgt := 56) hx hb dX3_worstCrest_19 (by decide) (fun c_19_3 => ?_) (fun c_19_3 => ?_)
                · ---- to 56
                  have n_19_3 := (nq_le (ct 2) 0 (by omega) (by omega)).mp c_19_3
                  refine lv_iinc (v := 3) (lv' := [(3, .int 3), (2, .int (jmin 99 (gMax ((pl phc psc nuc n fp fz (kd 0) (vl 0) (ct 0) 0 0 fh fg (bgY n ff fp fz 0) fk vs vb 0).1) n 0 0))), (0, .ref q0), (1, .int fo)]) hx hb dX3_worstCrest_56 hl (k := 0) rfl (by decide) (by decide) rfl (fun ls hl => ?_)
                  refine lv_goto (tgt := 5) hx hb dX3_worstCrest_59 (by decide) ?_
                  refine lv_iload_n hx hb dX3_worstCrest_5 rfl (lv_at hl 0 rfl) ?_
                  refine lv_iconst (v := 3) hx hb dX3_worstCrest_6 (by decide) ?_
                  refine lv_icmp_ge (tgt := 62) hx hb dX3_worstCrest_7 (by decide) (fun c_7_4 => ?_) (fun c_7_4 => ?_)
                  · ---- to 62
                    refine lv_iload_n hx hb dX3_worstCrest_62 rfl (lv_at hl 1 rfl) ?_
                    rw [hQ]
                    exact ra_iretW (n, (pl phc psc nuc n fp fz (kd 0) (vl 0) (ct 0) 0 0 fh fg (bgY n ff fp fz 0) fk vs vb 0).1, (pl phc psc nuc n fp fz (kd 0) (vl 0) (ct 0) 0 0 fh fg (bgY n ff fp fz 0) fk vs vb 0).2.1, (pl phc psc nuc n fp fz (kd 0) (vl 0) (ct 0) 0 0 fh fg (bgY n ff fp fz 0) fk vs vb 0).2.2.1, (pl phc psc nuc n fp fz (kd 0) (vl 0) (ct 0) 0 0 fh fg (bgY n ff fp fz 0) fk vs vb 0).2.2.2.1, (pl phc psc nuc n fp fz (kd 0) (vl 0) (ct 0) 0 0 fh fg (bgY n ff fp fz 0) fk vs vb 0).2.2.2.2.1, (pl phc psc nuc n fp fz (kd 0) (vl 0) (ct 0) 0 0 fh fg (bgY n ff fp fz 0) fk vs vb 0).2.2.2.2.2.1, (pl phc psc nuc n fp fz (kd 0) (vl 0) (ct 0) 0 0 fh fg (bgY n ff fp fz 0) fk vs vb 0).2.2.2.2.2.2) hx hb hr hlocks rfl hK (hP.sub [4, 5, 6, 7, 8, 9, 10, 11, 12, 13, 14, 15, 16, 17, 18, 19, 0, 1, 20, 2, 3, 21] rfl) (hD.sub [4, 5, 6, 7, 8, 9, 10, 11, 12, 13, 14, 15, 16, 17, 18, 19, 0, 1, 20, 2, 3, 21] (by decide) rfl) hS (Eq.symm ((wSt_k (ct := ct) (cr := crW phc psc nuc n fz ct kd vl fh fg ff fk vs vb fp) (fl := flW phc psc nuc n fz ct kd vl fh fg ff fk vs vb fp) (fo := fo) (w := 0) n_19 c_46 c_51).trans ((wSt_0 (ct := ct) (cr := crW phc psc nuc n fz ct kd vl fh fg ff fk vs vb fp) (fl := flW phc psc nuc n fz ct kd vl fh fg ff fk vs vb fp) (fo := fo) (w := 1) n_19_2).trans (wSt_0 (ct := ct) (cr := crW phc psc nuc n fz ct kd vl fh fg ff fk vs vb fp) (fl := flW phc psc nuc n fz ct kd vl fh fg ff fk vs vb fp) (fo := fo) (w := 2) n_19_3)))) dX3_worstCrest_63
                  · ---- on
                    exact absurd c_7_4 (by decide)
                · ---- on
                  have n_19_3 := (nq_le_n (ct 2) 0 (by omega) (by omega)).mp c_19_3
                  refine lv_aload_n hx hb dX3_worstCrest_22 rfl (lv_at hl 2 rfl) ?_
                  refine lv_iload_n hx hb dX3_worstCrest_23 rfl (lv_at hl 0 rfl) ?_
                  refine ra_cV (q := (RX3, TX3, 8)) (ci := 3) (As := [.int 2]) (rest := []) (wc := [ob q0 3 [.ref a0, .ref t0, .ref z0, .int isv, .ref d0, .ref e0, .int fz, .ref g0], ob a0 0 [.int (nI n), .ref a1, .ref a2, .ref a3, .ref a4, .int vs, .int vb, .int vd], ai a1 cyI 7 fh, ai a2 cyI 7 fg, ai a3 cyI 7 ff, ai a4 cyI 7 fk, ob t0 0 [.int (nI n), .ref t1, .ref t2, .ref t3, .ref t4, .int ((pl phc psc nuc n fp fz (kd 0) (vl 0) (ct 0) 0 0 fh fg (bgY n ff fp fz 0) fk vs vb 0).2.2.2.2.1), .int ((pl phc psc nuc n fp fz (kd 0) (vl 0) (ct 0) 0 0 fh fg (bgY n ff fp fz 0) fk vs vb 0).2.2.2.2.2.1), .int ((pl phc psc nuc n fp fz (kd 0) (vl 0) (ct 0) 0 0 fh fg (bgY n ff fp fz 0) fk vs vb 0).2.2.2.2.2.2)], ai t1 cyI 7 ((pl phc psc nuc n fp fz (kd 0) (vl 0) (ct 0) 0 0 fh fg (bgY n ff fp fz 0) fk vs vb 0).1), ai t2 cyI 7 ((pl phc psc nuc n fp fz (kd 0) (vl 0) (ct 0) 0 0 fh fg (bgY n ff fp fz 0) fk vs vb 0).2.1), ai t3 cyI 7 ((pl phc psc nuc n fp fz (kd 0) (vl 0) (ct 0) 0 0 fh fg (bgY n ff fp fz 0) fk vs vb 0).2.2.1), ai t4 cyI 7 ((pl phc psc nuc n fp fz (kd 0) (vl 0) (ct 0) 0 0 fh fg (bgY n ff fp fz 0) fk vs vb 0).2.2.2.1), ob d0 2 [.ref d1, .ref d2, .ref d3], ai d1 cyI 3 (nF ct), aa d2 cyA 3 (r3 k0 k1 k2), aa d3 cyA 3 (r3 v0 v1 v2), ai k2 cyI 12 (kd 2), ai v2 cyI 12 (vl 2), ai g0 cyI 3 fp]) (wr := [ai k1 cyI 12 (kd 1), ai v1 cyI 12 (vl 1), ai k0 cyI 12 (kd 0), ai v0 cyI 12 (vl 0)]) ⟨hx, hb, hml, hown, hts⟩ (c_X3_play l dC dI cyI cyA q0 z0 e0 g0 isv fz a0 a1 a2 a3 a4 n fh fg ff fk vs vb vd t0 t1 t2 t3 t4 n ((pl phc psc nuc n fp fz (kd 0) (vl 0) (ct 0) 0 0 fh fg (bgY n ff fp fz 0) fk vs vb 0).1) ((pl phc psc nuc n fp fz (kd 0) (vl 0) (ct 0) 0 0 fh fg (bgY n ff fp fz 0) fk vs vb 0).2.1) ((pl phc psc nuc n fp fz (kd 0) (vl 0) (ct 0) 0 0 fh fg (bgY n ff fp fz 0) fk vs vb 0).2.2.1) ((pl phc psc nuc n fp fz (kd 0) (vl 0) (ct 0) 0 0 fh fg (bgY n ff fp fz 0) fk vs vb 0).2.2.2.1) ((pl phc psc nuc n fp fz (kd 0) (vl 0) (ct 0) 0 0 fh fg (bgY n ff fp fz 0) fk vs vb 0).2.2.2.2.1) ((pl phc psc nuc n fp fz (kd 0) (vl 0) (ct 0) 0 0 fh fg (bgY n ff fp fz 0) fk vs vb 0).2.2.2.2.2.1) ((pl phc psc nuc n fp fz (kd 0) (vl 0) (ct 0) 0 0 fh fg (bgY n ff fp fz 0) fk vs vb 0).2.2.2.2.2.2) d0 d1 d2 d3 ct (r3 k0 k1 k2) (r3 v0 v1 v2) 2 k2 v2 (kd 2) (vl 2) fp (by omega) (by omega) (by omega) rfl rfl H.size) (cwV 1 hts gX3_worstCrest_X3_play rfl rfl rfl (by decide +kernel) ⟨Nat.le_of_ble_eq_true rfl, Nat.le_of_ble_eq_true rfl⟩) hK hN hP hD hA hS [4, 5, 6, 7, 8, 9, 10, 11, 12, 13, 14, 15, 16, 17, 18, 1, 3, 21] [0, 2, 19, 20] rfl rfl (by decide) (by decide) (by decide) rfl rfl rfl hl.1 rfl (Nat.le_of_ble_eq_true rfl) dX3_worstCrest_24 ⟨Nat.le_of_ble_eq_true rfl, Nat.le_of_ble_eq_true rfl⟩ (fun u_5 hw_c5 H locs hP hD hS => ?_)
                  have hP : va_P (dC, dI) vwCl [ai k1 cyI 12 (kd 1), ai v1 cyI 12 (vl 1), ai k0 cyI 12 (kd 0), ai v0 cyI 12 (vl 0), ob q0 3 [.ref a0, .ref t0, .ref z0, .int isv, .ref d0, .ref e0, .int fz, .ref g0], ob a0 0 [.int (nI n), .ref a1, .ref a2, .ref a3, .ref a4, .int vs, .int vb, .int vd], ai a1 cyI 7 fh, ai a2 cyI 7 fg, ai a3 cyI 7 ff, ai a4 cyI 7 fk, ob t0 0 [.int (nI n), .ref t1, .ref t2, .ref t3, .ref t4, .int ((pl phc psc nuc n fp fz (kd 2) (vl 2) (ct 2) 0 0 fh fg (bgY n ff fp fz 0) fk vs vb 0).2.2.2.2.1), .int ((pl phc psc nuc n fp fz (kd 2) (vl 2) (ct 2) 0 0 fh fg (bgY n ff fp fz 0) fk vs vb 0).2.2.2.2.2.1), .int ((pl phc psc nuc n fp fz (kd 2) (vl 2) (ct 2) 0 0 fh fg (bgY n ff fp fz 0) fk vs vb 0).2.2.2.2.2.2)], ai t1 cyI 7 ((pl phc psc nuc n fp fz (kd 2) (vl 2) (ct 2) 0 0 fh fg (bgY n ff fp fz 0) fk vs vb 0).1), ai t2 cyI 7 ((pl phc psc nuc n fp fz (kd 2) (vl 2) (ct 2) 0 0 fh fg (bgY n ff fp fz 0) fk vs vb 0).2.1), ai t3 cyI 7 ((pl phc psc nuc n fp fz (kd 2) (vl 2) (ct 2) 0 0 fh fg (bgY n ff fp fz 0) fk vs vb 0).2.2.1), ai t4 cyI 7 ((pl phc psc nuc n fp fz (kd 2) (vl 2) (ct 2) 0 0 fh fg (bgY n ff fp fz 0) fk vs vb 0).2.2.2.1), ob d0 2 [.ref d1, .ref d2, .ref d3], ai d1 cyI 3 (nF ct), aa d2 cyA 3 (r3 k0 k1 k2), aa d3 cyA 3 (r3 v0 v1 v2), ai k2 cyI 12 (kd 2), ai v2 cyI 12 (vl 2), ai g0 cyI 3 fp] H := hP
                  have hD : va_D A [ai k1 cyI 12 (kd 1), ai v1 cyI 12 (vl 1), ai k0 cyI 12 (kd 0), ai v0 cyI 12 (vl 0), ob q0 3 [.ref a0, .ref t0, .ref z0, .int isv, .ref d0, .ref e0, .int fz, .ref g0], ob a0 0 [.int (nI n), .ref a1, .ref a2, .ref a3, .ref a4, .int vs, .int vb, .int vd], ai a1 cyI 7 fh, ai a2 cyI 7 fg, ai a3 cyI 7 ff, ai a4 cyI 7 fk, ob t0 0 [.int (nI n), .ref t1, .ref t2, .ref t3, .ref t4, .int ((pl phc psc nuc n fp fz (kd 2) (vl 2) (ct 2) 0 0 fh fg (bgY n ff fp fz 0) fk vs vb 0).2.2.2.2.1), .int ((pl phc psc nuc n fp fz (kd 2) (vl 2) (ct 2) 0 0 fh fg (bgY n ff fp fz 0) fk vs vb 0).2.2.2.2.2.1), .int ((pl phc psc nuc n fp fz (kd 2) (vl 2) (ct 2) 0 0 fh fg (bgY n ff fp fz 0) fk vs vb 0).2.2.2.2.2.2)], ai t1 cyI 7 ((pl phc psc nuc n fp fz (kd 2) (vl 2) (ct 2) 0 0 fh fg (bgY n ff fp fz 0) fk vs vb 0).1), ai t2 cyI 7 ((pl phc psc nuc n fp fz (kd 2) (vl 2) (ct 2) 0 0 fh fg (bgY n ff fp fz 0) fk vs vb 0).2.1), ai t3 cyI 7 ((pl phc psc nuc n fp fz (kd 2) (vl 2) (ct 2) 0 0 fh fg (bgY n ff fp fz 0) fk vs vb 0).2.2.1), ai t4 cyI 7 ((pl phc psc nuc n fp fz (kd 2) (vl 2) (ct 2) 0 0 fh fg (bgY n ff fp fz 0) fk vs vb 0).2.2.2.1), ob d0 2 [.ref d1, .ref d2, .ref d3], ai d1 cyI 3 (nF ct), aa d2 cyA 3 (r3 k0 k1 k2), aa d3 cyA 3 (r3 v0 v1 v2), ai k2 cyI 12 (kd 2), ai v2 cyI 12 (vl 2), ai g0 cyI 3 fp] := hD
                  refine lv_iload_n hx hb dX3_worstCrest_27 rfl (lv_at hl 1 rfl) ?_
                  refine lv_aload_n hx hb dX3_worstCrest_28 rfl (lv_at hl 2 rfl) ?_
                  refine va_get (D := (dC, dI)) (ci := 3) (v := .ref t0) (C := RX3) (T := TX3) (N := 8) hx hb hts hin_X3 hown hK hP 4 rfl rfl 1 (by decide) hw_5 (fun _ h9 => h9) rfl dX3_worstCrest_29 ?_
                  refine ra_cR (q := (RX0, TX0, 8)) (ci := 0) (As := []) (rest := [.int (jmin 99 (gMax ((pl phc psc nuc n fp fz (kd 0) (vl 0) (ct 0) 0 0 fh fg (bgY n ff fp fz 0) fk vs vb 0).1) n 0 0))]) (wc := [ob t0 0 [.int (nI n), .ref t1, .ref t2, .ref t3, .ref t4, .int ((pl phc psc nuc n fp fz (kd 2) (vl 2) (ct 2) 0 0 fh fg (bgY n ff fp fz 0) fk vs vb 0).2.2.2.2.1), .int ((pl phc psc nuc n fp fz (kd 2) (vl 2) (ct 2) 0 0 fh fg (bgY n ff fp fz 0) fk vs vb 0).2.2.2.2.2.1), .int ((pl phc psc nuc n fp fz (kd 2) (vl 2) (ct 2) 0 0 fh fg (bgY n ff fp fz 0) fk vs vb 0).2.2.2.2.2.2)], ai t1 cyI 7 ((pl phc psc nuc n fp fz (kd 2) (vl 2) (ct 2) 0 0 fh fg (bgY n ff fp fz 0) fk vs vb 0).1), ai t2 cyI 7 ((pl phc psc nuc n fp fz (kd 2) (vl 2) (ct 2) 0 0 fh fg (bgY n ff fp fz 0) fk vs vb 0).2.1), ai t3 cyI 7 ((pl phc psc nuc n fp fz (kd 2) (vl 2) (ct 2) 0 0 fh fg (bgY n ff fp fz 0) fk vs vb 0).2.2.1), ai t4 cyI 7 ((pl phc psc nuc n fp fz (kd 2) (vl 2) (ct 2) 0 0 fh fg (bgY n ff fp fz 0) fk vs vb 0).2.2.2.1)]) ⟨hx, hb, hml, hown, hts⟩ (c_X0_greatestHeight l dC dI cyI cyA t0 t1 t2 t3 t4 n ((pl phc psc nuc n fp fz (kd 2) (vl 2) (ct 2) 0 0 fh fg (bgY n ff fp fz 0) fk vs vb 0).1) ((pl phc psc nuc n fp fz (kd 2) (vl 2) (ct 2) 0 0 fh fg (bgY n ff fp fz 0) fk vs vb 0).2.1) ((pl phc psc nuc n fp fz (kd 2) (vl 2) (ct 2) 0 0 fh fg (bgY n ff fp fz 0) fk vs vb 0).2.2.1) ((pl phc psc nuc n fp fz (kd 2) (vl 2) (ct 2) 0 0 fh fg (bgY n ff fp fz 0) fk vs vb 0).2.2.2.1) ((pl phc psc nuc n fp fz (kd 2) (vl 2) (ct 2) 0 0 fh fg (bgY n ff fp fz 0) fk vs vb 0).2.2.2.2.1) ((pl phc psc nuc n fp fz (kd 2) (vl 2) (ct 2) 0 0 fh fg (bgY n ff fp fz 0) fk vs vb 0).2.2.2.2.2.1) ((pl phc psc nuc n fp fz (kd 2) (vl 2) (ct 2) 0 0 fh fg (bgY n ff fp fz 0) fk vs vb 0).2.2.2.2.2.2) (by omega)) (cwV 0 hts gX3_worstCrest_X0_greatestHeight rfl rfl rfl (by decide +kernel) ⟨Nat.le_of_ble_eq_true rfl, Nat.le_of_ble_eq_true rfl⟩) hK hN hP [10, 11, 12, 13, 14] rfl rfl rfl rfl hl.1 rfl (Nat.le_of_ble_eq_true rfl) dX3_worstCrest_32 ⟨Nat.le_of_ble_eq_true rfl, Nat.le_of_ble_eq_true rfl⟩ ?_
                  refine va_mmin hx hb (hml.trans hl.1.symm) hown hw_6 hw_7 hw_8 hw_9 (Nat.le_of_ble_eq_true rfl) (Nat.le_of_ble_eq_true rfl) (Nat.le_of_ble_eq_true rfl) (Nat.le_of_ble_eq_true rfl) dX3_worstCrest_35 ?_
                  refine ra_top (jmin (jmin 99 (gMax ((pl phc psc nuc n fp fz (kd 0) (vl 0) (ct 0) 0 0 fh fg (bgY n ff fp fz 0) fk vs vb 0).1) n 0 0)) (gMax ((pl phc psc nuc n fp fz (kd 2) (vl 2) (ct 2) 0 0 fh fg (bgY n ff fp fz 0) fk vs vb 0).1) n 0 0)) rfl ?_
                  refine lv_istore_n (lv' := [(2, .int (jmin (jmin 99 (gMax ((pl phc psc nuc n fp fz (kd 0) (vl 0) (ct 0) 0 0 fh fg (bgY n ff fp fz 0) fk vs vb 0).1) n 0 0)) (gMax ((pl phc psc nuc n fp fz (kd 2) (vl 2) (ct 2) 0 0 fh fg (bgY n ff fp fz 0) fk vs vb 0).1) n 0 0))), (3, .int 2), (0, .ref q0), (1, .int fo)]) hx hb dX3_worstCrest_38 rfl hl (by decide) rfl (fun ls hl => ?_)
                  refine lv_aload_n hx hb dX3_worstCrest_39 rfl (lv_at hl 2 rfl) ?_
                  refine va_get (D := (dC, dI)) (ci := 3) (v := .ref t0) (C := RX3) (T := TX3) (N := 8) hx hb hts hin_X3 hown hK hP 4 rfl rfl 1 (by decide) hw_5 (fun _ h9 => h9) rfl dX3_worstCrest_40 ?_
                  refine va_get (D := (dC, dI)) (ci := 0) (v := .int ((pl phc psc nuc n fp fz (kd 2) (vl 2) (ct 2) 0 0 fh fg (bgY n ff fp fz 0) fk vs vb 0).2.2.2.2.2.2)) (C := RX0) (T := TX0) (N := 8) hx hb hts hin_X0 hown hK hP 10 rfl rfl 7 (by decide) hw_10 (fun _ h9 => h9) rfl dX3_worstCrest_43 ?_
                  refine lv_if_gt (tgt := 54) hx hb dX3_worstCrest_46 (by decide) (fun c_46_2 => ?_) (fun c_46_2 => ?_)
                  · ---- to 54
                    refine lv_iconst (v := (-1)) hx hb dX3_worstCrest_54 (by decide) ?_
                    rw [hQ]
                    exact ra_iretW (n, (pl phc psc nuc n fp fz (kd 2) (vl 2) (ct 2) 0 0 fh fg (bgY n ff fp fz 0) fk vs vb 0).1, (pl phc psc nuc n fp fz (kd 2) (vl 2) (ct 2) 0 0 fh fg (bgY n ff fp fz 0) fk vs vb 0).2.1, (pl phc psc nuc n fp fz (kd 2) (vl 2) (ct 2) 0 0 fh fg (bgY n ff fp fz 0) fk vs vb 0).2.2.1, (pl phc psc nuc n fp fz (kd 2) (vl 2) (ct 2) 0 0 fh fg (bgY n ff fp fz 0) fk vs vb 0).2.2.2.1, (pl phc psc nuc n fp fz (kd 2) (vl 2) (ct 2) 0 0 fh fg (bgY n ff fp fz 0) fk vs vb 0).2.2.2.2.1, (pl phc psc nuc n fp fz (kd 2) (vl 2) (ct 2) 0 0 fh fg (bgY n ff fp fz 0) fk vs vb 0).2.2.2.2.2.1, (pl phc psc nuc n fp fz (kd 2) (vl 2) (ct 2) 0 0 fh fg (bgY n ff fp fz 0) fk vs vb 0).2.2.2.2.2.2) hx hb hr hlocks rfl hK (hP.sub [4, 5, 6, 7, 8, 9, 10, 11, 12, 13, 14, 15, 16, 17, 18, 2, 0, 19, 3, 1, 20, 21] rfl) (hD.sub [4, 5, 6, 7, 8, 9, 10, 11, 12, 13, 14, 15, 16, 17, 18, 2, 0, 19, 3, 1, 20, 21] (by decide) rfl) hS (Eq.symm ((wSt_k (ct := ct) (cr := crW phc psc nuc n fz ct kd vl fh fg ff fk vs vb fp) (fl := flW phc psc nuc n fz ct kd vl fh fg ff fk vs vb fp) (fo := fo) (w := 0) n_19 c_46 c_51).trans ((wSt_0 (ct := ct) (cr := crW phc psc nuc n fz ct kd vl fh fg ff fk vs vb fp) (fl := flW phc psc nuc n fz ct kd vl fh fg ff fk vs vb fp) (fo := fo) (w := 1) n_19_2).trans (wSt_f (ct := ct) (cr := crW phc psc nuc n fz ct kd vl fh fg ff fk vs vb fp) (fl := flW phc psc nuc n fz ct kd vl fh fg ff fk vs vb fp) (fo := fo) (w := 2) n_19_3 c_46_2)))) dX3_worstCrest_55
                  · ---- on
                    refine lv_iload_n hx hb dX3_worstCrest_49 rfl (lv_at hl 0 rfl) ?_
                    refine lv_iload_n hx hb dX3_worstCrest_50 rfl (lv_at hl 3 rfl) ?_
                    refine lv_icmp_ge (tgt := 56) hx hb dX3_worstCrest_51 (by decide) (fun c_51_2 => ?_) (fun c_51_2 => ?_)
                    · ---- to 56
                      refine lv_iinc (v := 3) (lv' := [(3, .int 3), (2, .int (jmin (jmin 99 (gMax ((pl phc psc nuc n fp fz (kd 0) (vl 0) (ct 0) 0 0 fh fg (bgY n ff fp fz 0) fk vs vb 0).1) n 0 0)) (gMax ((pl phc psc nuc n fp fz (kd 2) (vl 2) (ct 2) 0 0 fh fg (bgY n ff fp fz 0) fk vs vb 0).1) n 0 0))), (0, .ref q0), (1, .int fo)]) hx hb dX3_worstCrest_56 hl (k := 1) rfl (by decide) (by decide) rfl (fun ls hl => ?_)
                      refine lv_goto (tgt := 5) hx hb dX3_worstCrest_59 (by decide) ?_
                      refine lv_iload_n hx hb dX3_worstCrest_5 rfl (lv_at hl 0 rfl) ?_
                      refine lv_iconst (v := 3) hx hb dX3_worstCrest_6 (by decide) ?_
                      refine lv_icmp_ge (tgt := 62) hx hb dX3_worstCrest_7 (by decide) (fun c_7_4 => ?_) (fun c_7_4 => ?_)
                      · ---- to 62
                        refine lv_iload_n hx hb dX3_worstCrest_62 rfl (lv_at hl 1 rfl) ?_
                        rw [hQ]
                        exact ra_iretW (n, (pl phc psc nuc n fp fz (kd 2) (vl 2) (ct 2) 0 0 fh fg (bgY n ff fp fz 0) fk vs vb 0).1, (pl phc psc nuc n fp fz (kd 2) (vl 2) (ct 2) 0 0 fh fg (bgY n ff fp fz 0) fk vs vb 0).2.1, (pl phc psc nuc n fp fz (kd 2) (vl 2) (ct 2) 0 0 fh fg (bgY n ff fp fz 0) fk vs vb 0).2.2.1, (pl phc psc nuc n fp fz (kd 2) (vl 2) (ct 2) 0 0 fh fg (bgY n ff fp fz 0) fk vs vb 0).2.2.2.1, (pl phc psc nuc n fp fz (kd 2) (vl 2) (ct 2) 0 0 fh fg (bgY n ff fp fz 0) fk vs vb 0).2.2.2.2.1, (pl phc psc nuc n fp fz (kd 2) (vl 2) (ct 2) 0 0 fh fg (bgY n ff fp fz 0) fk vs vb 0).2.2.2.2.2.1, (pl phc psc nuc n fp fz (kd 2) (vl 2) (ct 2) 0 0 fh fg (bgY n ff fp fz 0) fk vs vb 0).2.2.2.2.2.2) hx hb hr hlocks rfl hK (hP.sub [4, 5, 6, 7, 8, 9, 10, 11, 12, 13, 14, 15, 16, 17, 18, 2, 0, 19, 3, 1, 20, 21] rfl) (hD.sub [4, 5, 6, 7, 8, 9, 10, 11, 12, 13, 14, 15, 16, 17, 18, 2, 0, 19, 3, 1, 20, 21] (by decide) rfl) hS (Eq.symm ((wSt_k (ct := ct) (cr := crW phc psc nuc n fz ct kd vl fh fg ff fk vs vb fp) (fl := flW phc psc nuc n fz ct kd vl fh fg ff fk vs vb fp) (fo := fo) (w := 0) n_19 c_46 c_51).trans ((wSt_0 (ct := ct) (cr := crW phc psc nuc n fz ct kd vl fh fg ff fk vs vb fp) (fl := flW phc psc nuc n fz ct kd vl fh fg ff fk vs vb fp) (fo := fo) (w := 1) n_19_2).trans (wSt_k (ct := ct) (cr := crW phc psc nuc n fz ct kd vl fh fg ff fk vs vb fp) (fl := flW phc psc nuc n fz ct kd vl fh fg ff fk vs vb fp) (fo := fo) (w := 2) n_19_3 c_46_2 c_51_2)))) dX3_worstCrest_63
                      · ---- on
                        exact absurd c_7_4 (by decide)
                    · ---- on
                      refine lv_iconst (v := (-1)) hx hb dX3_worstCrest_54 (by decide) ?_
                      rw [hQ]
                      exact ra_iretW (n, (pl phc psc nuc n fp fz (kd 2) (vl 2) (ct 2) 0 0 fh fg (bgY n ff fp fz 0) fk vs vb 0).1, (pl phc psc nuc n fp fz (kd 2) (vl 2) (ct 2) 0 0 fh fg (bgY n ff fp fz 0) fk vs vb 0).2.1, (pl phc psc nuc n fp fz (kd 2) (vl 2) (ct 2) 0 0 fh fg (bgY n ff fp fz 0) fk vs vb 0).2.2.1, (pl phc psc nuc n fp fz (kd 2) (vl 2) (ct 2) 0 0 fh fg (bgY n ff fp fz 0) fk vs vb 0).2.2.2.1, (pl phc psc nuc n fp fz (kd 2) (vl 2) (ct 2) 0 0 fh fg (bgY n ff fp fz 0) fk vs vb 0).2.2.2.2.1, (pl phc psc nuc n fp fz (kd 2) (vl 2) (ct 2) 0 0 fh fg (bgY n ff fp fz 0) fk vs vb 0).2.2.2.2.2.1, (pl phc psc nuc n fp fz (kd 2) (vl 2) (ct 2) 0 0 fh fg (bgY n ff fp fz 0) fk vs vb 0).2.2.2.2.2.2) hx hb hr hlocks rfl hK (hP.sub [4, 5, 6, 7, 8, 9, 10, 11, 12, 13, 14, 15, 16, 17, 18, 2, 0, 19, 3, 1, 20, 21] rfl) (hD.sub [4, 5, 6, 7, 8, 9, 10, 11, 12, 13, 14, 15, 16, 17, 18, 2, 0, 19, 3, 1, 20, 21] (by decide) rfl) hS (Eq.symm ((wSt_k (ct := ct) (cr := crW phc psc nuc n fz ct kd vl fh fg ff fk vs vb fp) (fl := flW phc psc nuc n fz ct kd vl fh fg ff fk vs vb fp) (fo := fo) (w := 0) n_19 c_46 c_51).trans ((wSt_0 (ct := ct) (cr := crW phc psc nuc n fz ct kd vl fh fg ff fk vs vb fp) (fl := flW phc psc nuc n fz ct kd vl fh fg ff fk vs vb fp) (fo := fo) (w := 1) n_19_2).trans (wSt_l (ct := ct) (cr := crW phc psc nuc n fz ct kd vl fh fg ff fk vs vb fp) (fl := flW phc psc nuc n fz ct kd vl fh fg ff fk vs vb fp) (fo := fo) (w := 2) n_19_3 c_46_2 c_51_2)))) dX3_worstCrest_55
            · ---- on
              have n_19_2 := (nq_le_n (ct 1) 0 (by omega) (by omega)).mp c_19_2
              refine lv_aload_n hx hb dX3_worstCrest_22 rfl (lv_at hl 2 rfl) ?_
              refine lv_iload_n hx hb dX3_worstCrest_23 rfl (lv_at hl 0 rfl) ?_
              refine ra_cV (q := (RX3, TX3, 8)) (ci := 3) (As := [.int 1]) (rest := []) (wc := [ob q0 3 [.ref a0, .ref t0, .ref z0, .int isv, .ref d0, .ref e0, .int fz, .ref g0], ob a0 0 [.int (nI n), .ref a1, .ref a2, .ref a3, .ref a4, .int vs, .int vb, .int vd], ai a1 cyI 7 fh, ai a2 cyI 7 fg, ai a3 cyI 7 ff, ai a4 cyI 7 fk, ob t0 0 [.int (nI n), .ref t1, .ref t2, .ref t3, .ref t4, .int ((pl phc psc nuc n fp fz (kd 0) (vl 0) (ct 0) 0 0 fh fg (bgY n ff fp fz 0) fk vs vb 0).2.2.2.2.1), .int ((pl phc psc nuc n fp fz (kd 0) (vl 0) (ct 0) 0 0 fh fg (bgY n ff fp fz 0) fk vs vb 0).2.2.2.2.2.1), .int ((pl phc psc nuc n fp fz (kd 0) (vl 0) (ct 0) 0 0 fh fg (bgY n ff fp fz 0) fk vs vb 0).2.2.2.2.2.2)], ai t1 cyI 7 ((pl phc psc nuc n fp fz (kd 0) (vl 0) (ct 0) 0 0 fh fg (bgY n ff fp fz 0) fk vs vb 0).1), ai t2 cyI 7 ((pl phc psc nuc n fp fz (kd 0) (vl 0) (ct 0) 0 0 fh fg (bgY n ff fp fz 0) fk vs vb 0).2.1), ai t3 cyI 7 ((pl phc psc nuc n fp fz (kd 0) (vl 0) (ct 0) 0 0 fh fg (bgY n ff fp fz 0) fk vs vb 0).2.2.1), ai t4 cyI 7 ((pl phc psc nuc n fp fz (kd 0) (vl 0) (ct 0) 0 0 fh fg (bgY n ff fp fz 0) fk vs vb 0).2.2.2.1), ob d0 2 [.ref d1, .ref d2, .ref d3], ai d1 cyI 3 (nF ct), aa d2 cyA 3 (r3 k0 k1 k2), aa d3 cyA 3 (r3 v0 v1 v2), ai k1 cyI 12 (kd 1), ai v1 cyI 12 (vl 1), ai g0 cyI 3 fp]) (wr := [ai k2 cyI 12 (kd 2), ai v2 cyI 12 (vl 2), ai k0 cyI 12 (kd 0), ai v0 cyI 12 (vl 0)]) ⟨hx, hb, hml, hown, hts⟩ (c_X3_play l dC dI cyI cyA q0 z0 e0 g0 isv fz a0 a1 a2 a3 a4 n fh fg ff fk vs vb vd t0 t1 t2 t3 t4 n ((pl phc psc nuc n fp fz (kd 0) (vl 0) (ct 0) 0 0 fh fg (bgY n ff fp fz 0) fk vs vb 0).1) ((pl phc psc nuc n fp fz (kd 0) (vl 0) (ct 0) 0 0 fh fg (bgY n ff fp fz 0) fk vs vb 0).2.1) ((pl phc psc nuc n fp fz (kd 0) (vl 0) (ct 0) 0 0 fh fg (bgY n ff fp fz 0) fk vs vb 0).2.2.1) ((pl phc psc nuc n fp fz (kd 0) (vl 0) (ct 0) 0 0 fh fg (bgY n ff fp fz 0) fk vs vb 0).2.2.2.1) ((pl phc psc nuc n fp fz (kd 0) (vl 0) (ct 0) 0 0 fh fg (bgY n ff fp fz 0) fk vs vb 0).2.2.2.2.1) ((pl phc psc nuc n fp fz (kd 0) (vl 0) (ct 0) 0 0 fh fg (bgY n ff fp fz 0) fk vs vb 0).2.2.2.2.2.1) ((pl phc psc nuc n fp fz (kd 0) (vl 0) (ct 0) 0 0 fh fg (bgY n ff fp fz 0) fk vs vb 0).2.2.2.2.2.2) d0 d1 d2 d3 ct (r3 k0 k1 k2) (r3 v0 v1 v2) 1 k1 v1 (kd 1) (vl 1) fp (by omega) (by omega) (by omega) rfl rfl H.size) (cwV 1 hts gX3_worstCrest_X3_play rfl rfl rfl (by decide +kernel) ⟨Nat.le_of_ble_eq_true rfl, Nat.le_of_ble_eq_true rfl⟩) hK hN hP hD hA hS [4, 5, 6, 7, 8, 9, 10, 11, 12, 13, 14, 15, 16, 17, 18, 0, 2, 21] [1, 3, 19, 20] rfl rfl (by decide) (by decide) (by decide) rfl rfl rfl hl.1 rfl (Nat.le_of_ble_eq_true rfl) dX3_worstCrest_24 ⟨Nat.le_of_ble_eq_true rfl, Nat.le_of_ble_eq_true rfl⟩ (fun u_6 hw_c6 H locs hP hD hS => ?_)
              have hP : va_P (dC, dI) vwCl [ai k2 cyI 12 (kd 2), ai v2 cyI 12 (vl 2), ai k0 cyI 12 (kd 0), ai v0 cyI 12 (vl 0), ob q0 3 [.ref a0, .ref t0, .ref z0, .int isv, .ref d0, .ref e0, .int fz, .ref g0], ob a0 0 [.int (nI n), .ref a1, .ref a2, .ref a3, .ref a4, .int vs, .int vb, .int vd], ai a1 cyI 7 fh, ai a2 cyI 7 fg, ai a3 cyI 7 ff, ai a4 cyI 7 fk, ob t0 0 [.int (nI n), .ref t1, .ref t2, .ref t3, .ref t4, .int ((pl phc psc nuc n fp fz (kd 1) (vl 1) (ct 1) 0 0 fh fg (bgY n ff fp fz 0) fk vs vb 0).2.2.2.2.1), .int ((pl phc psc nuc n fp fz (kd 1) (vl 1) (ct 1) 0 0 fh fg (bgY n ff fp fz 0) fk vs vb 0).2.2.2.2.2.1), .int ((pl phc psc nuc n fp fz (kd 1) (vl 1) (ct 1) 0 0 fh fg (bgY n ff fp fz 0) fk vs vb 0).2.2.2.2.2.2)], ai t1 cyI 7 ((pl phc psc nuc n fp fz (kd 1) (vl 1) (ct 1) 0 0 fh fg (bgY n ff fp fz 0) fk vs vb 0).1), ai t2 cyI 7 ((pl phc psc nuc n fp fz (kd 1) (vl 1) (ct 1) 0 0 fh fg (bgY n ff fp fz 0) fk vs vb 0).2.1), ai t3 cyI 7 ((pl phc psc nuc n fp fz (kd 1) (vl 1) (ct 1) 0 0 fh fg (bgY n ff fp fz 0) fk vs vb 0).2.2.1), ai t4 cyI 7 ((pl phc psc nuc n fp fz (kd 1) (vl 1) (ct 1) 0 0 fh fg (bgY n ff fp fz 0) fk vs vb 0).2.2.2.1), ob d0 2 [.ref d1, .ref d2, .ref d3], ai d1 cyI 3 (nF ct), aa d2 cyA 3 (r3 k0 k1 k2), aa d3 cyA 3 (r3 v0 v1 v2), ai k1 cyI 12 (kd 1), ai v1 cyI 12 (vl 1), ai g0 cyI 3 fp] H := hP
              have hD : va_D A [ai k2 cyI 12 (kd 2), ai v2 cyI 12 (vl 2), ai k0 cyI 12 (kd 0), ai v0 cyI 12 (vl 0), ob q0 3 [.ref a0, .ref t0, .ref z0, .int isv, .ref d0, .ref e0, .int fz, .ref g0], ob a0 0 [.int (nI n), .ref a1, .ref a2, .ref a3, .ref a4, .int vs, .int vb, .int vd], ai a1 cyI 7 fh, ai a2 cyI 7 fg, ai a3 cyI 7 ff, ai a4 cyI 7 fk, ob t0 0 [.int (nI n), .ref t1, .ref t2, .ref t3, .ref t4, .int ((pl phc psc nuc n fp fz (kd 1) (vl 1) (ct 1) 0 0 fh fg (bgY n ff fp fz 0) fk vs vb 0).2.2.2.2.1), .int ((pl phc psc nuc n fp fz (kd 1) (vl 1) (ct 1) 0 0 fh fg (bgY n ff fp fz 0) fk vs vb 0).2.2.2.2.2.1), .int ((pl phc psc nuc n fp fz (kd 1) (vl 1) (ct 1) 0 0 fh fg (bgY n ff fp fz 0) fk vs vb 0).2.2.2.2.2.2)], ai t1 cyI 7 ((pl phc psc nuc n fp fz (kd 1) (vl 1) (ct 1) 0 0 fh fg (bgY n ff fp fz 0) fk vs vb 0).1), ai t2 cyI 7 ((pl phc psc nuc n fp fz (kd 1) (vl 1) (ct 1) 0 0 fh fg (bgY n ff fp fz 0) fk vs vb 0).2.1), ai t3 cyI 7 ((pl phc psc nuc n fp fz (kd 1) (vl 1) (ct 1) 0 0 fh fg (bgY n ff fp fz 0) fk vs vb 0).2.2.1), ai t4 cyI 7 ((pl phc psc nuc n fp fz (kd 1) (vl 1) (ct 1) 0 0 fh fg (bgY n ff fp fz 0) fk vs vb 0).2.2.2.1), ob d0 2 [.ref d1, .ref d2, .ref d3], ai d1 cyI 3 (nF ct), aa d2 cyA 3 (r3 k0 k1 k2), aa d3 cyA 3 (r3 v0 v1 v2), ai k1 cyI 12 (kd 1), ai v1 cyI 12 (vl 1), ai g0 cyI 3 fp] := hD
              refine lv_iload_n hx hb dX3_worstCrest_27 rfl (lv_at hl 1 rfl) ?_
              refine lv_aload_n hx hb dX3_worstCrest_28 rfl (lv_at hl 2 rfl) ?_
              refine va_get (D := (dC, dI)) (ci := 3) (v := .ref t0) (C := RX3) (T := TX3) (N := 8) hx hb hts hin_X3 hown hK hP 4 rfl rfl 1 (by decide) hw_5 (fun _ h9 => h9) rfl dX3_worstCrest_29 ?_
              refine ra_cR (q := (RX0, TX0, 8)) (ci := 0) (As := []) (rest := [.int (jmin 99 (gMax ((pl phc psc nuc n fp fz (kd 0) (vl 0) (ct 0) 0 0 fh fg (bgY n ff fp fz 0) fk vs vb 0).1) n 0 0))]) (wc := [ob t0 0 [.int (nI n), .ref t1, .ref t2, .ref t3, .ref t4, .int ((pl phc psc nuc n fp fz (kd 1) (vl 1) (ct 1) 0 0 fh fg (bgY n ff fp fz 0) fk vs vb 0).2.2.2.2.1), .int ((pl phc psc nuc n fp fz (kd 1) (vl 1) (ct 1) 0 0 fh fg (bgY n ff fp fz 0) fk vs vb 0).2.2.2.2.2.1), .int ((pl phc psc nuc n fp fz (kd 1) (vl 1) (ct 1) 0 0 fh fg (bgY n ff fp fz 0) fk vs vb 0).2.2.2.2.2.2)], ai t1 cyI 7 ((pl phc psc nuc n fp fz (kd 1) (vl 1) (ct 1) 0 0 fh fg (bgY n ff fp fz 0) fk vs vb 0).1), ai t2 cyI 7 ((pl phc psc nuc n fp fz (kd 1) (vl 1) (ct 1) 0 0 fh fg (bgY n ff fp fz 0) fk vs vb 0).2.1), ai t3 cyI 7 ((pl phc psc nuc n fp fz (kd 1) (vl 1) (ct 1) 0 0 fh fg (bgY n ff fp fz 0) fk vs vb 0).2.2.1), ai t4 cyI 7 ((pl phc psc nuc n fp fz (kd 1) (vl 1) (ct 1) 0 0 fh fg (bgY n ff fp fz 0) fk vs vb 0).2.2.2.1)]) ⟨hx, hb, hml, hown, hts⟩ (c_X0_greatestHeight l dC dI cyI cyA t0 t1 t2 t3 t4 n ((pl phc psc nuc n fp fz (kd 1) (vl 1) (ct 1) 0 0 fh fg (bgY n ff fp fz 0) fk vs vb 0).1) ((pl phc psc nuc n fp fz (kd 1) (vl 1) (ct 1) 0 0 fh fg (bgY n ff fp fz 0) fk vs vb 0).2.1) ((pl phc psc nuc n fp fz (kd 1) (vl 1) (ct 1) 0 0 fh fg (bgY n ff fp fz 0) fk vs vb 0).2.2.1) ((pl phc psc nuc n fp fz (kd 1) (vl 1) (ct 1) 0 0 fh fg (bgY n ff fp fz 0) fk vs vb 0).2.2.2.1) ((pl phc psc nuc n fp fz (kd 1) (vl 1) (ct 1) 0 0 fh fg (bgY n ff fp fz 0) fk vs vb 0).2.2.2.2.1) ((pl phc psc nuc n fp fz (kd 1) (vl 1) (ct 1) 0 0 fh fg (bgY n ff fp fz 0) fk vs vb 0).2.2.2.2.2.1) ((pl phc psc nuc n fp fz (kd 1) (vl 1) (ct 1) 0 0 fh fg (bgY n ff fp fz 0) fk vs vb 0).2.2.2.2.2.2) (by omega)) (cwV 0 hts gX3_worstCrest_X0_greatestHeight rfl rfl rfl (by decide +kernel) ⟨Nat.le_of_ble_eq_true rfl, Nat.le_of_ble_eq_true rfl⟩) hK hN hP [10, 11, 12, 13, 14] rfl rfl rfl rfl hl.1 rfl (Nat.le_of_ble_eq_true rfl) dX3_worstCrest_32 ⟨Nat.le_of_ble_eq_true rfl, Nat.le_of_ble_eq_true rfl⟩ ?_
              refine va_mmin hx hb (hml.trans hl.1.symm) hown hw_6 hw_7 hw_8 hw_9 (Nat.le_of_ble_eq_true rfl) (Nat.le_of_ble_eq_true rfl) (Nat.le_of_ble_eq_true rfl) (Nat.le_of_ble_eq_true rfl) dX3_worstCrest_35 ?_
              refine ra_top (jmin (jmin 99 (gMax ((pl phc psc nuc n fp fz (kd 0) (vl 0) (ct 0) 0 0 fh fg (bgY n ff fp fz 0) fk vs vb 0).1) n 0 0)) (gMax ((pl phc psc nuc n fp fz (kd 1) (vl 1) (ct 1) 0 0 fh fg (bgY n ff fp fz 0) fk vs vb 0).1) n 0 0)) rfl ?_
              refine lv_istore_n (lv' := [(2, .int (jmin (jmin 99 (gMax ((pl phc psc nuc n fp fz (kd 0) (vl 0) (ct 0) 0 0 fh fg (bgY n ff fp fz 0) fk vs vb 0).1) n 0 0)) (gMax ((pl phc psc nuc n fp fz (kd 1) (vl 1) (ct 1) 0 0 fh fg (bgY n ff fp fz 0) fk vs vb 0).1) n 0 0))), (3, .int 1), (0, .ref q0), (1, .int fo)]) hx hb dX3_worstCrest_38 rfl hl (by decide) rfl (fun ls hl => ?_)
              refine lv_aload_n hx hb dX3_worstCrest_39 rfl (lv_at hl 2 rfl) ?_
              refine va_get (D := (dC, dI)) (ci := 3) (v := .ref t0) (C := RX3) (T := TX3) (N := 8) hx hb hts hin_X3 hown hK hP 4 rfl rfl 1 (by decide) hw_5 (fun _ h9 => h9) rfl dX3_worstCrest_40 ?_
              refine va_get (D := (dC, dI)) (ci := 0) (v := .int ((pl phc psc nuc n fp fz (kd 1) (vl 1) (ct 1) 0 0 fh fg (bgY n ff fp fz 0) fk vs vb 0).2.2.2.2.2.2)) (C := RX0) (T := TX0) (N := 8) hx hb hts hin_X0 hown hK hP 10 rfl rfl 7 (by decide) hw_10 (fun _ h9 => h9) rfl dX3_worstCrest_43 ?_
              refine lv_if_gt (tgt := 54) hx hb dX3_worstCrest_46 (by decide) (fun c_46_2 => ?_) (fun c_46_2 => ?_)
              · ---- to 54
                refine lv_iconst (v := (-1)) hx hb dX3_worstCrest_54 (by decide) ?_
                rw [hQ]
                exact ra_iretW (n, (pl phc psc nuc n fp fz (kd 1) (vl 1) (ct 1) 0 0 fh fg (bgY n ff fp fz 0) fk vs vb 0).1, (pl phc psc nuc n fp fz (kd 1) (vl 1) (ct 1) 0 0 fh fg (bgY n ff fp fz 0) fk vs vb 0).2.1, (pl phc psc nuc n fp fz (kd 1) (vl 1) (ct 1) 0 0 fh fg (bgY n ff fp fz 0) fk vs vb 0).2.2.1, (pl phc psc nuc n fp fz (kd 1) (vl 1) (ct 1) 0 0 fh fg (bgY n ff fp fz 0) fk vs vb 0).2.2.2.1, (pl phc psc nuc n fp fz (kd 1) (vl 1) (ct 1) 0 0 fh fg (bgY n ff fp fz 0) fk vs vb 0).2.2.2.2.1, (pl phc psc nuc n fp fz (kd 1) (vl 1) (ct 1) 0 0 fh fg (bgY n ff fp fz 0) fk vs vb 0).2.2.2.2.2.1, (pl phc psc nuc n fp fz (kd 1) (vl 1) (ct 1) 0 0 fh fg (bgY n ff fp fz 0) fk vs vb 0).2.2.2.2.2.2) hx hb hr hlocks rfl hK (hP.sub [4, 5, 6, 7, 8, 9, 10, 11, 12, 13, 14, 15, 16, 17, 18, 2, 19, 0, 3, 20, 1, 21] rfl) (hD.sub [4, 5, 6, 7, 8, 9, 10, 11, 12, 13, 14, 15, 16, 17, 18, 2, 19, 0, 3, 20, 1, 21] (by decide) rfl) hS (Eq.symm ((wSt_k (ct := ct) (cr := crW phc psc nuc n fz ct kd vl fh fg ff fk vs vb fp) (fl := flW phc psc nuc n fz ct kd vl fh fg ff fk vs vb fp) (fo := fo) (w := 0) n_19 c_46 c_51).trans (wSt_f (ct := ct) (cr := crW phc psc nuc n fz ct kd vl fh fg ff fk vs vb fp) (fl := flW phc psc nuc n fz ct kd vl fh fg ff fk vs vb fp) (fo := fo) (w := 1) n_19_2 c_46_2))) dX3_worstCrest_55
              · ---- on
                refine lv_iload_n hx hb dX3_worstCrest_49 rfl (lv_at hl 0 rfl) ?_
                refine lv_iload_n hx hb dX3_worstCrest_50 rfl (lv_at hl 3 rfl) ?_
                refine lv_icmp_ge (tgt := 56) hx hb dX3_worstCrest_51 (by decide) (fun c_51_2 => ?_) (fun c_51_2 => ?_)
                · ---- to 56
                  refine lv_iinc (v := 2) (lv' := [(3, .int 2), (2, .int (jmin (jmin 99 (gMax ((pl phc psc nuc n fp fz (kd 0) (vl 0) (ct 0) 0 0 fh fg (bgY n ff fp fz 0) fk vs vb 0).1) n 0 0)) (gMax ((pl phc psc nuc n fp fz (kd 1) (vl 1) (ct 1) 0 0 fh fg (bgY n ff fp fz 0) fk vs vb 0).1) n 0 0))), (0, .ref q0), (1, .int fo)]) hx hb dX3_worstCrest_56 hl (k := 1) rfl (by decide) (by decide) rfl (fun ls hl => ?_)
                  refine lv_goto (tgt := 5) hx hb dX3_worstCrest_59 (by decide) ?_
                  refine lv_iload_n hx hb dX3_worstCrest_5 rfl (lv_at hl 0 rfl) ?_
                  refine lv_iconst (v := 3) hx hb dX3_worstCrest_6 (by decide) ?_
                  refine lv_icmp_ge (tgt := 62) hx hb dX3_worstCrest_7 (by decide) (fun c_7_3 => ?_) (fun c_7_3 => ?_)
                  · ---- to 62
                    exact absurd c_7_3 (by decide)
                  · ---- on
                    refine lv_aload_n hx hb dX3_worstCrest_10 rfl (lv_at hl 2 rfl) ?_
                    refine va_get (D := (dC, dI)) (ci := 3) (v := .ref d0) (C := RX3) (T := TX3) (N := 8) hx hb hts hin_X3 hown hK hP 4 rfl rfl 4 (by decide) hw_1 (fun _ h9 => h9) rfl dX3_worstCrest_11 ?_
                    refine va_get (D := (dC, dI)) (ci := 2) (v := .ref d1) (C := RX2) (T := TX2) (N := 3) hx hb hts hin_X2 hown hK hP 15 rfl rfl 0 (by decide) hw_3 (fun _ h9 => h9) rfl dX3_worstCrest_14 ?_
                    refine lv_iload_n hx hb dX3_worstCrest_17 rfl (lv_at hl 0 rfl) ?_
                    refine ra_iald hx hb hK hP 16 rfl 2 rfl (by omega) (Nat.le_of_ble_eq_true rfl) dX3_worstCrest_18 ?_
                    refine ra_top (nI (ct 2)) rfl ?_
                    refine lv_if_le (tgt := 56) hx hb dX3_worstCrest_19 (by decide) (fun c_19_3 => ?_) (fun c_19_3 => ?_)
                    · ---- to 56
                      have n_19_3 := (nq_le (ct 2) 0 (by omega) (by omega)).mp c_19_3
                      refine lv_iinc (v := 3) (lv' := [(3, .int 3), (2, .int (jmin (jmin 99 (gMax ((pl phc psc nuc n fp fz (kd 0) (vl 0) (ct 0) 0 0 fh fg (bgY n ff fp fz 0) fk vs vb 0).1) n 0 0)) (gMax ((pl phc psc nuc n fp fz (kd 1) (vl 1) (ct 1) 0 0 fh fg (bgY n ff fp fz 0) fk vs vb 0).1) n 0 0))), (0, .ref q0), (1, .int fo)]) hx hb dX3_worstCrest_56 hl (k := 0) rfl (by decide) (by decide) rfl (fun ls hl => ?_)
                      refine lv_goto (tgt := 5) hx hb dX3_worstCrest_59 (by decide) ?_
                      refine lv_iload_n hx hb dX3_worstCrest_5 rfl (lv_at hl 0 rfl) ?_
                      refine lv_iconst (v := 3) hx hb dX3_worstCrest_6 (by decide) ?_
                      refine lv_icmp_ge (tgt := 62) hx hb dX3_worstCrest_7 (by decide) (fun c_7_4 => ?_) (fun c_7_4 => ?_)
                      · ---- to 62
                        refine lv_iload_n hx hb dX3_worstCrest_62 rfl (lv_at hl 1 rfl) ?_
                        rw [hQ]
                        exact ra_iretW (n, (pl phc psc nuc n fp fz (kd 1) (vl 1) (ct 1) 0 0 fh fg (bgY n ff fp fz 0) fk vs vb 0).1, (pl phc psc nuc n fp fz (kd 1) (vl 1) (ct 1) 0 0 fh fg (bgY n ff fp fz 0) fk vs vb 0).2.1, (pl phc psc nuc n fp fz (kd 1) (vl 1) (ct 1) 0 0 fh fg (bgY n ff fp fz 0) fk vs vb 0).2.2.1, (pl phc psc nuc n fp fz (kd 1) (vl 1) (ct 1) 0 0 fh fg (bgY n ff fp fz 0) fk vs vb 0).2.2.2.1, (pl phc psc nuc n fp fz (kd 1) (vl 1) (ct 1) 0 0 fh fg (bgY n ff fp fz 0) fk vs vb 0).2.2.2.2.1, (pl phc psc nuc n fp fz (kd 1) (vl 1) (ct 1) 0 0 fh fg (bgY n ff fp fz 0) fk vs vb 0).2.2.2.2.2.1, (pl phc psc nuc n fp fz (kd 1) (vl 1) (ct 1) 0 0 fh fg (bgY n ff fp fz 0) fk vs vb 0).2.2.2.2.2.2) hx hb hr hlocks rfl hK (hP.sub [4, 5, 6, 7, 8, 9, 10, 11, 12, 13, 14, 15, 16, 17, 18, 2, 19, 0, 3, 20, 1, 21] rfl) (hD.sub [4, 5, 6, 7, 8, 9, 10, 11, 12, 13, 14, 15, 16, 17, 18, 2, 19, 0, 3, 20, 1, 21] (by decide) rfl) hS (Eq.symm ((wSt_k (ct := ct) (cr := crW phc psc nuc n fz ct kd vl fh fg ff fk vs vb fp) (fl := flW phc psc nuc n fz ct kd vl fh fg ff fk vs vb fp) (fo := fo) (w := 0) n_19 c_46 c_51).trans ((wSt_k (ct := ct) (cr := crW phc psc nuc n fz ct kd vl fh fg ff fk vs vb fp) (fl := flW phc psc nuc n fz ct kd vl fh fg ff fk vs vb fp) (fo := fo) (w := 1) n_19_2 c_46_2 c_51_2).trans (wSt_0 (ct := ct) (cr := crW phc psc nuc n fz ct kd vl fh fg ff fk vs vb fp) (fl := flW phc psc nuc n fz ct kd vl fh fg ff fk vs vb fp) (fo := fo) (w := 2) n_19_3)))) dX3_worstCrest_63
                      · ---- on
                        exact absurd c_7_4 (by decide)
                    · ---- on
                      have n_19_3 := (nq_le_n (ct 2) 0 (by omega) (by omega)).mp c_19_3
                      refine lv_aload_n hx hb dX3_worstCrest_22 rfl (lv_at hl 2 rfl) ?_
                      refine lv_iload_n hx hb dX3_worstCrest_23 rfl (lv_at hl 0 rfl) ?_
                      refine ra_cV (q := (RX3, TX3, 8)) (ci := 3) (As := [.int 2]) (rest := []) (wc := [ob q0 3 [.ref a0, .ref t0, .ref z0, .int isv, .ref d0, .ref e0, .int fz, .ref g0], ob a0 0 [.int (nI n), .ref a1, .ref a2, .ref a3, .ref a4, .int vs, .int vb, .int vd], ai a1 cyI 7 fh, ai a2 cyI 7 fg, ai a3 cyI 7 ff, ai a4 cyI 7 fk, ob t0 0 [.int (nI n), .ref t1, .ref t2, .ref t3, .ref t4, .int ((pl phc psc nuc n fp fz (kd 1) (vl 1) (ct 1) 0 0 fh fg (bgY n ff fp fz 0) fk vs vb 0).2.2.2.2.1), .int ((pl phc psc nuc n fp fz (kd 1) (vl 1) (ct 1) 0 0 fh fg (bgY n ff fp fz 0) fk vs vb 0).2.2.2.2.2.1), .int ((pl phc psc nuc n fp fz (kd 1) (vl 1) (ct 1) 0 0 fh fg (bgY n ff fp fz 0) fk vs vb 0).2.2.2.2.2.2)], ai t1 cyI 7 ((pl phc psc nuc n fp fz (kd 1) (vl 1) (ct 1) 0 0 fh fg (bgY n ff fp fz 0) fk vs vb 0).1), ai t2 cyI 7 ((pl phc psc nuc n fp fz (kd 1) (vl 1) (ct 1) 0 0 fh fg (bgY n ff fp fz 0) fk vs vb 0).2.1), ai t3 cyI 7 ((pl phc psc nuc n fp fz (kd 1) (vl 1) (ct 1) 0 0 fh fg (bgY n ff fp fz 0) fk vs vb 0).2.2.1), ai t4 cyI 7 ((pl phc psc nuc n fp fz (kd 1) (vl 1) (ct 1) 0 0 fh fg (bgY n ff fp fz 0) fk vs vb 0).2.2.2.1), ob d0 2 [.ref d1, .ref d2, .ref d3], ai d1 cyI 3 (nF ct), aa d2 cyA 3 (r3 k0 k1 k2), aa d3 cyA 3 (r3 v0 v1 v2), ai k2 cyI 12 (kd 2), ai v2 cyI 12 (vl 2), ai g0 cyI 3 fp]) (wr := [ai k0 cyI 12 (kd 0), ai v0 cyI 12 (vl 0), ai k1 cyI 12 (kd 1), ai v1 cyI 12 (vl 1)]) ⟨hx, hb, hml, hown, hts⟩ (c_X3_play l dC dI cyI cyA q0 z0 e0 g0 isv fz a0 a1 a2 a3 a4 n fh fg ff fk vs vb vd t0 t1 t2 t3 t4 n ((pl phc psc nuc n fp fz (kd 1) (vl 1) (ct 1) 0 0 fh fg (bgY n ff fp fz 0) fk vs vb 0).1) ((pl phc psc nuc n fp fz (kd 1) (vl 1) (ct 1) 0 0 fh fg (bgY n ff fp fz 0) fk vs vb 0).2.1) ((pl phc psc nuc n fp fz (kd 1) (vl 1) (ct 1) 0 0 fh fg (bgY n ff fp fz 0) fk vs vb 0).2.2.1) ((pl phc psc nuc n fp fz (kd 1) (vl 1) (ct 1) 0 0 fh fg (bgY n ff fp fz 0) fk vs vb 0).2.2.2.1) ((pl phc psc nuc n fp fz (kd 1) (vl 1) (ct 1) 0 0 fh fg (bgY n ff fp fz 0) fk vs vb 0).2.2.2.2.1) ((pl phc psc nuc n fp fz (kd 1) (vl 1) (ct 1) 0 0 fh fg (bgY n ff fp fz 0) fk vs vb 0).2.2.2.2.2.1) ((pl phc psc nuc n fp fz (kd 1) (vl 1) (ct 1) 0 0 fh fg (bgY n ff fp fz 0) fk vs vb 0).2.2.2.2.2.2) d0 d1 d2 d3 ct (r3 k0 k1 k2) (r3 v0 v1 v2) 2 k2 v2 (kd 2) (vl 2) fp (by omega) (by omega) (by omega) rfl rfl H.size) (cwV 1 hts gX3_worstCrest_X3_play rfl rfl rfl (by decide +kernel) ⟨Nat.le_of_ble_eq_true rfl, Nat.le_of_ble_eq_true rfl⟩) hK hN hP hD hA hS [4, 5, 6, 7, 8, 9, 10, 11, 12, 13, 14, 15, 16, 17, 18, 0, 1, 21] [2, 3, 19, 20] rfl rfl (by decide) (by decide) (by decide) rfl rfl rfl hl.1 rfl (Nat.le_of_ble_eq_true rfl) dX3_worstCrest_24 ⟨Nat.le_of_ble_eq_true rfl, Nat.le_of_ble_eq_true rfl⟩ (fun u_7 hw_c7 H locs hP hD hS => ?_)
                      have hP : va_P (dC, dI) vwCl [ai k0 cyI 12 (kd 0), ai v0 cyI 12 (vl 0), ai k1 cyI 12 (kd 1), ai v1 cyI 12 (vl 1), ob q0 3 [.ref a0, .ref t0, .ref z0, .int isv, .ref d0, .ref e0, .int fz, .ref g0], ob a0 0 [.int (nI n), .ref a1, .ref a2, .ref a3, .ref a4, .int vs, .int vb, .int vd], ai a1 cyI 7 fh, ai a2 cyI 7 fg, ai a3 cyI 7 ff, ai a4 cyI 7 fk, ob t0 0 [.int (nI n), .ref t1, .ref t2, .ref t3, .ref t4, .int ((pl phc psc nuc n fp fz (kd 2) (vl 2) (ct 2) 0 0 fh fg (bgY n ff fp fz 0) fk vs vb 0).2.2.2.2.1), .int ((pl phc psc nuc n fp fz (kd 2) (vl 2) (ct 2) 0 0 fh fg (bgY n ff fp fz 0) fk vs vb 0).2.2.2.2.2.1), .int ((pl phc psc nuc n fp fz (kd 2) (vl 2) (ct 2) 0 0 fh fg (bgY n ff fp fz 0) fk vs vb 0).2.2.2.2.2.2)], ai t1 cyI 7 ((pl phc psc nuc n fp fz (kd 2) (vl 2) (ct 2) 0 0 fh fg (bgY n ff fp fz 0) fk vs vb 0).1), ai t2 cyI 7 ((pl phc psc nuc n fp fz (kd 2) (vl 2) (ct 2) 0 0 fh fg (bgY n ff fp fz 0) fk vs vb 0).2.1), ai t3 cyI 7 ((pl phc psc nuc n fp fz (kd 2) (vl 2) (ct 2) 0 0 fh fg (bgY n ff fp fz 0) fk vs vb 0).2.2.1), ai t4 cyI 7 ((pl phc psc nuc n fp fz (kd 2) (vl 2) (ct 2) 0 0 fh fg (bgY n ff fp fz 0) fk vs vb 0).2.2.2.1), ob d0 2 [.ref d1, .ref d2, .ref d3], ai d1 cyI 3 (nF ct), aa d2 cyA 3 (r3 k0 k1 k2), aa d3 cyA 3 (r3 v0 v1 v2), ai k2 cyI 12 (kd 2), ai v2 cyI 12 (vl 2), ai g0 cyI 3 fp] H := hP
                      have hD : va_D A [ai k0 cyI 12 (kd 0), ai v0 cyI 12 (vl 0), ai k1 cyI 12 (kd 1), ai v1 cyI 12 (vl 1), ob q0 3 [.ref a0, .ref t0, .ref z0, .int isv, .ref d0, .ref e0, .int fz, .ref g0], ob a0 0 [.int (nI n), .ref a1, .ref a2, .ref a3, .ref a4, .int vs, .int vb, .int vd], ai a1 cyI 7 fh, ai a2 cyI 7 fg, ai a3 cyI 7 ff, ai a4 cyI 7 fk, ob t0 0 [.int (nI n), .ref t1, .ref t2, .ref t3, .ref t4, .int ((pl phc psc nuc n fp fz (kd 2) (vl 2) (ct 2) 0 0 fh fg (bgY n ff fp fz 0) fk vs vb 0).2.2.2.2.1), .int ((pl phc psc nuc n fp fz (kd 2) (vl 2) (ct 2) 0 0 fh fg (bgY n ff fp fz 0) fk vs vb 0).2.2.2.2.2.1), .int ((pl phc psc nuc n fp fz (kd 2) (vl 2) (ct 2) 0 0 fh fg (bgY n ff fp fz 0) fk vs vb 0).2.2.2.2.2.2)], ai t1 cyI 7 ((pl phc psc nuc n fp fz (kd 2) (vl 2) (ct 2) 0 0 fh fg (bgY n ff fp fz 0) fk vs vb 0).1), ai t2 cyI 7 ((pl phc psc nuc n fp fz (kd 2) (vl 2) (ct 2) 0 0 fh fg (bgY n ff fp fz 0) fk vs vb 0).2.1), ai t3 cyI 7 ((pl phc psc nuc n fp fz (kd 2) (vl 2) (ct 2) 0 0 fh fg (bgY n ff fp fz 0) fk vs vb 0).2.2.1), ai t4 cyI 7 ((pl phc psc nuc n fp fz (kd 2) (vl 2) (ct 2) 0 0 fh fg (bgY n ff fp fz 0) fk vs vb 0).2.2.2.1), ob d0 2 [.ref d1, .ref d2, .ref d3], ai d1 cyI 3 (nF ct), aa d2 cyA 3 (r3 k0 k1 k2), aa d3 cyA 3 (r3 v0 v1 v2), ai k2 cyI 12 (kd 2), ai v2 cyI 12 (vl 2), ai g0 cyI 3 fp] := hD
                      refine lv_iload_n hx hb dX3_worstCrest_27 rfl (lv_at hl 1 rfl) ?_
                      refine lv_aload_n hx hb dX3_worstCrest_28 rfl (lv_at hl 2 rfl) ?_
                      refine va_get (D := (dC, dI)) (ci := 3) (v := .ref t0) (C := RX3) (T := TX3) (N := 8) hx hb hts hin_X3 hown hK hP 4 rfl rfl 1 (by decide) hw_5 (fun _ h9 => h9) rfl dX3_worstCrest_29 ?_
                      refine ra_cR (q := (RX0, TX0, 8)) (ci := 0) (As := []) (rest := [.int (jmin (jmin 99 (gMax ((pl phc psc nuc n fp fz (kd 0) (vl 0) (ct 0) 0 0 fh fg (bgY n ff fp fz 0) fk vs vb 0).1) n 0 0)) (gMax ((pl phc psc nuc n fp fz (kd 1) (vl 1) (ct 1) 0 0 fh fg (bgY n ff fp fz 0) fk vs vb 0).1) n 0 0))]) (wc := [ob t0 0 [.int (nI n), .ref t1, .ref t2, .ref t3, .ref t4, .int ((pl phc psc nuc n fp fz (kd 2) (vl 2) (ct 2) 0 0 fh fg (bgY n ff fp fz 0) fk vs vb 0).2.2.2.2.1), .int ((pl phc psc nuc n fp fz (kd 2) (vl 2) (ct 2) 0 0 fh fg (bgY n ff fp fz 0) fk vs vb 0).2.2.2.2.2.1), .int ((pl phc psc nuc n fp fz (kd 2) (vl 2) (ct 2) 0 0 fh fg (bgY n ff fp fz 0) fk vs vb 0).2.2.2.2.2.2)], ai t1 cyI 7 ((pl phc psc nuc n fp fz (kd 2) (vl 2) (ct 2) 0 0 fh fg (bgY n ff fp fz 0) fk vs vb 0).1), ai t2 cyI 7 ((pl phc psc nuc n fp fz (kd 2) (vl 2) (ct 2) 0 0 fh fg (bgY n ff fp fz 0) fk vs vb 0).2.1), ai t3 cyI 7 ((pl phc psc nuc n fp fz (kd 2) (vl 2) (ct 2) 0 0 fh fg (bgY n ff fp fz 0) fk vs vb 0).2.2.1), ai t4 cyI 7 ((pl phc psc nuc n fp fz (kd 2) (vl 2) (ct 2) 0 0 fh fg (bgY n ff fp fz 0) fk vs vb 0).2.2.2.1)]) ⟨hx, hb, hml, hown, hts⟩ (c_X0_greatestHeight l dC dI cyI cyA t0 t1 t2 t3 t4 n ((pl phc psc nuc n fp fz (kd 2) (vl 2) (ct 2) 0 0 fh fg (bgY n ff fp fz 0) fk vs vb 0).1) ((pl phc psc nuc n fp fz (kd 2) (vl 2) (ct 2) 0 0 fh fg (bgY n ff fp fz 0) fk vs vb 0).2.1) ((pl phc psc nuc n fp fz (kd 2) (vl 2) (ct 2) 0 0 fh fg (bgY n ff fp fz 0) fk vs vb 0).2.2.1) ((pl phc psc nuc n fp fz (kd 2) (vl 2) (ct 2) 0 0 fh fg (bgY n ff fp fz 0) fk vs vb 0).2.2.2.1) ((pl phc psc nuc n fp fz (kd 2) (vl 2) (ct 2) 0 0 fh fg (bgY n ff fp fz 0) fk vs vb 0).2.2.2.2.1) ((pl phc psc nuc n fp fz (kd 2) (vl 2) (ct 2) 0 0 fh fg (bgY n ff fp fz 0) fk vs vb 0).2.2.2.2.2.1) ((pl phc psc nuc n fp fz (kd 2) (vl 2) (ct 2) 0 0 fh fg (bgY n ff fp fz 0) fk vs vb 0).2.2.2.2.2.2) (by omega)) (cwV 0 hts gX3_worstCrest_X0_greatestHeight rfl rfl rfl (by decide +kernel) ⟨Nat.le_of_ble_eq_true rfl, Nat.le_of_ble_eq_true rfl⟩) hK hN hP [10, 11, 12, 13, 14] rfl rfl rfl rfl hl.1 rfl (Nat.le_of_ble_eq_true rfl) dX3_worstCrest_32 ⟨Nat.le_of_ble_eq_true rfl, Nat.le_of_ble_eq_true rfl⟩ ?_
                      refine va_mmin hx hb (hml.trans hl.1.symm) hown hw_6 hw_7 hw_8 hw_9 (Nat.le_of_ble_eq_true rfl) (Nat.le_of_ble_eq_true rfl) (Nat.le_of_ble_eq_true rfl) (Nat.le_of_ble_eq_true rfl) dX3_worstCrest_35 ?_
                      refine ra_top (jmin (jmin (jmin 99 (gMax ((pl phc psc nuc n fp fz (kd 0) (vl 0) (ct 0) 0 0 fh fg (bgY n ff fp fz 0) fk vs vb 0).1) n 0 0)) (gMax ((pl phc psc nuc n fp fz (kd 1) (vl 1) (ct 1) 0 0 fh fg (bgY n ff fp fz 0) fk vs vb 0).1) n 0 0)) (gMax ((pl phc psc nuc n fp fz (kd 2) (vl 2) (ct 2) 0 0 fh fg (bgY n ff fp fz 0) fk vs vb 0).1) n 0 0)) rfl ?_
                      refine lv_istore_n (lv' := [(2, .int (jmin (jmin (jmin 99 (gMax ((pl phc psc nuc n fp fz (kd 0) (vl 0) (ct 0) 0 0 fh fg (bgY n ff fp fz 0) fk vs vb 0).1) n 0 0)) (gMax ((pl phc psc nuc n fp fz (kd 1) (vl 1) (ct 1) 0 0 fh fg (bgY n ff fp fz 0) fk vs vb 0).1) n 0 0)) (gMax ((pl phc psc nuc n fp fz (kd 2) (vl 2) (ct 2) 0 0 fh fg (bgY n ff fp fz 0) fk vs vb 0).1) n 0 0))), (3, .int 2), (0, .ref q0), (1, .int fo)]) hx hb dX3_worstCrest_38 rfl hl (by decide) rfl (fun ls hl => ?_)
                      refine lv_aload_n hx hb dX3_worstCrest_39 rfl (lv_at hl 2 rfl) ?_
                      refine va_get (D := (dC, dI)) (ci := 3) (v := .ref t0) (C := RX3) (T := TX3) (N := 8) hx hb hts hin_X3 hown hK hP 4 rfl rfl 1 (by decide) hw_5 (fun _ h9 => h9) rfl dX3_worstCrest_40 ?_
                      refine va_get (D := (dC, dI)) (ci := 0) (v := .int ((pl phc psc nuc n fp fz (kd 2) (vl 2) (ct 2) 0 0 fh fg (bgY n ff fp fz 0) fk vs vb 0).2.2.2.2.2.2)) (C := RX0) (T := TX0) (N := 8) hx hb hts hin_X0 hown hK hP 10 rfl rfl 7 (by decide) hw_10 (fun _ h9 => h9) rfl dX3_worstCrest_43 ?_
                      refine lv_if_gt (tgt := 54) hx hb dX3_worstCrest_46 (by decide) (fun c_46_3 => ?_) (fun c_46_3 => ?_)
                      · ---- to 54
                        refine lv_iconst (v := (-1)) hx hb dX3_worstCrest_54 (by decide) ?_
                        rw [hQ]
                        exact ra_iretW (n, (pl phc psc nuc n fp fz (kd 2) (vl 2) (ct 2) 0 0 fh fg (bgY n ff fp fz 0) fk vs vb 0).1, (pl phc psc nuc n fp fz (kd 2) (vl 2) (ct 2) 0 0 fh fg (bgY n ff fp fz 0) fk vs vb 0).2.1, (pl phc psc nuc n fp fz (kd 2) (vl 2) (ct 2) 0 0 fh fg (bgY n ff fp fz 0) fk vs vb 0).2.2.1, (pl phc psc nuc n fp fz (kd 2) (vl 2) (ct 2) 0 0 fh fg (bgY n ff fp fz 0) fk vs vb 0).2.2.2.1, (pl phc psc nuc n fp fz (kd 2) (vl 2) (ct 2) 0 0 fh fg (bgY n ff fp fz 0) fk vs vb 0).2.2.2.2.1, (pl phc psc nuc n fp fz (kd 2) (vl 2) (ct 2) 0 0 fh fg (bgY n ff fp fz 0) fk vs vb 0).2.2.2.2.2.1, (pl phc psc nuc n fp fz (kd 2) (vl 2) (ct 2) 0 0 fh fg (bgY n ff fp fz 0) fk vs vb 0).2.2.2.2.2.2) hx hb hr hlocks rfl hK (hP.sub [4, 5, 6, 7, 8, 9, 10, 11, 12, 13, 14, 15, 16, 17, 18, 0, 2, 19, 1, 3, 20, 21] rfl) (hD.sub [4, 5, 6, 7, 8, 9, 10, 11, 12, 13, 14, 15, 16, 17, 18, 0, 2, 19, 1, 3, 20, 21] (by decide) rfl) hS (Eq.symm ((wSt_k (ct := ct) (cr := crW phc psc nuc n fz ct kd vl fh fg ff fk vs vb fp) (fl := flW phc psc nuc n fz ct kd vl fh fg ff fk vs vb fp) (fo := fo) (w := 0) n_19 c_46 c_51).trans ((wSt_k (ct := ct) (cr := crW phc psc nuc n fz ct kd vl fh fg ff fk vs vb fp) (fl := flW phc psc nuc n fz ct kd vl fh fg ff fk vs vb fp) (fo := fo) (w := 1) n_19_2 c_46_2 c_51_2).trans (wSt_f (ct := ct) (cr := crW phc psc nuc n fz ct kd vl fh fg ff fk vs vb fp) (fl := flW phc psc nuc n fz ct kd vl fh fg ff fk vs vb fp) (fo := fo) (w := 2) n_19_3 c_46_3)))) dX3_worstCrest_55
                      · ---- on
                        refine lv_iload_n hx hb dX3_worstCrest_49 rfl (lv_at hl 0 rfl) ?_
                        refine lv_iload_n hx hb dX3_worstCrest_50 rfl (lv_at hl 3 rfl) ?_
                        refine lv_icmp_ge (tgt := 56) hx hb dX3_worstCrest_51 (by decide) (fun c_51_3 => ?_) (fun c_51_3 => ?_)
                        · ---- to 56
                          refine lv_iinc (v := 3) (lv' := [(3, .int 3), (2, .int (jmin (jmin (jmin 99 (gMax ((pl phc psc nuc n fp fz (kd 0) (vl 0) (ct 0) 0 0 fh fg (bgY n ff fp fz 0) fk vs vb 0).1) n 0 0)) (gMax ((pl phc psc nuc n fp fz (kd 1) (vl 1) (ct 1) 0 0 fh fg (bgY n ff fp fz 0) fk vs vb 0).1) n 0 0)) (gMax ((pl phc psc nuc n fp fz (kd 2) (vl 2) (ct 2) 0 0 fh fg (bgY n ff fp fz 0) fk vs vb 0).1) n 0 0))), (0, .ref q0), (1, .int fo)]) hx hb dX3_worstCrest_56 hl (k := 1) rfl (by decide) (by decide) rfl (fun ls hl => ?_)
                          refine lv_goto (tgt := 5) hx hb dX3_worstCrest_59 (by decide) ?_
                          refine lv_iload_n hx hb dX3_worstCrest_5 rfl (lv_at hl 0 rfl) ?_
                          refine lv_iconst (v := 3) hx hb dX3_worstCrest_6 (by decide) ?_
                          refine lv_icmp_ge (tgt := 62) hx hb dX3_worstCrest_7 (by decide) (fun c_7_4 => ?_) (fun c_7_4 => ?_)
                          · ---- to 62
                            refine lv_iload_n hx hb dX3_worstCrest_62 rfl (lv_at hl 1 rfl) ?_
                            rw [hQ]
                            exact ra_iretW (n, (pl phc psc nuc n fp fz (kd 2) (vl 2) (ct 2) 0 0 fh fg (bgY n ff fp fz 0) fk vs vb 0).1, (pl phc psc nuc n fp fz (kd 2) (vl 2) (ct 2) 0 0 fh fg (bgY n ff fp fz 0) fk vs vb 0).2.1, (pl phc psc nuc n fp fz (kd 2) (vl 2) (ct 2) 0 0 fh fg (bgY n ff fp fz 0) fk vs vb 0).2.2.1, (pl phc psc nuc n fp fz (kd 2) (vl 2) (ct 2) 0 0 fh fg (bgY n ff fp fz 0) fk vs vb 0).2.2.2.1, (pl phc psc nuc n fp fz (kd 2) (vl 2) (ct 2) 0 0 fh fg (bgY n ff fp fz 0) fk vs vb 0).2.2.2.2.1, (pl phc psc nuc n fp fz (kd 2) (vl 2) (ct 2) 0 0 fh fg (bgY n ff fp fz 0) fk vs vb 0).2.2.2.2.2.1, (pl phc psc nuc n fp fz (kd 2) (vl 2) (ct 2) 0 0 fh fg (bgY n ff fp fz 0) fk vs vb 0).2.2.2.2.2.2) hx hb hr hlocks rfl hK (hP.sub [4, 5, 6, 7, 8, 9, 10, 11, 12, 13, 14, 15, 16, 17, 18, 0, 2, 19, 1, 3, 20, 21] rfl) (hD.sub [4, 5, 6, 7, 8, 9, 10, 11, 12, 13, 14, 15, 16, 17, 18, 0, 2, 19, 1, 3, 20, 21] (by decide) rfl) hS (Eq.symm ((wSt_k (ct := ct) (cr := crW phc psc nuc n fz ct kd vl fh fg ff fk vs vb fp) (fl := flW phc psc nuc n fz ct kd vl fh fg ff fk vs vb fp) (fo := fo) (w := 0) n_19 c_46 c_51).trans ((wSt_k (ct := ct) (cr := crW phc psc nuc n fz ct kd vl fh fg ff fk vs vb fp) (fl := flW phc psc nuc n fz ct kd vl fh fg ff fk vs vb fp) (fo := fo) (w := 1) n_19_2 c_46_2 c_51_2).trans (wSt_k (ct := ct) (cr := crW phc psc nuc n fz ct kd vl fh fg ff fk vs vb fp) (fl := flW phc psc nuc n fz ct kd vl fh fg ff fk vs vb fp) (fo := fo) (w := 2) n_19_3 c_46_3 c_51_3)))) dX3_worstCrest_63
                          · ---- on
                            exact absurd c_7_4 (by decide)
                        · ---- on
                          refine lv_iconst (v := (-1)) hx hb dX3_worstCrest_54 (by decide) ?_
                          rw [hQ]
                          exact ra_iretW (n, (pl phc psc nuc n fp fz (kd 2) (vl 2) (ct 2) 0 0 fh fg (bgY n ff fp fz 0) fk vs vb 0).1, (pl phc psc nuc n fp fz (kd 2) (vl 2) (ct 2) 0 0 fh fg (bgY n ff fp fz 0) fk vs vb 0).2.1, (pl phc psc nuc n fp fz (kd 2) (vl 2) (ct 2) 0 0 fh fg (bgY n ff fp fz 0) fk vs vb 0).2.2.1, (pl phc psc nuc n fp fz (kd 2) (vl 2) (ct 2) 0 0 fh fg (bgY n ff fp fz 0) fk vs vb 0).2.2.2.1, (pl phc psc nuc n fp fz (kd 2) (vl 2) (ct 2) 0 0 fh fg (bgY n ff fp fz 0) fk vs vb 0).2.2.2.2.1, (pl phc psc nuc n fp fz (kd 2) (vl 2) (ct 2) 0 0 fh fg (bgY n ff fp fz 0) fk vs vb 0).2.2.2.2.2.1, (pl phc psc nuc n fp fz (kd 2) (vl 2) (ct 2) 0 0 fh fg (bgY n ff fp fz 0) fk vs vb 0).2.2.2.2.2.2) hx hb hr hlocks rfl hK (hP.sub [4, 5, 6, 7, 8, 9, 10, 11, 12, 13, 14, 15, 16, 17, 18, 0, 2, 19, 1, 3, 20, 21] rfl) (hD.sub [4, 5, 6, 7, 8, 9, 10, 11, 12, 13, 14, 15, 16, 17, 18, 0, 2, 19, 1, 3, 20, 21] (by decide) rfl) hS (Eq.symm ((wSt_k (ct := ct) (cr := crW phc psc nuc n fz ct kd vl fh fg ff fk vs vb fp) (fl := flW phc psc nuc n fz ct kd vl fh fg ff fk vs vb fp) (fo := fo) (w := 0) n_19 c_46 c_51).trans ((wSt_k (ct := ct) (cr := crW phc psc nuc n fz ct kd vl fh fg ff fk vs vb fp) (fl := flW phc psc nuc n fz ct kd vl fh fg ff fk vs vb fp) (fo := fo) (w := 1) n_19_2 c_46_2 c_51_2).trans (wSt_l (ct := ct) (cr := crW phc psc nuc n fz ct kd vl fh fg ff fk vs vb fp) (fl := flW phc psc nuc n fz ct kd vl fh fg ff fk vs vb fp) (fo := fo) (w := 2) n_19_3 c_46_3 c_51_3)))) dX3_worstCrest_55
                · ---- on
                  refine lv_iconst (v := (-1)) hx hb dX3_worstCrest_54 (by decide) ?_
                  rw [hQ]
                  exact ra_iretW (n, (pl phc psc nuc n fp fz (kd 1) (vl 1) (ct 1) 0 0 fh fg (bgY n ff fp fz 0) fk vs vb 0).1, (pl phc psc nuc n fp fz (kd 1) (vl 1) (ct 1) 0 0 fh fg (bgY n ff fp fz 0) fk vs vb 0).2.1, (pl phc psc nuc n fp fz (kd 1) (vl 1) (ct 1) 0 0 fh fg (bgY n ff fp fz 0) fk vs vb 0).2.2.1, (pl phc psc nuc n fp fz (kd 1) (vl 1) (ct 1) 0 0 fh fg (bgY n ff fp fz 0) fk vs vb 0).2.2.2.1, (pl phc psc nuc n fp fz (kd 1) (vl 1) (ct 1) 0 0 fh fg (bgY n ff fp fz 0) fk vs vb 0).2.2.2.2.1, (pl phc psc nuc n fp fz (kd 1) (vl 1) (ct 1) 0 0 fh fg (bgY n ff fp fz 0) fk vs vb 0).2.2.2.2.2.1, (pl phc psc nuc n fp fz (kd 1) (vl 1) (ct 1) 0 0 fh fg (bgY n ff fp fz 0) fk vs vb 0).2.2.2.2.2.2) hx hb hr hlocks rfl hK (hP.sub [4, 5, 6, 7, 8, 9, 10, 11, 12, 13, 14, 15, 16, 17, 18, 2, 19, 0, 3, 20, 1, 21] rfl) (hD.sub [4, 5, 6, 7, 8, 9, 10, 11, 12, 13, 14, 15, 16, 17, 18, 2, 19, 0, 3, 20, 1, 21] (by decide) rfl) hS (Eq.symm ((wSt_k (ct := ct) (cr := crW phc psc nuc n fz ct kd vl fh fg ff fk vs vb fp) (fl := flW phc psc nuc n fz ct kd vl fh fg ff fk vs vb fp) (fo := fo) (w := 0) n_19 c_46 c_51).trans (wSt_l (ct := ct) (cr := crW phc psc nuc n fz ct kd vl fh fg ff fk vs vb fp) (fl := flW phc psc nuc n fz ct kd vl fh fg ff fk vs vb fp) (fo := fo) (w := 1) n_19_2 c_46_2 c_51_2))) dX3_worstCrest_55
        · ---- on
          refine lv_iconst (v := (-1)) hx hb dX3_worstCrest_54 (by decide) ?_
          rw [hQ]
          exact ra_iretW (n, (pl phc psc nuc n fp fz (kd 0) (vl 0) (ct 0) 0 0 fh fg (bgY n ff fp fz 0) fk vs vb 0).1, (pl phc psc nuc n fp fz (kd 0) (vl 0) (ct 0) 0 0 fh fg (bgY n ff fp fz 0) fk vs vb 0).2.1, (pl phc psc nuc n fp fz (kd 0) (vl 0) (ct 0) 0 0 fh fg (bgY n ff fp fz 0) fk vs vb 0).2.2.1, (pl phc psc nuc n fp fz (kd 0) (vl 0) (ct 0) 0 0 fh fg (bgY n ff fp fz 0) fk vs vb 0).2.2.2.1, (pl phc psc nuc n fp fz (kd 0) (vl 0) (ct 0) 0 0 fh fg (bgY n ff fp fz 0) fk vs vb 0).2.2.2.2.1, (pl phc psc nuc n fp fz (kd 0) (vl 0) (ct 0) 0 0 fh fg (bgY n ff fp fz 0) fk vs vb 0).2.2.2.2.2.1, (pl phc psc nuc n fp fz (kd 0) (vl 0) (ct 0) 0 0 fh fg (bgY n ff fp fz 0) fk vs vb 0).2.2.2.2.2.2) hx hb hr hlocks rfl hK (hP.sub [4, 5, 6, 7, 8, 9, 10, 11, 12, 13, 14, 15, 16, 17, 18, 19, 0, 1, 20, 2, 3, 21] rfl) (hD.sub [4, 5, 6, 7, 8, 9, 10, 11, 12, 13, 14, 15, 16, 17, 18, 19, 0, 1, 20, 2, 3, 21] (by decide) rfl) hS (Eq.symm (wSt_l (ct := ct) (cr := crW phc psc nuc n fz ct kd vl fh fg ff fk vs vb fp) (fl := flW phc psc nuc n fz ct kd vl fh fg ff fk vs vb fp) (fo := fo) (w := 0) n_19 c_46 c_51)) dX3_worstCrest_55
