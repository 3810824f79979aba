set_option maxHeartbeats 4000000 in
set_option maxRecDepth 100000 in
theorem c_X4_in (l : Launch) (v a b : Int32)  : Met l yX4_in wsX4_in (rm 0) (kS [.int v, .int a, .int b]) (QcRead (bi (a ≤ v ∧ v ≤ b))) 0 0 (fun _ => False) := by
  refine ra_metS (cc := cX4_in) (maxL := 3) (by decide) rfl (Nat.le_of_ble_eq_true rfl) ?_
  intro p e s m below meth c args Q hQ hx hb hr hlocks hml hts hown hN ls hl
  have hl : lv_has ls 3 [(0, .int v), (1, .int a), (2, .int b)] := hl
  have hown : s.vm.findClass RX4 = some m.cls := hown
  refine lv_iload_n hx hb dX4_in_0 rfl (lv_at hl 0 rfl) ?_
  refine lv_iload_n hx hb dX4_in_1 rfl (lv_at hl 1 rfl) ?_
  refine lv_icmp_lt (tgt := 14) hx hb dX4_in_2 (by decide) (fun c_2 => ?_) (fun c_2 => ?_)
  · ---- to 14
    refine lv_iconst (v := 0) hx hb dX4_in_14 (by decide) ?_
    rw [hQ]
    exact ra_iretR hx hb hr hlocks rfl (bi_f (by simp only [fa_lt, fa_le, fa_eq, i32_m9, i32_m3, i32_m2, i32_m1, i32_0, i32_1, i32_2, i32_3, i32_4, i32_5, i32_7, i32_9, i32_10, i32_12, i32_20, i32_30, i32_60, i32_99] at c_2 ⊢; omega)) dX4_in_15
  · ---- on
    refine lv_iload_n hx hb dX4_in_5 rfl (lv_at hl 0 rfl) ?_
    refine lv_iload_n hx hb dX4_in_6 rfl (lv_at hl 2 rfl) ?_
    refine lv_icmp_gt (tgt := 14) hx hb dX4_in_7 (by decide) (fun c_7 => ?_) (fun c_7 => ?_)
    · ---- to 14
      refine lv_iconst (v := 0) hx hb dX4_in_14 (by decide) ?_
      rw [hQ]
      exact ra_iretR hx hb hr hlocks rfl (bi_f (by simp only [fa_lt, fa_le, fa_eq, i32_m9, i32_m3, i32_m2, i32_m1, i32_0, i32_1, i32_2, i32_3, i32_4, i32_5, i32_7, i32_9, i32_10, i32_12, i32_20, i32_30, i32_60, i32_99] at c_2 c_7 ⊢; omega)) dX4_in_15
    · ---- on
      refine lv_iconst (v := 1) hx hb dX4_in_10 (by decide) ?_
      refine lv_goto (tgt := 15) hx hb dX4_in_11 (by decide) ?_
      rw [hQ]
      exact ra_iretR hx hb hr hlocks rfl (bi_t (by simp only [fa_lt, fa_le, fa_eq, i32_m9, i32_m3, i32_m2, i32_m1, i32_0, i32_1, i32_2, i32_3, i32_4, i32_5, i32_7, i32_9, i32_10, i32_12, i32_20, i32_30, i32_60, i32_99] at c_2 c_7 ⊢; omega)) dX4_in_15

set_option maxHeartbeats 4000000 in
set_option maxRecDepth 100000 in
theorem c_X4_isWeather (l : Launch) (x : Int32)  : Met l yX4_isWeather wsX4_isWeather (rm 1) (kS [.int x]) (QcRead (bi (0 ≤ x ∧ x ≤ 2))) 0 0 (fun _ => False) := by
  refine ra_metS (cc := cX4_isWeather) (maxL := 1) (by decide) rfl (Nat.le_of_ble_eq_true rfl) ?_
  intro p e s m below meth c args Q hQ hx hb hr hlocks hml hts hown hN ls hl
  have hl : lv_has ls 1 [(0, .int x)] := hl
  have hown : s.vm.findClass RX4 = some m.cls := hown
  refine lv_iload_n hx hb dX4_isWeather_0 rfl (lv_at hl 0 rfl) ?_
  refine lv_iconst (v := 0) hx hb dX4_isWeather_1 (by decide) ?_
  refine lv_iconst (v := 2) hx hb dX4_isWeather_2 (by decide) ?_
  refine ra_cS (As := [.int x, .int 0, .int 2]) (rest := []) ⟨hx, hb, hml, hown, hts⟩ (c_X4_in l x 0 2 ) (va_cwS 3 hts gX4_isWeather_X4_in rfl rfl rfl (by decide +kernel) ⟨Nat.le_of_ble_eq_true rfl, Nat.le_of_ble_eq_true rfl⟩) hN rfl hl.1 rfl (Nat.le_of_ble_eq_true rfl) dX4_isWeather_3 ⟨Nat.le_of_ble_eq_true rfl, Nat.le_of_ble_eq_true rfl⟩ ?_
  rw [hQ]
  exact ra_iretR hx hb hr hlocks (bi_nar _) rfl dX4_isWeather_6

set_option maxHeartbeats 4000000 in
set_option maxRecDepth 100000 in
theorem c_X4_isCell (l : Launch) (dC : Nat → ClassId) (dI : Nat → Nat → Nat) (cyI cyA : ClassId) (m0 m1 m2 m3 m4 m5 m6 m7 m8 m9 m10 m11 m12 m13 n : Nat) (kn fz : Int32) (fh fg ff fk uh ug uf uk th tg tf tk : FN) (vs vb vd us ub ud ts tb td : Int32) (ct : Nat → Nat) (kd vl : Nat → FN) (fr fp bp : FN) (x : Int32) (hn : n ≤ 7) (hn1 : 1 ≤ n) : Met l yX4_isCell wsX4_isCell (rm 1) (kR dC dI cyI cyA [.ref m0, .int x] [ob m0 4 [.int (nI n), .int kn, .int fz, .ref m1, .ref m2, .ref m3, .ref m4, .ref m5, .ref m6, .ref m7, .ref m8, .ref m9, .ref m10, .ref m11, .ref m12, .ref m13], ai m1 cyI 21 (f3 fh uh th), ai m2 cyI 21 (f3 fg ug tg), ai m3 cyI 21 (f3 ff uf tf), ai m4 cyI 21 (f3 fk uk tk), ai m5 cyI 3 (t3 vs us ts), ai m6 cyI 3 (t3 vb ub tb), ai m7 cyI 3 (t3 vd ud td), ai m8 cyI 3 (nF ct), ai m9 cyI 36 (q12 kd), ai m10 cyI 36 (q12 vl), ai m11 cyI 7 fr, ai m12 cyI 3 fp, ai m13 cyI 3 bp]) (QcRead (bi (0 ≤ x ∧ x < nI n))) 0 0 (fun _ => False) := by
  refine ra_metR (cc := cX4_isCell) (maxL := 2) (by decide) rfl (Nat.le_of_ble_eq_true rfl) ?_
  intro p e s m below meth c args Q hQ hx hb hr hlocks hml hts hown hK hN hP ls hl
  have hl : lv_has ls 2 [(0, .ref m0), (1, .int x)] := hl
  have hown : s.vm.findClass RX4 = some m.cls := hown
  have hw_1 := hts (.fieldLink RX4 7 "DuneBenchModel" "n" "I") (by decide +kernel)
  have hin_X4 : ∀ w ∈ u_ws RX4 TX4 16, w ∈ wsX4_isCell := by decide +kernel
  refine lv_iload_n hx hb dX4_isCell_0 rfl (lv_at hl 1 rfl) ?_
  refine lv_iconst (v := 0) hx hb dX4_isCell_1 (by decide) ?_
  refine lv_aload_n hx hb dX4_isCell_2 rfl (lv_at hl 0 rfl) ?_
  refine va_get (D := (dC, dI)) (ci := 4) (v := .int (nI n)) (C := RX4) (T := TX4) (N := 16) hx hb hts hin_X4 hown hK hP 0 rfl rfl 0 (by decide) hw_1 (fun _ h9 => h9) rfl dX4_isCell_3 ?_
  refine lv_iconst (v := 1) hx hb dX4_isCell_6 (by decide) ?_
  refine lv_isub hx hb dX4_isCell_7 ?_
  refine ra_cS (As := [.int x, .int 0, .int ((nI n) - 1)]) (rest := []) ⟨hx, hb, hml, hown, hts⟩ (c_X4_in l x 0 ((nI n) - 1) ) (va_cwS 3 hts gX4_isCell_X4_in rfl rfl rfl (by decide +kernel) ⟨Nat.le_of_ble_eq_true rfl, Nat.le_of_ble_eq_true rfl⟩) hN rfl hl.1 rfl (Nat.le_of_ble_eq_true rfl) dX4_isCell_8 ⟨Nat.le_of_ble_eq_true rfl, Nat.le_of_ble_eq_true rfl⟩ ?_
  rw [hQ]
  exact ra_iretR hx hb hr hlocks (bi_nar _) (bi_c (cell_iff hn1 hn)) dX4_isCell_11

set_option maxHeartbeats 4000000 in
set_option maxRecDepth 100000 in
theorem c_X4_keeps0 (l : Launch) (dC : Nat → ClassId) (dI : Nat → Nat → Nat) (cyI cyA : ClassId) (m0 m1 m2 m3 m4 m5 m6 m7 m8 m9 m10 m11 m12 m13 n : Nat) (kn fz : Int32) (fh fg ff fk uh ug uf uk th tg tf tk : FN) (vs vb vd us ub ud ts tb td : Int32) (ct : Nat → Nat) (kd vl : Nat → FN) (fr fp bp : FN) (j : Nat) (x : Int32) (hj : j < 7) (sz : Nat) : Met l yX4_keeps wsX4_keeps (rm 0) (kW dC dI cyI cyA [.ref m0, .int (nI j), .int x] sz [ob m0 4 [.int (nI n), .int kn, .int fz, .ref m1, .ref m2, .ref m3, .ref m4, .ref m5, .ref m6, .ref m7, .ref m8, .ref m9, .ref m10, .ref m11, .ref m12, .ref m13], ai m1 cyI 21 (f3 fh uh th), ai m2 cyI 21 (f3 fg ug tg), ai m3 cyI 21 (f3 ff uf tf), ai m4 cyI 21 (f3 fk uk tk), ai m5 cyI 3 (t3 vs us ts), ai m6 cyI 3 (t3 vb ub tb), ai m7 cyI 3 (t3 vd ud td), ai m8 cyI 3 (nF ct), ai m9 cyI 36 (q12 kd), ai m10 cyI 36 (q12 vl), ai m11 cyI 7 fr, ai m12 cyI 3 fp, ai m13 cyI 3 bp]) (qI dC dI cyI cyA (fun (r : Int32) (_ : Unit) => r = heldv fh fg ff j x) (va_A [ob m0 4 [.int (nI n), .int kn, .int fz, .ref m1, .ref m2, .ref m3, .ref m4, .ref m5, .ref m6, .ref m7, .ref m8, .ref m9, .ref m10, .ref m11, .ref m12, .ref m13], ai m1 cyI 21 (f3 fh uh th), ai m2 cyI 21 (f3 fg ug tg), ai m3 cyI 21 (f3 ff uf tf), ai m4 cyI 21 (f3 fk uk tk), ai m5 cyI 3 (t3 vs us ts), ai m6 cyI 3 (t3 vb ub tb), ai m7 cyI 3 (t3 vd ud td), ai m8 cyI 3 (nF ct), ai m9 cyI 36 (q12 kd), ai m10 cyI 36 (q12 vl), ai m11 cyI 7 fr, ai m12 cyI 3 fp, ai m13 cyI 3 bp] sz) (fun _ => [ob m0 4 [.int (nI n), .int kn, .int fz, .ref m1, .ref m2, .ref m3, .ref m4, .ref m5, .ref m6, .ref m7, .ref m8, .ref m9, .ref m10, .ref m11, .ref m12, .ref m13], ai m1 cyI 21 (f3 (upd fh j (fh j + heldv fh fg ff j x)) uh th), ai m2 cyI 21 (f3 fg ug tg), ai m3 cyI 21 (f3 (upd ff j (ff j - phm (heldv fh fg ff j x) (1 + 2 * fg j))) uf tf), ai m4 cyI 21 (f3 (upd fk j (fk j + heldv fh fg ff j x)) uk tk), ai m5 cyI 3 (t3 vs us ts), ai m6 cyI 3 (t3 vb ub tb), ai m7 cyI 3 (t3 vd ud td), ai m8 cyI 3 (nF ct), ai m9 cyI 36 (q12 kd), ai m10 cyI 36 (q12 vl), ai m11 cyI 7 fr, ai m12 cyI 3 fp, ai m13 cyI 3 bp])) 0 0 (va_A [ob m0 4 [.int (nI n), .int kn, .int fz, .ref m1, .ref m2, .ref m3, .ref m4, .ref m5, .ref m6, .ref m7, .ref m8, .ref m9, .ref m10, .ref m11, .ref m12, .ref m13], ai m1 cyI 21 (f3 fh uh th), ai m2 cyI 21 (f3 fg ug tg), ai m3 cyI 21 (f3 ff uf tf), ai m4 cyI 21 (f3 fk uk tk), ai m5 cyI 3 (t3 vs us ts), ai m6 cyI 3 (t3 vb ub tb), ai m7 cyI 3 (t3 vd ud td), ai m8 cyI 3 (nF ct), ai m9 cyI 36 (q12 kd), ai m10 cyI 36 (q12 vl), ai m11 cyI 7 fr, ai m12 cyI 3 fp, ai m13 cyI 3 bp] sz) := by
  refine ra_metW (cc := cX4_keeps) (maxL := 6) (Qc := fun A => qI dC dI cyI cyA (fun (r : Int32) (_ : Unit) => r = heldv fh fg ff j x) A (fun _ => [ob m0 4 [.int (nI n), .int kn, .int fz, .ref m1, .ref m2, .ref m3, .ref m4, .ref m5, .ref m6, .ref m7, .ref m8, .ref m9, .ref m10, .ref m11, .ref m12, .ref m13], ai m1 cyI 21 (f3 (upd fh j (fh j + heldv fh fg ff j x)) uh th), ai m2 cyI 21 (f3 fg ug tg), ai m3 cyI 21 (f3 (upd ff j (ff j - phm (heldv fh fg ff j x) (1 + 2 * fg j))) uf tf), ai m4 cyI 21 (f3 (upd fk j (fk j + heldv fh fg ff j x)) uk tk), ai m5 cyI 3 (t3 vs us ts), ai m6 cyI 3 (t3 vb ub tb), ai m7 cyI 3 (t3 vd ud td), ai m8 cyI 3 (nF ct), ai m9 cyI 36 (q12 kd), ai m10 cyI 36 (q12 vl), ai m11 cyI 7 fr, ai m12 cyI 3 fp, ai m13 cyI 3 bp])) (by decide) rfl (Nat.le_of_ble_eq_true rfl) ?_
  intro p e s m below meth c A args Q hQ hx hb hr hlocks hml hts hown hnm hK hN hP hD hA hS ls hl
  have hl : lv_has ls 6 [(0, .ref m0), (1, .int (nI j)), (2, .int x)] := hl
  have hown : s.vm.findClass RX4 = some m.cls := hown
  have hw_1 := hts (.fieldLink RX4 20 "DuneBenchModel" "grass" "[I") (by decide +kernel)
  have hin_X4 : ∀ w ∈ u_ws RX4 TX4 16, w ∈ wsX4_keeps := by decide +kernel
  have hw_3 := hts (.fieldLink RX4 23 "DuneBenchModel" "fence" "[I") (by decide +kernel)
  have hw_4 := hts (.fieldLink RX4 16 "DuneBenchModel" "height" "[I") (by decide +kernel)
  have hw_5 := hts (.fieldLink RX4 26 "DuneBenchModel" "gained" "[I") (by decide +kernel)
  obtain ⟨H, hHe⟩ : ∃ H, H = s.heap := ⟨_, rfl⟩
  obtain ⟨locs, hLe⟩ : ∃ locs : List Loc, locs = [] := ⟨_, rfl⟩
  have hP : va_P (dC, dI) vwCl [ob m0 4 [.int (nI n), .int kn, .int fz, .ref m1, .ref m2, .ref m3, .ref m4, .ref m5, .ref m6, .ref m7, .ref m8, .ref m9, .ref m10, .ref m11, .ref m12, .ref m13], ai m1 cyI 21 (f3 fh uh th), ai m2 cyI 21 (f3 fg ug tg), ai m3 cyI 21 (f3 ff uf tf), ai m4 cyI 21 (f3 fk uk tk), ai m5 cyI 3 (t3 vs us ts), ai m6 cyI 3 (t3 vb ub tb), ai m7 cyI 3 (t3 vd ud td), ai m8 cyI 3 (nF ct), ai m9 cyI 36 (q12 kd), ai m10 cyI 36 (q12 vl), ai m11 cyI 7 fr, ai m12 cyI 3 fp, ai m13 cyI 3 bp] H := by rw [hHe]; exact hP
  have hS : va_S A s.heap H locs := by rw [hHe, hLe]; exact hS
  suffices hgo : W p l e (rm 0) s m args below meth c H locs 0 0 Q (F0 m 0 ls []) by rw [hHe, hLe] at hgo; exact hgo
  refine lv_iconst (v := 1) hx hb dX4_keeps_0 (by decide) ?_
  refine lv_iconst (v := 2) hx hb dX4_keeps_1 (by decide) ?_
  refine lv_aload_n hx hb dX4_keeps_2 rfl (lv_at hl 0 rfl) ?_
  refine va_get (D := (dC, dI)) (ci := 4) (v := .ref m2) (C := RX4) (T := TX4) (N := 16) hx hb hts hin_X4 hown hK hP 0 rfl rfl 4 (by decide) hw_1 (fun _ h9 => h9) rfl dX4_keeps_3 ?_
  refine lv_iload_n hx hb dX4_keeps_6 rfl (lv_at hl 1 rfl) ?_
  refine ra_iald hx hb hK hP 2 rfl j rfl (by omega) (Nat.le_of_ble_eq_true rfl) dX4_keeps_7 ?_
  refine ra_top (fg j) (f3_r0 _ _ _ (by omega)) ?_
  refine lv_imul hx hb dX4_keeps_8 ?_
  refine lv_iadd hx hb dX4_keeps_9 ?_
  refine lv_istore_n (lv' := [(3, .int (1 + (2 * (fg j)))), (0, .ref m0), (1, .int (nI j)), (2, .int x)]) hx hb dX4_keeps_10 rfl hl (by decide) rfl (fun ls hl => ?_)
  refine lv_iload_n hx hb dX4_keeps_11 rfl (lv_at hl 0 rfl) ?_
  refine lv_aload_n hx hb dX4_keeps_12 rfl (lv_at hl 1 rfl) ?_
  refine va_get (D := (dC, dI)) (ci := 4) (v := .ref m3) (C := RX4) (T := TX4) (N := 16) hx hb hts hin_X4 hown hK hP 0 rfl rfl 5 (by decide) hw_3 (fun _ h9 => h9) rfl dX4_keeps_13 ?_
  refine lv_iload_n hx hb dX4_keeps_16 rfl (lv_at hl 2 rfl) ?_
  refine ra_iald hx hb hK hP 3 rfl j rfl (by omega) (Nat.le_of_ble_eq_true rfl) dX4_keeps_17 ?_
  refine ra_top (ff j) (f3_r0 _ _ _ (by omega)) ?_
  refine lv_iadd hx hb dX4_keeps_18 ?_
  refine lv_istore (lv' := [(4, .int ((1 + (2 * (fg j))) + (ff j))), (3, .int (1 + (2 * (fg j)))), (0, .ref m0), (1, .int (nI j)), (2, .int x)]) hx hb dX4_keeps_19 hl (by decide) rfl (fun ls hl => ?_)
  refine lv_iload hx hb dX4_keeps_21 (lv_at hl 0 rfl) ?_
  refine lv_bipush (v := 99) hx hb dX4_keeps_23 (by decide) ?_
  refine lv_aload_n hx hb dX4_keeps_25 rfl (lv_at hl 2 rfl) ?_
  refine va_get (D := (dC, dI)) (ci := 4) (v := .ref m1) (C := RX4) (T := TX4) (N := 16) hx hb hts hin_X4 hown hK hP 0 rfl rfl 3 (by decide) hw_4 (fun _ h9 => h9) rfl dX4_keeps_26 ?_
  refine lv_iload_n hx hb dX4_keeps_29 rfl (lv_at hl 3 rfl) ?_
  refine ra_iald hx hb hK hP 1 rfl j rfl (by omega) (Nat.le_of_ble_eq_true rfl) dX4_keeps_30 ?_
  refine ra_top (fh j) (f3_r0 _ _ _ (by omega)) ?_
  refine lv_isub hx hb dX4_keeps_31 ?_
  have J_49_1 : ∀ v_49_1 : Int32, v_49_1 = (jmin (1 + 2 * fg j + ff j) (99 - fh j)) → W p l e (rm 0) s m args below meth c H locs 0 0 Q (F0 m 49 ls [.int v_49_1]) := by
    intro v_49_1 ev_49_1
    subst ev_49_1
    refine lv_istore (lv' := [(4, .int (jmin (1 + 2 * fg j + ff j) (99 - fh j))), (3, .int (1 + (2 * (fg j)))), (0, .ref m0), (1, .int (nI j)), (2, .int x)]) hx hb dX4_keeps_49 hl (by decide) rfl (fun ls hl => ?_)
    refine lv_iload_n hx hb dX4_keeps_51 rfl (lv_at hl 4 rfl) ?_
    refine lv_iload hx hb dX4_keeps_52 (lv_at hl 0 rfl) ?_
    have J_63_2 : ∀ v_63_2 : Int32, v_63_2 = (heldv fh fg ff j x) → W p l e (rm 0) s m args below meth c H locs 0 0 Q (F0 m 63 ls [.int v_63_2]) := by
      intro v_63_2 ev_63_2
      subst ev_63_2
      refine lv_istore (lv' := [(5, .int (heldv fh fg ff j x)), (4, .int (jmin (1 + 2 * fg j + ff j) (99 - fh j))), (3, .int (1 + (2 * (fg j)))), (0, .ref m0), (1, .int (nI j)), (2, .int x)]) hx hb dX4_keeps_63 hl (by decide) rfl (fun ls hl => ?_)
      refine lv_aload_n hx hb dX4_keeps_65 rfl (lv_at hl 3 rfl) ?_
      refine va_get (D := (dC, dI)) (ci := 4) (v := .ref m1) (C := RX4) (T := TX4) (N := 16) hx hb hts hin_X4 hown hK hP 0 rfl rfl 3 (by decide) hw_4 (fun _ h9 => h9) rfl dX4_keeps_66 ?_
      refine lv_iload_n hx hb dX4_keeps_69 rfl (lv_at hl 4 rfl) ?_
      refine lv_dup2_11 hx hb dX4_keeps_70 rfl rfl ?_
      refine ra_iald hx hb hK hP 1 rfl j rfl (by omega) (Nat.le_of_ble_eq_true rfl) dX4_keeps_71 ?_
      refine ra_top (fh j) (f3_r0 _ _ _ (by omega)) ?_
      refine lv_iload hx hb dX4_keeps_72 (lv_at hl 0 rfl) ?_
      refine lv_iadd hx hb dX4_keeps_74 ?_
      refine ra_iast hx hb hK hP hD hS 1 rfl j rfl (by omega) (Nat.le_of_ble_eq_true rfl) dX4_keeps_75 (fun H locs hP hD hS => ?_)
      rw [f3_w0 _ _ _ _ (by omega)] at hP hD
      have hP : va_P (dC, dI) vwCl [ob m0 4 [.int (nI n), .int kn, .int fz, .ref m1, .ref m2, .ref m3, .ref m4, .ref m5, .ref m6, .ref m7, .ref m8, .ref m9, .ref m10, .ref m11, .ref m12, .ref m13], ai m1 cyI 21 (f3 (upd fh j ((fh j) + (heldv fh fg ff j x))) uh th), ai m2 cyI 21 (f3 fg ug tg), ai m3 cyI 21 (f3 ff uf tf), ai m4 cyI 21 (f3 fk uk tk), ai m5 cyI 3 (t3 vs us ts), ai m6 cyI 3 (t3 vb ub tb), ai m7 cyI 3 (t3 vd ud td), ai m8 cyI 3 (nF ct), ai m9 cyI 36 (q12 kd), ai m10 cyI 36 (q12 vl), ai m11 cyI 7 fr, ai m12 cyI 3 fp, ai m13 cyI 3 bp] H := hP
      have hD : va_D A [ob m0 4 [.int (nI n), .int kn, .int fz, .ref m1, .ref m2, .ref m3, .ref m4, .ref m5, .ref m6, .ref m7, .ref m8, .ref m9, .ref m10, .ref m11, .ref m12, .ref m13], ai m1 cyI 21 (f3 (upd fh j ((fh j) + (heldv fh fg ff j x))) uh th), ai m2 cyI 21 (f3 fg ug tg), ai m3 cyI 21 (f3 ff uf tf), ai m4 cyI 21 (f3 fk uk tk), ai m5 cyI 3 (t3 vs us ts), ai m6 cyI 3 (t3 vb ub tb), ai m7 cyI 3 (t3 vd ud td), ai m8 cyI 3 (nF ct), ai m9 cyI 36 (q12 kd), ai m10 cyI 36 (q12 vl), ai m11 cyI 7 fr, ai m12 cyI 3 fp, ai m13 cyI 3 bp] := hD
      refine lv_aload_n hx hb dX4_keeps_76 rfl (lv_at hl 3 rfl) ?_
      refine va_get (D := (dC, dI)) (ci := 4) (v := .ref m4) (C := RX4) (T := TX4) (N := 16) hx hb hts hin_X4 hown hK hP 0 rfl rfl 6 (by decide) hw_5 (fun _ h9 => h9) rfl dX4_keeps_77 ?_
      refine lv_iload_n hx hb dX4_keeps_80 rfl (lv_at hl 4 rfl) ?_
      refine lv_dup2_11 hx hb dX4_keeps_81 rfl rfl ?_
      refine ra_iald hx hb hK hP 4 rfl j rfl (by omega) (Nat.le_of_ble_eq_true rfl) dX4_keeps_82 ?_
      refine ra_top (fk j) (f3_r0 _ _ _ (by omega)) ?_
      refine lv_iload hx hb dX4_keeps_83 (lv_at hl 0 rfl) ?_
      refine lv_iadd hx hb dX4_keeps_85 ?_
      refine ra_iast hx hb hK hP hD hS 4 rfl j rfl (by omega) (Nat.le_of_ble_eq_true rfl) dX4_keeps_86 (fun H locs hP hD hS => ?_)
      rw [f3_w0 _ _ _ _ (by omega)] at hP hD
      have hP : va_P (dC, dI) vwCl [ob m0 4 [.int (nI n), .int kn, .int fz, .ref m1, .ref m2, .ref m3, .ref m4, .ref m5, .ref m6, .ref m7, .ref m8, .ref m9, .ref m10, .ref m11, .ref m12, .ref m13], ai m1 cyI 21 (f3 (upd fh j ((fh j) + (heldv fh fg ff j x))) uh th), ai m2 cyI 21 (f3 fg ug tg), ai m3 cyI 21 (f3 ff uf tf), ai m4 cyI 21 (f3 (upd fk j ((fk j) + (heldv fh fg ff j x))) uk tk), ai m5 cyI 3 (t3 vs us ts), ai m6 cyI 3 (t3 vb ub tb), ai m7 cyI 3 (t3 vd ud td), ai m8 cyI 3 (nF ct), ai m9 cyI 36 (q12 kd), ai m10 cyI 36 (q12 vl), ai m11 cyI 7 fr, ai m12 cyI 3 fp, ai m13 cyI 3 bp] H := hP
      have hD : va_D A [ob m0 4 [.int (nI n), .int kn, .int fz, .ref m1, .ref m2, .ref m3, .ref m4, .ref m5, .ref m6, .ref m7, .ref m8, .ref m9, .ref m10, .ref m11, .ref m12, .ref m13], ai m1 cyI 21 (f3 (upd fh j ((fh j) + (heldv fh fg ff j x))) uh th), ai m2 cyI 21 (f3 fg ug tg), ai m3 cyI 21 (f3 ff uf tf), ai m4 cyI 21 (f3 (upd fk j ((fk j) + (heldv fh fg ff j x))) uk tk), ai m5 cyI 3 (t3 vs us ts), ai m6 cyI 3 (t3 vb ub tb), ai m7 cyI 3 (t3 vd ud td), ai m8 cyI 3 (nF ct), ai m9 cyI 36 (q12 kd), ai m10 cyI 36 (q12 vl), ai m11 cyI 7 fr, ai m12 cyI 3 fp, ai m13 cyI 3 bp] := hD
      refine lv_aload_n hx hb dX4_keeps_87 rfl (lv_at hl 3 rfl) ?_
      refine va_get (D := (dC, dI)) (ci := 4) (v := .ref m3) (C := RX4) (T := TX4) (N := 16) hx hb hts hin_X4 hown hK hP 0 rfl rfl 5 (by decide) hw_3 (fun _ h9 => h9) rfl dX4_keeps_88 ?_
      refine lv_iload_n hx hb dX4_keeps_91 rfl (lv_at hl 4 rfl) ?_
      refine lv_dup2_11 hx hb dX4_keeps_92 rfl rfl ?_
      refine ra_iald hx hb hK hP 3 rfl j rfl (by omega) (Nat.le_of_ble_eq_true rfl) dX4_keeps_93 ?_
      refine ra_top (ff j) (f3_r0 _ _ _ (by omega)) ?_
      refine lv_iload hx hb dX4_keeps_94 (lv_at hl 0 rfl) ?_
      refine lv_iload_n hx hb dX4_keeps_96 rfl (lv_at hl 2 rfl) ?_
      have J_108_3 : ∀ v_108_3 : Int32, v_108_3 = (phm (heldv fh fg ff j x) (1 + 2 * fg j)) → W p l e (rm 0) s m args below meth c H locs 0 0 Q (F0 m 108 ls [.int v_108_3, .int (ff j), .int (nI j), .ref m3]) := by
        intro v_108_3 ev_108_3
        subst ev_108_3
        refine lv_isub hx hb dX4_keeps_108 ?_
        refine ra_iast hx hb hK hP hD hS 3 rfl j rfl (by omega) (Nat.le_of_ble_eq_true rfl) dX4_keeps_109 (fun H locs hP hD hS => ?_)
        rw [f3_w0 _ _ _ _ (by omega)] at hP hD
        have hP : va_P (dC, dI) vwCl [ob m0 4 [.int (nI n), .int kn, .int fz, .ref m1, .ref m2, .ref m3, .ref m4, .ref m5, .ref m6, .ref m7, .ref m8, .ref m9, .ref m10, .ref m11, .ref m12, .ref m13], ai m1 cyI 21 (f3 (upd fh j ((fh j) + (heldv fh fg ff j x))) uh th), ai m2 cyI 21 (f3 fg ug tg), ai m3 cyI 21 (f3 (upd ff j ((ff j) - (phm (heldv fh fg ff j x) (1 + 2 * fg j)))) uf tf), ai m4 cyI 21 (f3 (upd fk j ((fk j) + (heldv fh fg ff j x))) uk tk), ai m5 cyI 3 (t3 vs us ts), ai m6 cyI 3 (t3 vb ub tb), ai m7 cyI 3 (t3 vd ud td), ai m8 cyI 3 (nF ct), ai m9 cyI 36 (q12 kd), ai m10 cyI 36 (q12 vl), ai m11 cyI 7 fr, ai m12 cyI 3 fp, ai m13 cyI 3 bp] H := hP
        have hD : va_D A [ob m0 4 [.int (nI n), .int kn, .int fz, .ref m1, .ref m2, .ref m3, .ref m4, .ref m5, .ref m6, .ref m7, .ref m8, .ref m9, .ref m10, .ref m11, .ref m12, .ref m13], ai m1 cyI 21 (f3 (upd fh j ((fh j) + (heldv fh fg ff j x))) uh th), ai m2 cyI 21 (f3 fg ug tg), ai m3 cyI 21 (f3 (upd ff j ((ff j) - (phm (heldv fh fg ff j x) (1 + 2 * fg j)))) uf tf), ai m4 cyI 21 (f3 (upd fk j ((fk j) + (heldv fh fg ff j x))) uk tk), ai m5 cyI 3 (t3 vs us ts), ai m6 cyI 3 (t3 vb ub tb), ai m7 cyI 3 (t3 vd ud td), ai m8 cyI 3 (nF ct), ai m9 cyI 36 (q12 kd), ai m10 cyI 36 (q12 vl), ai m11 cyI 7 fr, ai m12 cyI 3 fp, ai m13 cyI 3 bp] := hD
        refine lv_iload hx hb dX4_keeps_110 (lv_at hl 0 rfl) ?_
        rw [hQ]
        exact ra_iretW () hx hb hr hlocks rfl hK hP hD hS rfl dX4_keeps_112
      refine lv_icmp_le (tgt := 107) hx hb dX4_keeps_97 (by decide) (fun c_97 => ?_) (fun c_97 => ?_)
      · ---- to 107
        refine lv_iconst (v := 0) hx hb dX4_keeps_107 (by decide) ?_
        exact J_108_3 _ (by unfold phm; first | (rw [if_neg (Int32.not_lt.mpr c_97)]; done) | (rw [if_pos (Int32.not_le.mp c_97)]; done))
      · ---- on
        refine lv_iload hx hb dX4_keeps_100 (lv_at hl 0 rfl) ?_
        refine lv_iload_n hx hb dX4_keeps_102 rfl (lv_at hl 2 rfl) ?_
        refine lv_isub hx hb dX4_keeps_103 ?_
        refine lv_goto (tgt := 108) hx hb dX4_keeps_104 (by decide) ?_
        exact J_108_3 _ (by unfold phm; first | (rw [if_neg (Int32.not_lt.mpr c_97)]; done) | (rw [if_pos (Int32.not_le.mp c_97)]; done))
    refine lv_icmp_ge (tgt := 61) hx hb dX4_keeps_54 (by decide) (fun c_54 => ?_) (fun c_54 => ?_)
    · ---- to 61
      refine lv_iload hx hb dX4_keeps_61 (lv_at hl 0 rfl) ?_
      exact J_63_2 _ (by first | exact jm_f c_54 | exact jm_t (Int32.not_le.mp c_54))
    · ---- on
      refine lv_iload_n hx hb dX4_keeps_57 rfl (lv_at hl 4 rfl) ?_
      refine lv_goto (tgt := 63) hx hb dX4_keeps_58 (by decide) ?_
      exact J_63_2 _ (by first | exact jm_f c_54 | exact jm_t (Int32.not_le.mp c_54))
  refine lv_icmp_ge (tgt := 40) hx hb dX4_keeps_32 (by decide) (fun c_32 => ?_) (fun c_32 => ?_)
  · ---- to 40
    refine lv_bipush (v := 99) hx hb dX4_keeps_40 (by decide) ?_
    refine lv_aload_n hx hb dX4_keeps_42 rfl (lv_at hl 2 rfl) ?_
    refine va_get (D := (dC, dI)) (ci := 4) (v := .ref m1) (C := RX4) (T := TX4) (N := 16) hx hb hts hin_X4 hown hK hP 0 rfl rfl 3 (by decide) hw_4 (fun _ h9 => h9) rfl dX4_keeps_43 ?_
    refine lv_iload_n hx hb dX4_keeps_46 rfl (lv_at hl 3 rfl) ?_
    refine ra_iald hx hb hK hP 1 rfl j rfl (by omega) (Nat.le_of_ble_eq_true rfl) dX4_keeps_47 ?_
    refine ra_top (fh j) (f3_r0 _ _ _ (by omega)) ?_
    refine lv_isub hx hb dX4_keeps_48 ?_
    exact J_49_1 _ (by first | exact jm_f c_32 | exact jm_t (Int32.not_le.mp c_32))
  · ---- on
    refine lv_iload hx hb dX4_keeps_35 (lv_at hl 0 rfl) ?_
    refine lv_goto (tgt := 49) hx hb dX4_keeps_37 (by decide) ?_
    exact J_49_1 _ (by first | exact jm_f c_32 | exact jm_t (Int32.not_le.mp c_32))

set_option maxHeartbeats 4000000 in
set_option maxRecDepth 100000 in
theorem c_X4_blow0 (l : Launch) (dC : Nat → ClassId) (dI : Nat → Nat → Nat) (cyI cyA : ClassId) (m0 m1 m2 m3 m4 m5 m6 m7 m8 m9 m10 m11 m12 m13 n : Nat) (kn fz : Int32) (fh fg ff fk uh ug uf uk th tg tf tk : FN) (vs vb vd us ub ud ts tb td : Int32) (ct : Nat → Nat) (kd vl : Nat → FN) (fr fp bp : FN) (w : Int32) (hn : n ≤ 7) (sz : Nat) : Met l yX4_blow wsX4_blow (rm 1) (kW dC dI cyI cyA [.ref m0, .int 0, .int w] sz [ob m0 4 [.int (nI n), .int kn, .int fz, .ref m1, .ref m2, .ref m3, .ref m4, .ref m5, .ref m6, .ref m7, .ref m8, .ref m9, .ref m10, .ref m11, .ref m12, .ref m13], ai m1 cyI 21 (f3 fh uh th), ai m2 cyI 21 (f3 fg ug tg), ai m3 cyI 21 (f3 ff uf tf), ai m4 cyI 21 (f3 fk uk tk), ai m5 cyI 3 (t3 vs us ts), ai m6 cyI 3 (t3 vb ub tb), ai m7 cyI 3 (t3 vd ud td), ai m8 cyI 3 (nF ct), ai m9 cyI 36 (q12 kd), ai m10 cyI 36 (q12 vl), ai m11 cyI 7 fr, ai m12 cyI 3 fp, ai m13 cyI 3 bp]) (qI dC dI cyI cyA (fun (r : Int32) (_ : Unit) => r = (blow phm psm n fh fg ff fk w).2.2.2) (va_A [ob m0 4 [.int (nI n), .int kn, .int fz, .ref m1, .ref m2, .ref m3, .ref m4, .ref m5, .ref m6, .ref m7, .ref m8, .ref m9, .ref m10, .ref m11, .ref m12, .ref m13], ai m1 cyI 21 (f3 fh uh th), ai m2 cyI 21 (f3 fg ug tg), ai m3 cyI 21 (f3 ff uf tf), ai m4 cyI 21 (f3 fk uk tk), ai m5 cyI 3 (t3 vs us ts), ai m6 cyI 3 (t3 vb ub tb), ai m7 cyI 3 (t3 vd ud td), ai m8 cyI 3 (nF ct), ai m9 cyI 36 (q12 kd), ai m10 cyI 36 (q12 vl), ai m11 cyI 7 fr, ai m12 cyI 3 fp, ai m13 cyI 3 bp] sz) (fun _ => [ob m0 4 [.int (nI n), .int kn, .int fz, .ref m1, .ref m2, .ref m3, .ref m4, .ref m5, .ref m6, .ref m7, .ref m8, .ref m9, .ref m10, .ref m11, .ref m12, .ref m13], ai m1 cyI 21 (f3 ((blow phm psm n fh fg ff fk w).1) uh th), ai m2 cyI 21 (f3 fg ug tg), ai m3 cyI 21 (f3 ((blow phm psm n fh fg ff fk w).2.1) uf tf), ai m4 cyI 21 (f3 ((blow phm psm n fh fg ff fk w).2.2.1) uk tk), ai m5 cyI 3 (t3 vs us ts), ai m6 cyI 3 (t3 (vb + (blow phm psm n fh fg ff fk w).2.2.2) ub tb), ai m7 cyI 3 (t3 vd ud td), ai m8 cyI 3 (nF ct), ai m9 cyI 36 (q12 kd), ai m10 cyI 36 (q12 vl), ai m11 cyI 7 fr, ai m12 cyI 3 fp, ai m13 cyI 3 bp])) 0 0 (va_A [ob m0 4 [.int (nI n), .int kn, .int fz, .ref m1, .ref m2, .ref m3, .ref m4, .ref m5, .ref m6, .ref m7, .ref m8, .ref m9, .ref m10, .ref m11, .ref m12, .ref m13], ai m1 cyI 21 (f3 fh uh th), ai m2 cyI 21 (f3 fg ug tg), ai m3 cyI 21 (f3 ff uf tf), ai m4 cyI 21 (f3 fk uk tk), ai m5 cyI 3 (t3 vs us ts), ai m6 cyI 3 (t3 vb ub tb), ai m7 cyI 3 (t3 vd ud td), ai m8 cyI 3 (nF ct), ai m9 cyI 36 (q12 kd), ai m10 cyI 36 (q12 vl), ai m11 cyI 7 fr, ai m12 cyI 3 fp, ai m13 cyI 3 bp] sz) := by
  refine ra_metW (cc := cX4_blow) (maxL := 8) (Qc := fun A => qI dC dI cyI cyA (fun (r : Int32) (_ : Unit) => r = (blow phm psm n fh fg ff fk w).2.2.2) A (fun _ => [ob m0 4 [.int (nI n), .int kn, .int fz, .ref m1, .ref m2, .ref m3, .ref m4, .ref m5, .ref m6, .ref m7, .ref m8, .ref m9, .ref m10, .ref m11, .ref m12, .ref m13], ai m1 cyI 21 (f3 ((blow phm psm n fh fg ff fk w).1) uh th), ai m2 cyI 21 (f3 fg ug tg), ai m3 cyI 21 (f3 ((blow phm psm n fh fg ff fk w).2.1) uf tf), ai m4 cyI 21 (f3 ((blow phm psm n fh fg ff fk w).2.2.1) uk tk), ai m5 cyI 3 (t3 vs us ts), ai m6 cyI 3 (t3 (vb + (blow phm psm n fh fg ff fk w).2.2.2) ub tb), ai m7 cyI 3 (t3 vd ud td), ai m8 cyI 3 (nF ct), ai m9 cyI 36 (q12 kd), ai m10 cyI 36 (q12 vl), ai m11 cyI 7 fr, ai m12 cyI 3 fp, ai m13 cyI 3 bp])) (by decide) rfl (Nat.le_of_ble_eq_true rfl) ?_
  intro p e s m below meth c A args Q hQ hx hb hr hlocks hml hts hown hnm hK hN hP hD hA hS ls hl
  have hl : lv_has ls 8 [(0, .ref m0), (1, .int 0), (2, .int w)] := hl
  have hown : s.vm.findClass RX4 = some m.cls := hown
  have hw_1 := hts (.fieldLink RX4 7 "DuneBenchModel" "n" "I") (by decide +kernel)
  have hin_X4 : ∀ w ∈ u_ws RX4 TX4 16, w ∈ wsX4_blow := by decide +kernel
  have hw_3 := hts (.fieldLink RX4 32 "DuneBenchModel" "behind" "[I") (by decide +kernel)
  have hw_4 := hts (.fieldLink RX4 20 "DuneBenchModel" "grass" "[I") (by decide +kernel)
  have hw_5 := hts (.fieldLink RX4 16 "DuneBenchModel" "height" "[I") (by decide +kernel)
  obtain ⟨H, hHe⟩ : ∃ H, H = s.heap := ⟨_, rfl⟩
  obtain ⟨locs, hLe⟩ : ∃ locs : List Loc, locs = [] := ⟨_, rfl⟩
  have hP : va_P (dC, dI) vwCl [ob m0 4 [.int (nI n), .int kn, .int fz, .ref m1, .ref m2, .ref m3, .ref m4, .ref m5, .ref m6, .ref m7, .ref m8, .ref m9, .ref m10, .ref m11, .ref m12, .ref m13], ai m1 cyI 21 (f3 fh uh th), ai m2 cyI 21 (f3 fg ug tg), ai m3 cyI 21 (f3 ff uf tf), ai m4 cyI 21 (f3 fk uk tk), ai m5 cyI 3 (t3 vs us ts), ai m6 cyI 3 (t3 vb ub tb), ai m7 cyI 3 (t3 vd ud td), ai m8 cyI 3 (nF ct), ai m9 cyI 36 (q12 kd), ai m10 cyI 36 (q12 vl), ai m11 cyI 7 fr, ai m12 cyI 3 fp, ai m13 cyI 3 bp] H := by rw [hHe]; exact hP
  have hS : va_S A s.heap H locs := by rw [hHe, hLe]; exact hS
  suffices hgo : W p l e (rm 1) s m args below meth c H locs 0 0 Q (F0 m 0 ls []) by rw [hHe, hLe] at hgo; exact hgo
  refine lv_iconst (v := 0) hx hb dX4_blow_0 (by decide) ?_
  refine lv_istore_n (lv' := [(3, .int 0), (0, .ref m0), (1, .int 0), (2, .int w)]) hx hb dX4_blow_1 rfl hl (by decide) rfl (fun ls hl => ?_)
  refine lv_aload_n hx hb dX4_blow_2 rfl (lv_at hl 1 rfl) ?_
  refine va_get (D := (dC, dI)) (ci := 4) (v := .int (nI n)) (C := RX4) (T := TX4) (N := 16) hx hb hts hin_X4 hown hK hP 0 rfl rfl 0 (by decide) hw_1 (fun _ h9 => h9) rfl dX4_blow_3 ?_
  refine lv_iconst (v := 1) hx hb dX4_blow_6 (by decide) ?_
  refine lv_isub hx hb dX4_blow_7 ?_
  refine lv_istore (lv' := [(4, .int ((nI n) - 1)), (3, .int 0), (0, .ref m0), (1, .int 0), (2, .int w)]) hx hb dX4_blow_8 hl (by decide) rfl (fun ls hl => ?_)
  have L_10 : ∀ (n9 : Nat) (q : Nat) (xh0 : FN) (xf0 : FN) (xk0 : FN) (x : Int32), (q ≤ n) → (bOut phm psm n fg w q xh0 xf0 xk0 x = blow phm psm n fh fg ff fk w) → q < n9 → ∀ (H : Heap) (locs : List Loc), va_P (dC, dI) vwCl [ob m0 4 [.int (nI n), .int kn, .int fz, .ref m1, .ref m2, .ref m3, .ref m4, .ref m5, .ref m6, .ref m7, .ref m8, .ref m9, .ref m10, .ref m11, .ref m12, .ref m13], ai m1 cyI 21 (f3 xh0 uh th), ai m2 cyI 21 (f3 fg ug tg), ai m3 cyI 21 (f3 xf0 uf tf), ai m4 cyI 21 (f3 xk0 uk tk), ai m5 cyI 3 (t3 vs us ts), ai m6 cyI 3 (t3 vb ub tb), ai m7 cyI 3 (t3 vd ud td), ai m8 cyI 3 (nF ct), ai m9 cyI 36 (q12 kd), ai m10 cyI 36 (q12 vl), ai m11 cyI 7 fr, ai m12 cyI 3 fp, ai m13 cyI 3 bp] H → va_D A [ob m0 4 [.int (nI n), .int kn, .int fz, .ref m1, .ref m2, .ref m3, .ref m4, .ref m5, .ref m6, .ref m7, .ref m8, .ref m9, .ref m10, .ref m11, .ref m12, .ref m13], ai m1 cyI 21 (f3 xh0 uh th), ai m2 cyI 21 (f3 fg ug tg), ai m3 cyI 21 (f3 xf0 uf tf), ai m4 cyI 21 (f3 xk0 uk tk), ai m5 cyI 3 (t3 vs us ts), ai m6 cyI 3 (t3 vb ub tb), ai m7 cyI 3 (t3 vd ud td), ai m8 cyI 3 (nF ct), ai m9 cyI 36 (q12 kd), ai m10 cyI 36 (q12 vl), ai m11 cyI 7 fr, ai m12 cyI 3 fp, ai m13 cyI 3 bp] → va_S A s.heap H locs → ∀ ls : Array Slot, lv_has ls 8 [(0, .ref m0), (1, .int 0), (2, .int w), (3, .int x), (4, .int (nI q - 1))] → W p l e (rm 1) s m args below meth c H locs 0 0 Q (F0 m 10 ls []) := by
    intro n9
    induction n9 with
    | zero =>
      intro q xh0 xf0 xk0 x hq he hm9
      exact absurd hm9 (Nat.not_lt_zero _)
    | succ n9 ih_10 =>
      intro q xh0 xf0 xk0 x hq he hm9 H locs hP hD hS ls hl
      rcases q with _ | j
      ·
        have hl : lv_has ls 8 [(0, .ref m0), (1, .int 0), (2, .int w), (3, .int x), (4, .int (-1))] := by rw [show nI 0 - 1 = (-1 : Int32) by decide] at hl; exact hl
        refine lv_iload hx hb dX4_blow_10 (lv_at hl 4 rfl) ?_
        refine lv_if_lt (tgt := 138) hx hb dX4_blow_12 (by decide) (fun c_12 => ?_) (fun c_12 => ?_)
        · ---- to 138
          have he : (xh0, xf0, xk0, x) = blow phm psm n fh fg ff fk w := he
          refine lv_aload_n hx hb dX4_blow_138 rfl (lv_at hl 0 rfl) ?_
          refine va_get (D := (dC, dI)) (ci := 4) (v := .ref m6) (C := RX4) (T := TX4) (N := 16) hx hb hts hin_X4 hown hK hP 0 rfl rfl 8 (by decide) hw_3 (fun _ h9 => h9) rfl dX4_blow_139 ?_
          refine lv_iload_n hx hb dX4_blow_142 rfl (lv_at hl 1 rfl) ?_
          refine lv_dup2_11 hx hb dX4_blow_143 rfl rfl ?_
          refine ra_iald hx hb hK hP 6 rfl 0 rfl (by omega) (Nat.le_of_ble_eq_true rfl) dX4_blow_144 ?_
          refine ra_top vb rfl ?_
          refine lv_iload_n hx hb dX4_blow_145 rfl (lv_at hl 3 rfl) ?_
          refine lv_iadd hx hb dX4_blow_146 ?_
          refine ra_iast hx hb hK hP hD hS 6 rfl 0 rfl (by omega) (Nat.le_of_ble_eq_true rfl) dX4_blow_147 (fun H locs hP hD hS => ?_)
          rw [t3_w0] at hP hD
          have hP : va_P (dC, dI) vwCl [ob m0 4 [.int (nI n), .int kn, .int fz, .ref m1, .ref m2, .ref m3, .ref m4, .ref m5, .ref m6, .ref m7, .ref m8, .ref m9, .ref m10, .ref m11, .ref m12, .ref m13], ai m1 cyI 21 (f3 xh0 uh th), ai m2 cyI 21 (f3 fg ug tg), ai m3 cyI 21 (f3 xf0 uf tf), ai m4 cyI 21 (f3 xk0 uk tk), ai m5 cyI 3 (t3 vs us ts), ai m6 cyI 3 (t3 (vb + x) ub tb), ai m7 cyI 3 (t3 vd ud td), ai m8 cyI 3 (nF ct), ai m9 cyI 36 (q12 kd), ai m10 cyI 36 (q12 vl), ai m11 cyI 7 fr, ai m12 cyI 3 fp, ai m13 cyI 3 bp] H := hP
          have hD : va_D A [ob m0 4 [.int (nI n), .int kn, .int fz, .ref m1, .ref m2, .ref m3, .ref m4, .ref m5, .ref m6, .ref m7, .ref m8, .ref m9, .ref m10, .ref m11, .ref m12, .ref m13], ai m1 cyI 21 (f3 xh0 uh th), ai m2 cyI 21 (f3 fg ug tg), ai m3 cyI 21 (f3 xf0 uf tf), ai m4 cyI 21 (f3 xk0 uk tk), ai m5 cyI 3 (t3 vs us ts), ai m6 cyI 3 (t3 (vb + x) ub tb), ai m7 cyI 3 (t3 vd ud td), ai m8 cyI 3 (nF ct), ai m9 cyI 36 (q12 kd), ai m10 cyI 36 (q12 vl), ai m11 cyI 7 fr, ai m12 cyI 3 fp, ai m13 cyI 3 bp] := hD
          refine lv_iload_n hx hb dX4_blow_148 rfl (lv_at hl 3 rfl) ?_
          rw [hQ]
          rw [← he]
          exact ra_iretW () hx hb hr hlocks rfl hK hP hD hS rfl dX4_blow_149
        · ---- on
          exact absurd c_12 (by decide)
      ·
        have hl : lv_has ls 8 [(0, .ref m0), (1, .int 0), (2, .int w), (3, .int x), (4, .int (nI j))] := by rw [nI_pred] at hl; exact hl
        refine lv_iload hx hb dX4_blow_10 (lv_at hl 4 rfl) ?_
        refine lv_if_lt (tgt := 138) hx hb dX4_blow_12 (by decide) (fun c_12 => ?_) (fun c_12 => ?_)
        · ---- to 138
          exact absurd c_12 (nI_pos (by omega))
        · ---- on
          have n_12 := (nq_lt_n j 0 (by omega) (by omega)).mp c_12
          refine lv_bipush (v := 7) hx hb dX4_blow_15 (by decide) ?_
          refine lv_iload_n hx hb dX4_blow_17 rfl (lv_at hl 1 rfl) ?_
          refine lv_imul hx hb dX4_blow_18 ?_
          refine ra_top (0) (by decide) ?_
          refine lv_iload hx hb dX4_blow_19 (lv_at hl 4 rfl) ?_
          refine lv_iadd hx hb dX4_blow_21 ?_
          refine ra_top (nI j) (Int32.zero_add _) ?_
          refine lv_istore (lv' := [(5, .int (nI j)), (0, .ref m0), (1, .int 0), (2, .int w), (3, .int x), (4, .int (nI j))]) hx hb dX4_blow_22 hl (by decide) rfl (fun ls hl => ?_)
          refine lv_iload_n hx hb dX4_blow_24 rfl (lv_at hl 3 rfl) ?_
          refine lv_aload_n hx hb dX4_blow_25 rfl (lv_at hl 1 rfl) ?_
          refine va_get (D := (dC, dI)) (ci := 4) (v := .ref m2) (C := RX4) (T := TX4) (N := 16) hx hb hts hin_X4 hown hK hP 0 rfl rfl 4 (by decide) hw_4 (fun _ h9 => h9) rfl dX4_blow_26 ?_
          refine lv_iload hx hb dX4_blow_29 (lv_at hl 0 rfl) ?_
          refine ra_iald hx hb hK hP 2 rfl j rfl (by omega) (Nat.le_of_ble_eq_true rfl) dX4_blow_31 ?_
          refine ra_top (fg j) (f3_r0 _ _ _ (by omega)) ?_
          have J_48_1 : ∀ v_48_1 : Int32, v_48_1 = (psm w (fg j)) → W p l e (rm 1) s m args below meth c H locs 0 0 Q (F0 m 48 ls [.int v_48_1]) := by
            intro v_48_1 ev_48_1
            subst ev_48_1
            refine lv_istore (lv' := [(6, .int (psm w (fg j))), (5, .int (nI j)), (0, .ref m0), (1, .int 0), (2, .int w), (3, .int x), (4, .int (nI j))]) hx hb dX4_blow_48 hl (by decide) rfl (fun ls hl => ?_)
            refine lv_iload hx hb dX4_blow_50 (lv_at hl 0 rfl) ?_
            refine lv_aload_n hx hb dX4_blow_52 rfl (lv_at hl 2 rfl) ?_
            refine va_get (D := (dC, dI)) (ci := 4) (v := .ref m1) (C := RX4) (T := TX4) (N := 16) hx hb hts hin_X4 hown hK hP 0 rfl rfl 3 (by decide) hw_5 (fun _ h9 => h9) rfl dX4_blow_53 ?_
            refine lv_iload hx hb dX4_blow_56 (lv_at hl 1 rfl) ?_
            refine ra_iald hx hb hK hP 1 rfl j rfl (by omega) (Nat.le_of_ble_eq_true rfl) dX4_blow_58 ?_
            refine ra_top (xh0 j) (f3_r0 _ _ _ (by omega)) ?_
            have J_74_2 : ∀ v_74_2 : Int32, v_74_2 = (jmin (xh0 j) (psm w (fg j))) → W p l e (rm 1) s m args below meth c H locs 0 0 Q (F0 m 74 ls [.int v_74_2]) := by
              intro v_74_2 ev_74_2
              subst ev_74_2
              refine lv_istore (lv' := [(6, .int (jmin (xh0 j) (psm w (fg j)))), (5, .int (nI j)), (0, .ref m0), (1, .int 0), (2, .int w), (3, .int x), (4, .int (nI j))]) hx hb dX4_blow_74 hl (by decide) rfl (fun ls hl => ?_)
              refine lv_aload_n hx hb dX4_blow_76 rfl (lv_at hl 2 rfl) ?_
              refine va_get (D := (dC, dI)) (ci := 4) (v := .ref m1) (C := RX4) (T := TX4) (N := 16) hx hb hts hin_X4 hown hK hP 0 rfl rfl 3 (by decide) hw_5 (fun _ h9 => h9) rfl dX4_blow_77 ?_
              refine lv_iload hx hb dX4_blow_80 (lv_at hl 1 rfl) ?_
              refine lv_dup2_11 hx hb dX4_blow_82 rfl rfl ?_
              refine ra_iald hx hb hK hP 1 rfl j rfl (by omega) (Nat.le_of_ble_eq_true rfl) dX4_blow_83 ?_
              refine ra_top (xh0 j) (f3_r0 _ _ _ (by omega)) ?_
              refine lv_iload hx hb dX4_blow_84 (lv_at hl 0 rfl) ?_
              refine lv_isub hx hb dX4_blow_86 ?_
              refine ra_iast hx hb hK hP hD hS 1 rfl j rfl (by omega) (Nat.le_of_ble_eq_true rfl) dX4_blow_87 (fun H locs hP hD hS => ?_)
              rw [f3_w0 _ _ _ _ (by omega)] at hP hD
              have hP : va_P (dC, dI) vwCl [ob m0 4 [.int (nI n), .int kn, .int fz, .ref m1, .ref m2, .ref m3, .ref m4, .ref m5, .ref m6, .ref m7, .ref m8, .ref m9, .ref m10, .ref m11, .ref m12, .ref m13], ai m1 cyI 21 (f3 (upd xh0 j ((xh0 j) - (jmin (xh0 j) (psm w (fg j))))) uh th), ai m2 cyI 21 (f3 fg ug tg), ai m3 cyI 21 (f3 xf0 uf tf), ai m4 cyI 21 (f3 xk0 uk tk), ai m5 cyI 3 (t3 vs us ts), ai m6 cyI 3 (t3 vb ub tb), ai m7 cyI 3 (t3 vd ud td), ai m8 cyI 3 (nF ct), ai m9 cyI 36 (q12 kd), ai m10 cyI 36 (q12 vl), ai m11 cyI 7 fr, ai m12 cyI 3 fp, ai m13 cyI 3 bp] H := hP
              have hD : va_D A [ob m0 4 [.int (nI n), .int kn, .int fz, .ref m1, .ref m2, .ref m3, .ref m4, .ref m5, .ref m6, .ref m7, .ref m8, .ref m9, .ref m10, .ref m11, .ref m12, .ref m13], ai m1 cyI 21 (f3 (upd xh0 j ((xh0 j) - (jmin (xh0 j) (psm w (fg j))))) uh th), ai m2 cyI 21 (f3 fg ug tg), ai m3 cyI 21 (f3 xf0 uf tf), ai m4 cyI 21 (f3 xk0 uk tk), ai m5 cyI 3 (t3 vs us ts), ai m6 cyI 3 (t3 vb ub tb), ai m7 cyI 3 (t3 vd ud td), ai m8 cyI 3 (nF ct), ai m9 cyI 36 (q12 kd), ai m10 cyI 36 (q12 vl), ai m11 cyI 7 fr, ai m12 cyI 3 fp, ai m13 cyI 3 bp] := hD
              refine lv_iload hx hb dX4_blow_88 (lv_at hl 6 rfl) ?_
              refine lv_iconst (v := 1) hx hb dX4_blow_90 (by decide) ?_
              refine lv_iadd hx hb dX4_blow_91 ?_
              refine ra_top (nI (j + 1)) (nI_add j 1) ?_
              refine lv_istore (lv' := [(7, .int (nI (j + 1))), (6, .int (jmin (xh0 j) (psm w (fg j)))), (5, .int (nI j)), (0, .ref m0), (1, .int 0), (2, .int w), (3, .int x), (4, .int (nI j))]) hx hb dX4_blow_92 hl (by decide) rfl (fun ls hl => ?_)
              have L_94 : ∀ (n9 : Nat) (j2 : Nat) (xh1 : FN) (xf1 : FN) (xk1 : FN) (z : Int32), (j2 ≤ n) → (bIn phm fg (n - j2) j2 xh1 xf1 xk1 z = bIn phm fg (n - (j + 1)) (j + 1) (upd xh0 j (xh0 j - jmin (xh0 j) (psm w (fg j)))) xf0 xk0 (jmin (xh0 j) (psm w (fg j)))) → (n - j2) < n9 → ∀ (H : Heap) (locs : List Loc), va_P (dC, dI) vwCl [ob m0 4 [.int (nI n), .int kn, .int fz, .ref m1, .ref m2, .ref m3, .ref m4, .ref m5, .ref m6, .ref m7, .ref m8, .ref m9, .ref m10, .ref m11, .ref m12, .ref m13], ai m1 cyI 21 (f3 xh1 uh th), ai m2 cyI 21 (f3 fg ug tg), ai m3 cyI 21 (f3 xf1 uf tf), ai m4 cyI 21 (f3 xk1 uk tk), ai m5 cyI 3 (t3 vs us ts), ai m6 cyI 3 (t3 vb ub tb), ai m7 cyI 3 (t3 vd ud td), ai m8 cyI 3 (nF ct), ai m9 cyI 36 (q12 kd), ai m10 cyI 36 (q12 vl), ai m11 cyI 7 fr, ai m12 cyI 3 fp, ai m13 cyI 3 bp] H → va_D A [ob m0 4 [.int (nI n), .int kn, .int fz, .ref m1, .ref m2, .ref m3, .ref m4, .ref m5, .ref m6, .ref m7, .ref m8, .ref m9, .ref m10, .ref m11, .ref m12, .ref m13], ai m1 cyI 21 (f3 xh1 uh th), ai m2 cyI 21 (f3 fg ug tg), ai m3 cyI 21 (f3 xf1 uf tf), ai m4 cyI 21 (f3 xk1 uk tk), ai m5 cyI 3 (t3 vs us ts), ai m6 cyI 3 (t3 vb ub tb), ai m7 cyI 3 (t3 vd ud td), ai m8 cyI 3 (nF ct), ai m9 cyI 36 (q12 kd), ai m10 cyI 36 (q12 vl), ai m11 cyI 7 fr, ai m12 cyI 3 fp, ai m13 cyI 3 bp] → va_S A s.heap H locs → ∀ ls : Array Slot, lv_has ls 8 [(0, .ref m0), (1, .int 0), (2, .int w), (3, .int x), (4, .int (nI j)), (6, .int z), (7, .int (nI j2))] → W p l e (rm 1) s m args below meth c H locs 0 0 Q (F0 m 94 ls []) := by
                intro n9
                induction n9 with
                | zero =>
                  intro j2 xh1 xf1 xk1 z hj2 he2 hm9
                  exact absurd hm9 (Nat.not_lt_zero _)
                | succ n9 ih_94 =>
                  intro j2 xh1 xf1 xk1 z hj2 he2 hm9 H locs hP hD hS ls hl
                  refine lv_iload hx hb dX4_blow_94 (lv_at hl 6 rfl) ?_
                  refine lv_aload_n hx hb dX4_blow_96 rfl (lv_at hl 0 rfl) ?_
                  refine va_get (D := (dC, dI)) (ci := 4) (v := .int (nI n)) (C := RX4) (T := TX4) (N := 16) hx hb hts hin_X4 hown hK hP 0 rfl rfl 0 (by decide) hw_1 (fun _ h9 => h9) rfl dX4_blow_97 ?_
                  refine lv_icmp_ge (tgt := 127) hx hb dX4_blow_100 (by decide) (fun c_100 => ?_) (fun c_100 => ?_)
                  · ---- to 127
                    have n_100 := (nq_le n j2 (by omega) (by omega)).mp c_100
                    have he2 : (xh1, xf1, xk1, z) = bIn phm fg (n - (j + 1)) (j + 1) (upd xh0 j (xh0 j - jmin (xh0 j) (psm w (fg j)))) xf0 xk0 (jmin (xh0 j) (psm w (fg j))) := by rw [← he2, show n - j2 = 0 by omega]; rfl
                    refine lv_iload_n hx hb dX4_blow_127 rfl (lv_at hl 3 rfl) ?_
                    refine lv_iload hx hb dX4_blow_128 (lv_at hl 5 rfl) ?_
                    refine lv_iadd hx hb dX4_blow_130 ?_
                    refine lv_istore_n (lv' := [(3, .int (x + z)), (0, .ref m0), (1, .int 0), (2, .int w), (4, .int (nI j)), (6, .int z), (7, .int (nI j2))]) hx hb dX4_blow_131 rfl hl (by decide) rfl (fun ls hl => ?_)
                    refine lv_iinc (v := nI j - 1) (lv' := [(4, .int (nI j - 1)), (3, .int (x + z)), (0, .ref m0), (1, .int 0), (2, .int w), (6, .int z), (7, .int (nI j2))]) hx hb dX4_blow_132 hl (k := 4) rfl (ra_dec _) (by decide) rfl (fun ls hl => ?_)
                    refine lv_goto (tgt := 10) hx hb dX4_blow_135 (by decide) ?_
                    exact ih_10 j xh1 xf1 xk1 (x + z) (by omega) (by rw [← he]; show _ = bOut phm psm n fg w j (bIn phm fg (n - (j + 1)) (j + 1) (upd xh0 j (xh0 j - jmin (xh0 j) (psm w (fg j)))) xf0 xk0 (jmin (xh0 j) (psm w (fg j)))).1 (bIn phm fg (n - (j + 1)) (j + 1) (upd xh0 j (xh0 j - jmin (xh0 j) (psm w (fg j)))) xf0 xk0 (jmin (xh0 j) (psm w (fg j)))).2.1 (bIn phm fg (n - (j + 1)) (j + 1) (upd xh0 j (xh0 j - jmin (xh0 j) (psm w (fg j)))) xf0 xk0 (jmin (xh0 j) (psm w (fg j)))).2.2.1 (x + (bIn phm fg (n - (j + 1)) (j + 1) (upd xh0 j (xh0 j - jmin (xh0 j) (psm w (fg j)))) xf0 xk0 (jmin (xh0 j) (psm w (fg j)))).2.2.2); rw [← he2]) (by omega) H locs hP hD hS ls (lv_sub hl [2, 3, 4, 1, 0] rfl)
                  · ---- on
                    have n_100 := (nq_le_n n j2 (by omega) (by omega)).mp c_100
                    refine lv_iload hx hb dX4_blow_103 (lv_at hl 5 rfl) ?_
                    refine lv_aload_n hx hb dX4_blow_105 rfl (lv_at hl 0 rfl) ?_
                    refine lv_bipush (v := 7) hx hb dX4_blow_106 (by decide) ?_
                    refine lv_iload_n hx hb dX4_blow_108 rfl (lv_at hl 1 rfl) ?_
                    refine lv_imul hx hb dX4_blow_109 ?_
                    refine ra_top (0) (by decide) ?_
                    refine lv_iload hx hb dX4_blow_110 (lv_at hl 6 rfl) ?_
                    refine lv_iadd hx hb dX4_blow_112 ?_
                    refine ra_top (nI j2) (Int32.zero_add _) ?_
                    refine lv_iload hx hb dX4_blow_113 (lv_at hl 5 rfl) ?_
                    refine ra_cI (q := (RX4, TX4, 16)) (ci := 4) (As := [.int (nI j2), .int z]) (rest := [.int z]) (wc := [ob m0 4 [.int (nI n), .int kn, .int fz, .ref m1, .ref m2, .ref m3, .ref m4, .ref m5, .ref m6, .ref m7, .ref m8, .ref m9, .ref m10, .ref m11, .ref m12, .ref m13], ai m1 cyI 21 (f3 xh1 uh th), ai m2 cyI 21 (f3 fg ug tg), ai m3 cyI 21 (f3 xf1 uf tf), ai m4 cyI 21 (f3 xk1 uk tk), ai m5 cyI 3 (t3 vs us ts), ai m6 cyI 3 (t3 vb ub tb), ai m7 cyI 3 (t3 vd ud td), ai m8 cyI 3 (nF ct), ai m9 cyI 36 (q12 kd), ai m10 cyI 36 (q12 vl), ai m11 cyI 7 fr, ai m12 cyI 3 fp, ai m13 cyI 3 bp]) (wr := []) ⟨hx, hb, hml, hown, hts⟩ (c_X4_keeps0 l dC dI cyI cyA m0 m1 m2 m3 m4 m5 m6 m7 m8 m9 m10 m11 m12 m13 n kn fz xh1 fg xf1 xk1 uh ug uf uk th tg tf tk vs vb vd us ub ud ts tb td ct kd vl fr fp bp j2 z (by omega) H.size) (cwV 2 hts gX4_blow_X4_keeps rfl rfl rfl (by decide +kernel) ⟨Nat.le_of_ble_eq_true rfl, Nat.le_of_ble_eq_true rfl⟩) hK hN hP hD hA hS [0, 1, 2, 3, 4, 5, 6, 7, 8, 9, 10, 11, 12, 13] [] rfl rfl (by decide) (by decide) (by decide) rfl rfl rfl hl.1 rfl (Nat.le_of_ble_eq_true rfl) dX4_blow_115 ⟨Nat.le_of_ble_eq_true rfl, Nat.le_of_ble_eq_true rfl⟩ (fun r_1 u_1 hw_c1 H locs hP hD hS => ?_)
                    subst hw_c1
                    have hP : va_P (dC, dI) vwCl [ob m0 4 [.int (nI n), .int kn, .int fz, .ref m1, .ref m2, .ref m3, .ref m4, .ref m5, .ref m6, .ref m7, .ref m8, .ref m9, .ref m10, .ref m11, .ref m12, .ref m13], ai m1 cyI 21 (f3 (upd xh1 j2 (xh1 j2 + heldv xh1 fg xf1 j2 z)) uh th), ai m2 cyI 21 (f3 fg ug tg), ai m3 cyI 21 (f3 (upd xf1 j2 (xf1 j2 - phm (heldv xh1 fg xf1 j2 z) (1 + 2 * fg j2))) uf tf), ai m4 cyI 21 (f3 (upd xk1 j2 (xk1 j2 + heldv xh1 fg xf1 j2 z)) uk tk), ai m5 cyI 3 (t3 vs us ts), ai m6 cyI 3 (t3 vb ub tb), ai m7 cyI 3 (t3 vd ud td), ai m8 cyI 3 (nF ct), ai m9 cyI 36 (q12 kd), ai m10 cyI 36 (q12 vl), ai m11 cyI 7 fr, ai m12 cyI 3 fp, ai m13 cyI 3 bp] H := hP
                    have hD : va_D A [ob m0 4 [.int (nI n), .int kn, .int fz, .ref m1, .ref m2, .ref m3, .ref m4, .ref m5, .ref m6, .ref m7, .ref m8, .ref m9, .ref m10, .ref m11, .ref m12, .ref m13], ai m1 cyI 21 (f3 (upd xh1 j2 (xh1 j2 + heldv xh1 fg xf1 j2 z)) uh th), ai m2 cyI 21 (f3 fg ug tg), ai m3 cyI 21 (f3 (upd xf1 j2 (xf1 j2 - phm (heldv xh1 fg xf1 j2 z) (1 + 2 * fg j2))) uf tf), ai m4 cyI 21 (f3 (upd xk1 j2 (xk1 j2 + heldv xh1 fg xf1 j2 z)) uk tk), ai m5 cyI 3 (t3 vs us ts), ai m6 cyI 3 (t3 vb ub tb), ai m7 cyI 3 (t3 vd ud td), ai m8 cyI 3 (nF ct), ai m9 cyI 36 (q12 kd), ai m10 cyI 36 (q12 vl), ai m11 cyI 7 fr, ai m12 cyI 3 fp, ai m13 cyI 3 bp] := hD
                    refine lv_isub hx hb dX4_blow_118 ?_
                    refine lv_istore (lv' := [(6, .int (z - (heldv xh1 fg xf1 j2 z))), (0, .ref m0), (1, .int 0), (2, .int w), (3, .int x), (4, .int (nI j)), (7, .int (nI j2))]) hx hb dX4_blow_119 hl (by decide) rfl (fun ls hl => ?_)
                    refine lv_iinc (v := nI (j2 + 1)) (lv' := [(7, .int (nI (j2 + 1))), (6, .int (z - (heldv xh1 fg xf1 j2 z))), (0, .ref m0), (1, .int 0), (2, .int w), (3, .int x), (4, .int (nI j))]) hx hb dX4_blow_121 hl (k := 6) rfl (ra_inc1 _) (by decide) rfl (fun ls hl => ?_)
                    refine lv_goto (tgt := 94) hx hb dX4_blow_124 (by decide) ?_
                    exact ih_94 (j2 + 1) (upd xh1 j2 (xh1 j2 + heldv xh1 fg xf1 j2 z)) (upd xf1 j2 (xf1 j2 - phm (heldv xh1 fg xf1 j2 z) (1 + 2 * fg j2))) (upd xk1 j2 (xk1 j2 + heldv xh1 fg xf1 j2 z)) (z - (heldv xh1 fg xf1 j2 z)) (by omega) (by rw [← he2, show n - j2 = n - (j2 + 1) + 1 by omega]; exact (bIn_m _ _ _ _ _ _ _).symm) (by omega) H locs hP hD hS ls (lv_sub hl [2, 3, 4, 5, 6, 1, 0] rfl)
              exact L_94 _ (j + 1) (upd xh0 j ((xh0 j) - (jmin (xh0 j) (psm w (fg j))))) xf0 xk0 (jmin (xh0 j) (psm w (fg j))) (by omega) rfl (Nat.lt_succ_self _) H locs hP hD hS ls (lv_sub hl [3, 4, 5, 6, 7, 1, 0] rfl)
            refine lv_icmp_ge (tgt := 67) hx hb dX4_blow_59 (by decide) (fun c_59 => ?_) (fun c_59 => ?_)
            · ---- to 67
              refine lv_aload_n hx hb dX4_blow_67 rfl (lv_at hl 2 rfl) ?_
              refine va_get (D := (dC, dI)) (ci := 4) (v := .ref m1) (C := RX4) (T := TX4) (N := 16) hx hb hts hin_X4 hown hK hP 0 rfl rfl 3 (by decide) hw_5 (fun _ h9 => h9) rfl dX4_blow_68 ?_
              refine lv_iload hx hb dX4_blow_71 (lv_at hl 1 rfl) ?_
              refine ra_iald hx hb hK hP 1 rfl j rfl (by omega) (Nat.le_of_ble_eq_true rfl) dX4_blow_73 ?_
              refine ra_top (xh0 j) (f3_r0 _ _ _ (by omega)) ?_
              exact J_74_2 _ (by unfold jmin; first | (rw [if_neg (Int32.not_lt.mpr c_59)]; done) | (rw [if_pos (Int32.not_le.mp c_59)]; done))
            · ---- on
              refine lv_iload hx hb dX4_blow_62 (lv_at hl 0 rfl) ?_
              refine lv_goto (tgt := 74) hx hb dX4_blow_64 (by decide) ?_
              exact J_74_2 _ (by unfold jmin; first | (rw [if_neg (Int32.not_lt.mpr c_59)]; done) | (rw [if_pos (Int32.not_le.mp c_59)]; done))
          refine lv_icmp_le (tgt := 47) hx hb dX4_blow_32 (by decide) (fun c_32 => ?_) (fun c_32 => ?_)
          · ---- to 47
            refine lv_iconst (v := 0) hx hb dX4_blow_47 (by decide) ?_
            exact J_48_1 _ (by unfold psm; first | (rw [if_neg (Int32.not_lt.mpr c_32)]; done) | (rw [if_pos (Int32.not_le.mp c_32)]; done))
          · ---- on
            refine lv_iload_n hx hb dX4_blow_35 rfl (lv_at hl 3 rfl) ?_
            refine lv_aload_n hx hb dX4_blow_36 rfl (lv_at hl 1 rfl) ?_
            refine va_get (D := (dC, dI)) (ci := 4) (v := .ref m2) (C := RX4) (T := TX4) (N := 16) hx hb hts hin_X4 hown hK hP 0 rfl rfl 4 (by decide) hw_4 (fun _ h9 => h9) rfl dX4_blow_37 ?_
            refine lv_iload hx hb dX4_blow_40 (lv_at hl 0 rfl) ?_
            refine ra_iald hx hb hK hP 2 rfl j rfl (by omega) (Nat.le_of_ble_eq_true rfl) dX4_blow_42 ?_
            refine ra_top (fg j) (f3_r0 _ _ _ (by omega)) ?_
            refine lv_isub hx hb dX4_blow_43 ?_
            refine lv_goto (tgt := 48) hx hb dX4_blow_44 (by decide) ?_
            exact J_48_1 _ (by unfold psm; first | (rw [if_neg (Int32.not_lt.mpr c_32)]; done) | (rw [if_pos (Int32.not_le.mp c_32)]; done))
  exact L_10 _ n fh ff fk 0 (Nat.le_refl _) rfl (Nat.lt_succ_self _) H locs hP hD hS ls (lv_sub hl [2, 3, 4, 1, 0] rfl)

set_option maxHeartbeats 4000000 in
set_option maxRecDepth 100000 in
theorem c_X4_flood0 (l : Launch) (dC : Nat → ClassId) (dI : Nat → Nat → Nat) (cyI cyA : ClassId) (m0 m1 m2 m3 m4 m5 m6 m7 m8 m9 m10 m11 m12 m13 n : Nat) (kn fz : Int32) (fh fg ff fk uh ug uf uk th tg tf tk : FN) (vs vb vd us ub ud ts tb td : Int32) (ct : Nat → Nat) (kd vl : Nat → FN) (fr fp bp : FN) (w : Int32) (hn : n ≤ 7) (sz : Nat) : Met l yX4_flood wsX4_flood (rm 0) (kW dC dI cyI cyA [.ref m0, .int 0, .int w] sz [ob m0 4 [.int (nI n), .int kn, .int fz, .ref m1, .ref m2, .ref m3, .ref m4, .ref m5, .ref m6, .ref m7, .ref m8, .ref m9, .ref m10, .ref m11, .ref m12, .ref m13], ai m1 cyI 21 (f3 fh uh th), ai m2 cyI 21 (f3 fg ug tg), ai m3 cyI 21 (f3 ff uf tf), ai m4 cyI 21 (f3 fk uk tk), ai m5 cyI 3 (t3 vs us ts), ai m6 cyI 3 (t3 vb ub tb), ai m7 cyI 3 (t3 vd ud td), ai m8 cyI 3 (nF ct), ai m9 cyI 36 (q12 kd), ai m10 cyI 36 (q12 vl), ai m11 cyI 7 fr, ai m12 cyI 3 fp, ai m13 cyI 3 bp]) (qI dC dI cyI cyA (fun (r : Int32) (_ : Unit) => r = (srg w n 0 fh fg ff vs vd).1) (va_A [ob m0 4 [.int (nI n), .int kn, .int fz, .ref m1, .ref m2, .ref m3, .ref m4, .ref m5, .ref m6, .ref m7, .ref m8, .ref m9, .ref m10, .ref m11, .ref m12, .ref m13], ai m1 cyI 21 (f3 fh uh th), ai m2 cyI 21 (f3 fg ug tg), ai m3 cyI 21 (f3 ff uf tf), ai m4 cyI 21 (f3 fk uk tk), ai m5 cyI 3 (t3 vs us ts), ai m6 cyI 3 (t3 vb ub tb), ai m7 cyI 3 (t3 vd ud td), ai m8 cyI 3 (nF ct), ai m9 cyI 36 (q12 kd), ai m10 cyI 36 (q12 vl), ai m11 cyI 7 fr, ai m12 cyI 3 fp, ai m13 cyI 3 bp] sz) (fun _ => [ob m0 4 [.int (nI n), .int kn, .int fz, .ref m1, .ref m2, .ref m3, .ref m4, .ref m5, .ref m6, .ref m7, .ref m8, .ref m9, .ref m10, .ref m11, .ref m12, .ref m13], ai m1 cyI 21 (f3 ((srg w n 0 fh fg ff vs vd).2.1) uh th), ai m2 cyI 21 (f3 ((srg w n 0 fh fg ff vs vd).2.2.1) ug tg), ai m3 cyI 21 (f3 ((srg w n 0 fh fg ff vs vd).2.2.2.1) uf tf), ai m4 cyI 21 (f3 fk uk tk), ai m5 cyI 3 (t3 ((srg w n 0 fh fg ff vs vd).2.2.2.2.1) us ts), ai m6 cyI 3 (t3 vb ub tb), ai m7 cyI 3 (t3 ((srg w n 0 fh fg ff vs vd).2.2.2.2.2) ud td), ai m8 cyI 3 (nF ct), ai m9 cyI 36 (q12 kd), ai m10 cyI 36 (q12 vl), ai m11 cyI 7 fr, ai m12 cyI 3 fp, ai m13 cyI 3 bp])) 0 0 (va_A [ob m0 4 [.int (nI n), .int kn, .int fz, .ref m1, .ref m2, .ref m3, .ref m4, .ref m5, .ref m6, .ref m7, .ref m8, .ref m9, .ref m10, .ref m11, .ref m12, .ref m13], ai m1 cyI 21 (f3 fh uh th), ai m2 cyI 21 (f3 fg ug tg), ai m3 cyI 21 (f3 ff uf tf), ai m4 cyI 21 (f3 fk uk tk), ai m5 cyI 3 (t3 vs us ts), ai m6 cyI 3 (t3 vb ub tb), ai m7 cyI 3 (t3 vd ud td), ai m8 cyI 3 (nF ct), ai m9 cyI 36 (q12 kd), ai m10 cyI 36 (q12 vl), ai m11 cyI 7 fr, ai m12 cyI 3 fp, ai m13 cyI 3 bp] sz) := by
  refine ra_metW (cc := cX4_flood) (maxL := 6) (Qc := fun A => qI dC dI cyI cyA (fun (r : Int32) (_ : Unit) => r = (srg w n 0 fh fg ff vs vd).1) A (fun _ => [ob m0 4 [.int (nI n), .int kn, .int fz, .ref m1, .ref m2, .ref m3, .ref m4, .ref m5, .ref m6, .ref m7, .ref m8, .ref m9, .ref m10, .ref m11, .ref m12, .ref m13], ai m1 cyI 21 (f3 ((srg w n 0 fh fg ff vs vd).2.1) uh th), ai m2 cyI 21 (f3 ((srg w n 0 fh fg ff vs vd).2.2.1) ug tg), ai m3 cyI 21 (f3 ((srg w n 0 fh fg ff vs vd).2.2.2.1) uf tf), ai m4 cyI 21 (f3 fk uk tk), ai m5 cyI 3 (t3 ((srg w n 0 fh fg ff vs vd).2.2.2.2.1) us ts), ai m6 cyI 3 (t3 vb ub tb), ai m7 cyI 3 (t3 ((srg w n 0 fh fg ff vs vd).2.2.2.2.2) ud td), ai m8 cyI 3 (nF ct), ai m9 cyI 36 (q12 kd), ai m10 cyI 36 (q12 vl), ai m11 cyI 7 fr, ai m12 cyI 3 fp, ai m13 cyI 3 bp])) (by decide) rfl (Nat.le_of_ble_eq_true rfl) ?_
  intro p e s m below meth c A args Q hQ hx hb hr hlocks hml hts hown hnm hK hN hP hD hA hS ls hl
  have hl : lv_has ls 6 [(0, .ref m0), (1, .int 0), (2, .int w)] := hl
  have hown : s.vm.findClass RX4 = some m.cls := hown
  have hw_1 := hts (.fieldLink RX4 7 "DuneBenchModel" "n" "I") (by decide +kernel)
  have hin_X4 : ∀ w ∈ u_ws RX4 TX4 16, w ∈ wsX4_flood := by decide +kernel
  have hw_3 := hts (.fieldLink RX4 35 "DuneBenchModel" "flooded" "[I") (by decide +kernel)
  have hw_4 := hts (.fieldLink RX4 16 "DuneBenchModel" "height" "[I") (by decide +kernel)
  have hw_5 := hts (.fieldLink RX4 29 "DuneBenchModel" "sea" "[I") (by decide +kernel)
  have hw_6 := hts (.fieldLink RX4 20 "DuneBenchModel" "grass" "[I") (by decide +kernel)
  have hw_7 := hts (.fieldLink RX4 23 "DuneBenchModel" "fence" "[I") (by decide +kernel)
  obtain ⟨H, hHe⟩ : ∃ H, H = s.heap := ⟨_, rfl⟩
  obtain ⟨locs, hLe⟩ : ∃ locs : List Loc, locs = [] := ⟨_, rfl⟩
  have hP : va_P (dC, dI) vwCl [ob m0 4 [.int (nI n), .int kn, .int fz, .ref m1, .ref m2, .ref m3, .ref m4, .ref m5, .ref m6, .ref m7, .ref m8, .ref m9, .ref m10, .ref m11, .ref m12, .ref m13], ai m1 cyI 21 (f3 fh uh th), ai m2 cyI 21 (f3 fg ug tg), ai m3 cyI 21 (f3 ff uf tf), ai m4 cyI 21 (f3 fk uk tk), ai m5 cyI 3 (t3 vs us ts), ai m6 cyI 3 (t3 vb ub tb), ai m7 cyI 3 (t3 vd ud td), ai m8 cyI 3 (nF ct), ai m9 cyI 36 (q12 kd), ai m10 cyI 36 (q12 vl), ai m11 cyI 7 fr, ai m12 cyI 3 fp, ai m13 cyI 3 bp] H := by rw [hHe]; exact hP
  have hS : va_S A s.heap H locs := by rw [hHe, hLe]; exact hS
  suffices hgo : W p l e (rm 0) s m args below meth c H locs 0 0 Q (F0 m 0 ls []) by rw [hHe, hLe] at hgo; exact hgo
  refine lv_iconst (v := 0) hx hb dX4_flood_0 (by decide) ?_
  refine lv_istore_n (lv' := [(3, .int 0), (0, .ref m0), (1, .int 0), (2, .int w)]) hx hb dX4_flood_1 rfl hl (by decide) rfl (fun ls hl => ?_)
  have L_2 : ∀ (n9 : Nat) (i : Nat) (xh0 : FN) (xg0 : FN) (xf0 : FN) (xs0 : Int32), (i ≤ n) → (srg w (n - i) i xh0 xg0 xf0 xs0 vd = srg w n 0 fh fg ff vs vd) → (n - i) < n9 → ∀ (H : Heap) (locs : List Loc), va_P (dC, dI) vwCl [ob m0 4 [.int (nI n), .int kn, .int fz, .ref m1, .ref m2, .ref m3, .ref m4, .ref m5, .ref m6, .ref m7, .ref m8, .ref m9, .ref m10, .ref m11, .ref m12, .ref m13], ai m1 cyI 21 (f3 xh0 uh th), ai m2 cyI 21 (f3 xg0 ug tg), ai m3 cyI 21 (f3 xf0 uf tf), ai m4 cyI 21 (f3 fk uk tk), ai m5 cyI 3 (t3 xs0 us ts), ai m6 cyI 3 (t3 vb ub tb), ai m7 cyI 3 (t3 vd ud td), ai m8 cyI 3 (nF ct), ai m9 cyI 36 (q12 kd), ai m10 cyI 36 (q12 vl), ai m11 cyI 7 fr, ai m12 cyI 3 fp, ai m13 cyI 3 bp] H → va_D A [ob m0 4 [.int (nI n), .int kn, .int fz, .ref m1, .ref m2, .ref m3, .ref m4, .ref m5, .ref m6, .ref m7, .ref m8, .ref m9, .ref m10, .ref m11, .ref m12, .ref m13], ai m1 cyI 21 (f3 xh0 uh th), ai m2 cyI 21 (f3 xg0 ug tg), ai m3 cyI 21 (f3 xf0 uf tf), ai m4 cyI 21 (f3 fk uk tk), ai m5 cyI 3 (t3 xs0 us ts), ai m6 cyI 3 (t3 vb ub tb), ai m7 cyI 3 (t3 vd ud td), ai m8 cyI 3 (nF ct), ai m9 cyI 36 (q12 kd), ai m10 cyI 36 (q12 vl), ai m11 cyI 7 fr, ai m12 cyI 3 fp, ai m13 cyI 3 bp] → va_S A s.heap H locs → ∀ ls : Array Slot, lv_has ls 6 [(0, .ref m0), (1, .int 0), (2, .int w), (3, .int (nI i))] → W p l e (rm 0) s m args below meth c H locs 0 0 Q (F0 m 2 ls []) := by
    intro n9
    induction n9 with
    | zero =>
      intro i xh0 xg0 xf0 xs0 hi he hm9
      exact absurd hm9 (Nat.not_lt_zero _)
    | succ n9 ih_2 =>
      intro i xh0 xg0 xf0 xs0 hi he hm9 H locs hP hD hS ls hl
      refine lv_iload_n hx hb dX4_flood_2 rfl (lv_at hl 3 rfl) ?_
      refine lv_aload_n hx hb dX4_flood_3 rfl (lv_at hl 0 rfl) ?_
      refine va_get (D := (dC, dI)) (ci := 4) (v := .int (nI n)) (C := RX4) (T := TX4) (N := 16) hx hb hts hin_X4 hown hK hP 0 rfl rfl 0 (by decide) hw_1 (fun _ h9 => h9) rfl dX4_flood_4 ?_
      refine lv_icmp_ge (tgt := 89) hx hb dX4_flood_7 (by decide) (fun c_7 => ?_) (fun c_7 => ?_)
      · ---- to 89
        have n_7 := (nq_le n i (by omega) (by omega)).mp c_7
        have he : (nI i, xh0, xg0, xf0, xs0, vd + 1) = srg w n 0 fh fg ff vs vd := by rw [← he, show n - i = 0 by omega]; rfl
        refine lv_iload_n hx hb dX4_flood_89 rfl (lv_at hl 3 rfl) ?_
        refine lv_aload_n hx hb dX4_flood_90 rfl (lv_at hl 0 rfl) ?_
        refine va_get (D := (dC, dI)) (ci := 4) (v := .int (nI n)) (C := RX4) (T := TX4) (N := 16) hx hb hts hin_X4 hown hK hP 0 rfl rfl 0 (by decide) hw_1 (fun _ h9 => h9) rfl dX4_flood_91 ?_
        refine lv_icmp_ne (tgt := 110) hx hb dX4_flood_94 (by decide) (fun c_94 => ?_) (fun c_94 => ?_)
        · ---- to 110
          have n_94 := (nq_eq_n i n (by omega) (by omega)).mp c_94
          exfalso; omega
        · ---- on
          have n_94 := (nq_eq i n (by omega) (by omega)).mp c_94
          refine lv_aload_n hx hb dX4_flood_97 rfl (lv_at hl 0 rfl) ?_
          refine va_get (D := (dC, dI)) (ci := 4) (v := .ref m7) (C := RX4) (T := TX4) (N := 16) hx hb hts hin_X4 hown hK hP 0 rfl rfl 9 (by decide) hw_3 (fun _ h9 => h9) rfl dX4_flood_98 ?_
          refine lv_iload_n hx hb dX4_flood_101 rfl (lv_at hl 1 rfl) ?_
          refine lv_dup2_11 hx hb dX4_flood_102 rfl rfl ?_
          refine ra_iald hx hb hK hP 7 rfl 0 rfl (by omega) (Nat.le_of_ble_eq_true rfl) dX4_flood_103 ?_
          refine ra_top vd rfl ?_
          refine lv_iconst (v := 1) hx hb dX4_flood_104 (by decide) ?_
          refine lv_iadd hx hb dX4_flood_105 ?_
          refine ra_iast hx hb hK hP hD hS 7 rfl 0 rfl (by omega) (Nat.le_of_ble_eq_true rfl) dX4_flood_106 (fun H locs hP hD hS => ?_)
          rw [t3_w0] at hP hD
          have hP : va_P (dC, dI) vwCl [ob m0 4 [.int (nI n), .int kn, .int fz, .ref m1, .ref m2, .ref m3, .ref m4, .ref m5, .ref m6, .ref m7, .ref m8, .ref m9, .ref m10, .ref m11, .ref m12, .ref m13], ai m1 cyI 21 (f3 xh0 uh th), ai m2 cyI 21 (f3 xg0 ug tg), ai m3 cyI 21 (f3 xf0 uf tf), ai m4 cyI 21 (f3 fk uk tk), ai m5 cyI 3 (t3 xs0 us ts), ai m6 cyI 3 (t3 vb ub tb), ai m7 cyI 3 (t3 (vd + 1) ud td), ai m8 cyI 3 (nF ct), ai m9 cyI 36 (q12 kd), ai m10 cyI 36 (q12 vl), ai m11 cyI 7 fr, ai m12 cyI 3 fp, ai m13 cyI 3 bp] H := hP
          have hD : va_D A [ob m0 4 [.int (nI n), .int kn, .int fz, .ref m1, .ref m2, .ref m3, .ref m4, .ref m5, .ref m6, .ref m7, .ref m8, .ref m9, .ref m10, .ref m11, .ref m12, .ref m13], ai m1 cyI 21 (f3 xh0 uh th), ai m2 cyI 21 (f3 xg0 ug tg), ai m3 cyI 21 (f3 xf0 uf tf), ai m4 cyI 21 (f3 fk uk tk), ai m5 cyI 3 (t3 xs0 us ts), ai m6 cyI 3 (t3 vb ub tb), ai m7 cyI 3 (t3 (vd + 1) ud td), ai m8 cyI 3 (nF ct), ai m9 cyI 36 (q12 kd), ai m10 cyI 36 (q12 vl), ai m11 cyI 7 fr, ai m12 cyI 3 fp, ai m13 cyI 3 bp] := hD
          refine lv_goto (tgt := 139) hx hb dX4_flood_107 (by decide) ?_
          refine lv_iload_n hx hb dX4_flood_139 rfl (lv_at hl 3 rfl) ?_
          rw [hQ]
          rw [← he]
          exact ra_iretW () hx hb hr hlocks rfl hK hP hD hS rfl dX4_flood_140
      · ---- on
        have n_7 := (nq_le_n n i (by omega) (by omega)).mp c_7
        refine lv_aload_n hx hb dX4_flood_10 rfl (lv_at hl 0 rfl) ?_
        refine va_get (D := (dC, dI)) (ci := 4) (v := .ref m1) (C := RX4) (T := TX4) (N := 16) hx hb hts hin_X4 hown hK hP 0 rfl rfl 3 (by decide) hw_4 (fun _ h9 => h9) rfl dX4_flood_11 ?_
        refine lv_bipush (v := 7) hx hb dX4_flood_14 (by decide) ?_
        refine lv_iload_n hx hb dX4_flood_16 rfl (lv_at hl 1 rfl) ?_
        refine lv_imul hx hb dX4_flood_17 ?_
        refine ra_top (0) (by decide) ?_
        refine lv_iload_n hx hb dX4_flood_18 rfl (lv_at hl 3 rfl) ?_
        refine lv_iadd hx hb dX4_flood_19 ?_
        refine ra_top (nI i) (Int32.zero_add _) ?_
        refine ra_iald hx hb hK hP 1 rfl i rfl (by omega) (Nat.le_of_ble_eq_true rfl) dX4_flood_20 ?_
        refine ra_top (xh0 i) (f3_r0 _ _ _ (by omega)) ?_
        refine lv_iload_n hx hb dX4_flood_21 rfl (lv_at hl 2 rfl) ?_
        refine lv_icmp_ge (tgt := 89) hx hb dX4_flood_22 (by decide) (fun c_22 => ?_) (fun c_22 => ?_)
        · ---- to 89
          have he : (nI i, upd xh0 i (xh0 i - w / 4), xg0, xf0, xs0 + w / 4, vd) = srg w n 0 fh fg ff vs vd := by rw [← he, show n - i = n - (i + 1) + 1 by omega]; exact (if_neg (Int32.not_lt.mpr c_22)).symm
          refine lv_iload_n hx hb dX4_flood_89 rfl (lv_at hl 3 rfl) ?_
          refine lv_aload_n hx hb dX4_flood_90 rfl (lv_at hl 0 rfl) ?_
          refine va_get (D := (dC, dI)) (ci := 4) (v := .int (nI n)) (C := RX4) (T := TX4) (N := 16) hx hb hts hin_X4 hown hK hP 0 rfl rfl 0 (by decide) hw_1 (fun _ h9 => h9) rfl dX4_flood_91 ?_
          refine lv_icmp_ne (tgt := 110) hx hb dX4_flood_94 (by decide) (fun c_94 => ?_) (fun c_94 => ?_)
          · ---- to 110
            have n_94 := (nq_eq_n i n (by omega) (by omega)).mp c_94
            refine lv_aload_n hx hb dX4_flood_110 rfl (lv_at hl 0 rfl) ?_
            refine va_get (D := (dC, dI)) (ci := 4) (v := .ref m1) (C := RX4) (T := TX4) (N := 16) hx hb hts hin_X4 hown hK hP 0 rfl rfl 3 (by decide) hw_4 (fun _ h9 => h9) rfl dX4_flood_111 ?_
            refine lv_bipush (v := 7) hx hb dX4_flood_114 (by decide) ?_
            refine lv_iload_n hx hb dX4_flood_116 rfl (lv_at hl 1 rfl) ?_
            refine lv_imul hx hb dX4_flood_117 ?_
            refine ra_top (0) (by decide) ?_
            refine lv_iload_n hx hb dX4_flood_118 rfl (lv_at hl 3 rfl) ?_
            refine lv_iadd hx hb dX4_flood_119 ?_
            refine ra_top (nI i) (Int32.zero_add _) ?_
            refine lv_dup2_11 hx hb dX4_flood_120 rfl rfl ?_
            refine ra_iald hx hb hK hP 1 rfl i rfl (by omega) (Nat.le_of_ble_eq_true rfl) dX4_flood_121 ?_
            refine ra_top (xh0 i) (f3_r0 _ _ _ (by omega)) ?_
            refine lv_iload_n hx hb dX4_flood_122 rfl (lv_at hl 2 rfl) ?_
            refine lv_iconst (v := 4) hx hb dX4_flood_123 (by decide) ?_
            refine lv_idiv hx hb dX4_flood_124 (by decide) ?_
            refine lv_isub hx hb dX4_flood_125 ?_
            refine ra_iast hx hb hK hP hD hS 1 rfl i rfl (by omega) (Nat.le_of_ble_eq_true rfl) dX4_flood_126 (fun H locs hP hD hS => ?_)
            rw [f3_w0 _ _ _ _ (by omega)] at hP hD
            have hP : va_P (dC, dI) vwCl [ob m0 4 [.int (nI n), .int kn, .int fz, .ref m1, .ref m2, .ref m3, .ref m4, .ref m5, .ref m6, .ref m7, .ref m8, .ref m9, .ref m10, .ref m11, .ref m12, .ref m13], ai m1 cyI 21 (f3 (upd xh0 i ((xh0 i) - (w / 4))) uh th), ai m2 cyI 21 (f3 xg0 ug tg), ai m3 cyI 21 (f3 xf0 uf tf), ai m4 cyI 21 (f3 fk uk tk), ai m5 cyI 3 (t3 xs0 us ts), ai m6 cyI 3 (t3 vb ub tb), ai m7 cyI 3 (t3 vd ud td), ai m8 cyI 3 (nF ct), ai m9 cyI 36 (q12 kd), ai m10 cyI 36 (q12 vl), ai m11 cyI 7 fr, ai m12 cyI 3 fp, ai m13 cyI 3 bp] H := hP
            have hD : va_D A [ob m0 4 [.int (nI n), .int kn, .int fz, .ref m1, .ref m2, .ref m3, .ref m4, .ref m5, .ref m6, .ref m7, .ref m8, .ref m9, .ref m10, .ref m11, .ref m12, .ref m13], ai m1 cyI 21 (f3 (upd xh0 i ((xh0 i) - (w / 4))) uh th), ai m2 cyI 21 (f3 xg0 ug tg), ai m3 cyI 21 (f3 xf0 uf tf), ai m4 cyI 21 (f3 fk uk tk), ai m5 cyI 3 (t3 xs0 us ts), ai m6 cyI 3 (t3 vb ub tb), ai m7 cyI 3 (t3 vd ud td), ai m8 cyI 3 (nF ct), ai m9 cyI 36 (q12 kd), ai m10 cyI 36 (q12 vl), ai m11 cyI 7 fr, ai m12 cyI 3 fp, ai m13 cyI 3 bp] := hD
            refine lv_aload_n hx hb dX4_flood_127 rfl (lv_at hl 0 rfl) ?_
            refine va_get (D := (dC, dI)) (ci := 4) (v := .ref m5) (C := RX4) (T := TX4) (N := 16) hx hb hts hin_X4 hown hK hP 0 rfl rfl 7 (by decide) hw_5 (fun _ h9 => h9) rfl dX4_flood_128 ?_
            refine lv_iload_n hx hb dX4_flood_131 rfl (lv_at hl 1 rfl) ?_
            refine lv_dup2_11 hx hb dX4_flood_132 rfl rfl ?_
            refine ra_iald hx hb hK hP 5 rfl 0 rfl (by omega) (Nat.le_of_ble_eq_true rfl) dX4_flood_133 ?_
            refine ra_top xs0 rfl ?_
            refine lv_iload_n hx hb dX4_flood_134 rfl (lv_at hl 2 rfl) ?_
            refine lv_iconst (v := 4) hx hb dX4_flood_135 (by decide) ?_
            refine lv_idiv hx hb dX4_flood_136 (by decide) ?_
            refine lv_iadd hx hb dX4_flood_137 ?_
            refine ra_iast hx hb hK hP hD hS 5 rfl 0 rfl (by omega) (Nat.le_of_ble_eq_true rfl) dX4_flood_138 (fun H locs hP hD hS => ?_)
            rw [t3_w0] at hP hD
            have hP : va_P (dC, dI) vwCl [ob m0 4 [.int (nI n), .int kn, .int fz, .ref m1, .ref m2, .ref m3, .ref m4, .ref m5, .ref m6, .ref m7, .ref m8, .ref m9, .ref m10, .ref m11, .ref m12, .ref m13], ai m1 cyI 21 (f3 (upd xh0 i ((xh0 i) - (w / 4))) uh th), ai m2 cyI 21 (f3 xg0 ug tg), ai m3 cyI 21 (f3 xf0 uf tf), ai m4 cyI 21 (f3 fk uk tk), ai m5 cyI 3 (t3 (xs0 + (w / 4)) us ts), ai m6 cyI 3 (t3 vb ub tb), ai m7 cyI 3 (t3 vd ud td), ai m8 cyI 3 (nF ct), ai m9 cyI 36 (q12 kd), ai m10 cyI 36 (q12 vl), ai m11 cyI 7 fr, ai m12 cyI 3 fp, ai m13 cyI 3 bp] H := hP
            have hD : va_D A [ob m0 4 [.int (nI n), .int kn, .int fz, .ref m1, .ref m2, .ref m3, .ref m4, .ref m5, .ref m6, .ref m7, .ref m8, .ref m9, .ref m10, .ref m11, .ref m12, .ref m13], ai m1 cyI 21 (f3 (upd xh0 i ((xh0 i) - (w / 4))) uh th), ai m2 cyI 21 (f3 xg0 ug tg), ai m3 cyI 21 (f3 xf0 uf tf), ai m4 cyI 21 (f3 fk uk tk), ai m5 cyI 3 (t3 (xs0 + (w / 4)) us ts), ai m6 cyI 3 (t3 vb ub tb), ai m7 cyI 3 (t3 vd ud td), ai m8 cyI 3 (nF ct), ai m9 cyI 36 (q12 kd), ai m10 cyI 36 (q12 vl), ai m11 cyI 7 fr, ai m12 cyI 3 fp, ai m13 cyI 3 bp] := hD
            refine lv_iload_n hx hb dX4_flood_139 rfl (lv_at hl 3 rfl) ?_
            rw [hQ]
            rw [← he]
            exact ra_iretW () hx hb hr hlocks rfl hK hP hD hS rfl dX4_flood_140
          · ---- on
            have n_94 := (nq_eq i n (by omega) (by omega)).mp c_94
            exfalso; omega
        · ---- on
          refine lv_bipush (v := 7) hx hb dX4_flood_25 (by decide) ?_
          refine lv_iload_n hx hb dX4_flood_27 rfl (lv_at hl 1 rfl) ?_
          refine lv_imul hx hb dX4_flood_28 ?_
          refine ra_top (0) (by decide) ?_
          refine lv_iload_n hx hb dX4_flood_29 rfl (lv_at hl 3 rfl) ?_
          refine lv_iadd hx hb dX4_flood_30 ?_
          refine ra_top (nI i) (Int32.zero_add _) ?_
          refine lv_istore (lv' := [(4, .int (nI i)), (0, .ref m0), (1, .int 0), (2, .int w), (3, .int (nI i))]) hx hb dX4_flood_31 hl (by decide) rfl (fun ls hl => ?_)
          refine lv_aload_n hx hb dX4_flood_33 rfl (lv_at hl 1 rfl) ?_
          refine va_get (D := (dC, dI)) (ci := 4) (v := .ref m1) (C := RX4) (T := TX4) (N := 16) hx hb hts hin_X4 hown hK hP 0 rfl rfl 3 (by decide) hw_4 (fun _ h9 => h9) rfl dX4_flood_34 ?_
          refine lv_iload hx hb dX4_flood_37 (lv_at hl 0 rfl) ?_
          refine ra_iald hx hb hK hP 1 rfl i rfl (by omega) (Nat.le_of_ble_eq_true rfl) dX4_flood_39 ?_
          refine ra_top (xh0 i) (f3_r0 _ _ _ (by omega)) ?_
          refine lv_iconst (v := 2) hx hb dX4_flood_40 (by decide) ?_
          refine lv_idiv hx hb dX4_flood_41 (by decide) ?_
          refine lv_istore (lv' := [(5, .int ((xh0 i) / 2)), (4, .int (nI i)), (0, .ref m0), (1, .int 0), (2, .int w), (3, .int (nI i))]) hx hb dX4_flood_42 hl (by decide) rfl (fun ls hl => ?_)
          refine lv_aload_n hx hb dX4_flood_44 rfl (lv_at hl 2 rfl) ?_
          refine va_get (D := (dC, dI)) (ci := 4) (v := .ref m1) (C := RX4) (T := TX4) (N := 16) hx hb hts hin_X4 hown hK hP 0 rfl rfl 3 (by decide) hw_4 (fun _ h9 => h9) rfl dX4_flood_45 ?_
          refine lv_iload hx hb dX4_flood_48 (lv_at hl 1 rfl) ?_
          refine lv_dup2_11 hx hb dX4_flood_50 rfl rfl ?_
          refine ra_iald hx hb hK hP 1 rfl i rfl (by omega) (Nat.le_of_ble_eq_true rfl) dX4_flood_51 ?_
          refine ra_top (xh0 i) (f3_r0 _ _ _ (by omega)) ?_
          refine lv_iload hx hb dX4_flood_52 (lv_at hl 0 rfl) ?_
          refine lv_isub hx hb dX4_flood_54 ?_
          refine ra_iast hx hb hK hP hD hS 1 rfl i rfl (by omega) (Nat.le_of_ble_eq_true rfl) dX4_flood_55 (fun H locs hP hD hS => ?_)
          rw [f3_w0 _ _ _ _ (by omega)] at hP hD
          have hP : va_P (dC, dI) vwCl [ob m0 4 [.int (nI n), .int kn, .int fz, .ref m1, .ref m2, .ref m3, .ref m4, .ref m5, .ref m6, .ref m7, .ref m8, .ref m9, .ref m10, .ref m11, .ref m12, .ref m13], ai m1 cyI 21 (f3 (upd xh0 i ((xh0 i) - ((xh0 i) / 2))) uh th), ai m2 cyI 21 (f3 xg0 ug tg), ai m3 cyI 21 (f3 xf0 uf tf), ai m4 cyI 21 (f3 fk uk tk), ai m5 cyI 3 (t3 xs0 us ts), ai m6 cyI 3 (t3 vb ub tb), ai m7 cyI 3 (t3 vd ud td), ai m8 cyI 3 (nF ct), ai m9 cyI 36 (q12 kd), ai m10 cyI 36 (q12 vl), ai m11 cyI 7 fr, ai m12 cyI 3 fp, ai m13 cyI 3 bp] H := hP
          have hD : va_D A [ob m0 4 [.int (nI n), .int kn, .int fz, .ref m1, .ref m2, .ref m3, .ref m4, .ref m5, .ref m6, .ref m7, .ref m8, .ref m9, .ref m10, .ref m11, .ref m12, .ref m13], ai m1 cyI 21 (f3 (upd xh0 i ((xh0 i) - ((xh0 i) / 2))) uh th), ai m2 cyI 21 (f3 xg0 ug tg), ai m3 cyI 21 (f3 xf0 uf tf), ai m4 cyI 21 (f3 fk uk tk), ai m5 cyI 3 (t3 xs0 us ts), ai m6 cyI 3 (t3 vb ub tb), ai m7 cyI 3 (t3 vd ud td), ai m8 cyI 3 (nF ct), ai m9 cyI 36 (q12 kd), ai m10 cyI 36 (q12 vl), ai m11 cyI 7 fr, ai m12 cyI 3 fp, ai m13 cyI 3 bp] := hD
          refine lv_aload_n hx hb dX4_flood_56 rfl (lv_at hl 2 rfl) ?_
          refine va_get (D := (dC, dI)) (ci := 4) (v := .ref m5) (C := RX4) (T := TX4) (N := 16) hx hb hts hin_X4 hown hK hP 0 rfl rfl 7 (by decide) hw_5 (fun _ h9 => h9) rfl dX4_flood_57 ?_
          refine lv_iload_n hx hb dX4_flood_60 rfl (lv_at hl 3 rfl) ?_
          refine lv_dup2_11 hx hb dX4_flood_61 rfl rfl ?_
          refine ra_iald hx hb hK hP 5 rfl 0 rfl (by omega) (Nat.le_of_ble_eq_true rfl) dX4_flood_62 ?_
          refine ra_top xs0 rfl ?_
          refine lv_iload hx hb dX4_flood_63 (lv_at hl 0 rfl) ?_
          refine lv_iadd hx hb dX4_flood_65 ?_
          refine ra_iast hx hb hK hP hD hS 5 rfl 0 rfl (by omega) (Nat.le_of_ble_eq_true rfl) dX4_flood_66 (fun H locs hP hD hS => ?_)
          rw [t3_w0] at hP hD
          have hP : va_P (dC, dI) vwCl [ob m0 4 [.int (nI n), .int kn, .int fz, .ref m1, .ref m2, .ref m3, .ref m4, .ref m5, .ref m6, .ref m7, .ref m8, .ref m9, .ref m10, .ref m11, .ref m12, .ref m13], ai m1 cyI 21 (f3 (upd xh0 i ((xh0 i) - ((xh0 i) / 2))) uh th), ai m2 cyI 21 (f3 xg0 ug tg), ai m3 cyI 21 (f3 xf0 uf tf), ai m4 cyI 21 (f3 fk uk tk), ai m5 cyI 3 (t3 (xs0 + ((xh0 i) / 2)) us ts), ai m6 cyI 3 (t3 vb ub tb), ai m7 cyI 3 (t3 vd ud td), ai m8 cyI 3 (nF ct), ai m9 cyI 36 (q12 kd), ai m10 cyI 36 (q12 vl), ai m11 cyI 7 fr, ai m12 cyI 3 fp, ai m13 cyI 3 bp] H := hP
          have hD : va_D A [ob m0 4 [.int (nI n), .int kn, .int fz, .ref m1, .ref m2, .ref m3, .ref m4, .ref m5, .ref m6, .ref m7, .ref m8, .ref m9, .ref m10, .ref m11, .ref m12, .ref m13], ai m1 cyI 21 (f3 (upd xh0 i ((xh0 i) - ((xh0 i) / 2))) uh th), ai m2 cyI 21 (f3 xg0 ug tg), ai m3 cyI 21 (f3 xf0 uf tf), ai m4 cyI 21 (f3 fk uk tk), ai m5 cyI 3 (t3 (xs0 + ((xh0 i) / 2)) us ts), ai m6 cyI 3 (t3 vb ub tb), ai m7 cyI 3 (t3 vd ud td), ai m8 cyI 3 (nF ct), ai m9 cyI 36 (q12 kd), ai m10 cyI 36 (q12 vl), ai m11 cyI 7 fr, ai m12 cyI 3 fp, ai m13 cyI 3 bp] := hD
          refine lv_aload_n hx hb dX4_flood_67 rfl (lv_at hl 2 rfl) ?_
          refine va_get (D := (dC, dI)) (ci := 4) (v := .ref m2) (C := RX4) (T := TX4) (N := 16) hx hb hts hin_X4 hown hK hP 0 rfl rfl 4 (by decide) hw_6 (fun _ h9 => h9) rfl dX4_flood_68 ?_
          refine lv_iload hx hb dX4_flood_71 (lv_at hl 1 rfl) ?_
          refine lv_iconst (v := 0) hx hb dX4_flood_73 (by decide) ?_
          refine ra_iast hx hb hK hP hD hS 2 rfl i rfl (by omega) (Nat.le_of_ble_eq_true rfl) dX4_flood_74 (fun H locs hP hD hS => ?_)
          rw [f3_w0 _ _ _ _ (by omega)] at hP hD
          have hP : va_P (dC, dI) vwCl [ob m0 4 [.int (nI n), .int kn, .int fz, .ref m1, .ref m2, .ref m3, .ref m4, .ref m5, .ref m6, .ref m7, .ref m8, .ref m9, .ref m10, .ref m11, .ref m12, .ref m13], ai m1 cyI 21 (f3 (upd xh0 i ((xh0 i) - ((xh0 i) / 2))) uh th), ai m2 cyI 21 (f3 (upd xg0 i 0) ug tg), ai m3 cyI 21 (f3 xf0 uf tf), ai m4 cyI 21 (f3 fk uk tk), ai m5 cyI 3 (t3 (xs0 + ((xh0 i) / 2)) us ts), ai m6 cyI 3 (t3 vb ub tb), ai m7 cyI 3 (t3 vd ud td), ai m8 cyI 3 (nF ct), ai m9 cyI 36 (q12 kd), ai m10 cyI 36 (q12 vl), ai m11 cyI 7 fr, ai m12 cyI 3 fp, ai m13 cyI 3 bp] H := hP
          have hD : va_D A [ob m0 4 [.int (nI n), .int kn, .int fz, .ref m1, .ref m2, .ref m3, .ref m4, .ref m5, .ref m6, .ref m7, .ref m8, .ref m9, .ref m10, .ref m11, .ref m12, .ref m13], ai m1 cyI 21 (f3 (upd xh0 i ((xh0 i) - ((xh0 i) / 2))) uh th), ai m2 cyI 21 (f3 (upd xg0 i 0) ug tg), ai m3 cyI 21 (f3 xf0 uf tf), ai m4 cyI 21 (f3 fk uk tk), ai m5 cyI 3 (t3 (xs0 + ((xh0 i) / 2)) us ts), ai m6 cyI 3 (t3 vb ub tb), ai m7 cyI 3 (t3 vd ud td), ai m8 cyI 3 (nF ct), ai m9 cyI 36 (q12 kd), ai m10 cyI 36 (q12 vl), ai m11 cyI 7 fr, ai m12 cyI 3 fp, ai m13 cyI 3 bp] := hD
          refine lv_aload_n hx hb dX4_flood_75 rfl (lv_at hl 2 rfl) ?_
          refine va_get (D := (dC, dI)) (ci := 4) (v := .ref m3) (C := RX4) (T := TX4) (N := 16) hx hb hts hin_X4 hown hK hP 0 rfl rfl 5 (by decide) hw_7 (fun _ h9 => h9) rfl dX4_flood_76 ?_
          refine lv_iload hx hb dX4_flood_79 (lv_at hl 1 rfl) ?_
          refine lv_iconst (v := 0) hx hb dX4_flood_81 (by decide) ?_
          refine ra_iast hx hb hK hP hD hS 3 rfl i rfl (by omega) (Nat.le_of_ble_eq_true rfl) dX4_flood_82 (fun H locs hP hD hS => ?_)
          rw [f3_w0 _ _ _ _ (by omega)] at hP hD
          have hP : va_P (dC, dI) vwCl [ob m0 4 [.int (nI n), .int kn, .int fz, .ref m1, .ref m2, .ref m3, .ref m4, .ref m5, .ref m6, .ref m7, .ref m8, .ref m9, .ref m10, .ref m11, .ref m12, .ref m13], ai m1 cyI 21 (f3 (upd xh0 i ((xh0 i) - ((xh0 i) / 2))) uh th), ai m2 cyI 21 (f3 (upd xg0 i 0) ug tg), ai m3 cyI 21 (f3 (upd xf0 i 0) uf tf), ai m4 cyI 21 (f3 fk uk tk), ai m5 cyI 3 (t3 (xs0 + ((xh0 i) / 2)) us ts), ai m6 cyI 3 (t3 vb ub tb), ai m7 cyI 3 (t3 vd ud td), ai m8 cyI 3 (nF ct), ai m9 cyI 36 (q12 kd), ai m10 cyI 36 (q12 vl), ai m11 cyI 7 fr, ai m12 cyI 3 fp, ai m13 cyI 3 bp] H := hP
          have hD : va_D A [ob m0 4 [.int (nI n), .int kn, .int fz, .ref m1, .ref m2, .ref m3, .ref m4, .ref m5, .ref m6, .ref m7, .ref m8, .ref m9, .ref m10, .ref m11, .ref m12, .ref m13], ai m1 cyI 21 (f3 (upd xh0 i ((xh0 i) - ((xh0 i) / 2))) uh th), ai m2 cyI 21 (f3 (upd xg0 i 0) ug tg), ai m3 cyI 21 (f3 (upd xf0 i 0) uf tf), ai m4 cyI 21 (f3 fk uk tk), ai m5 cyI 3 (t3 (xs0 + ((xh0 i) / 2)) us ts), ai m6 cyI 3 (t3 vb ub tb), ai m7 cyI 3 (t3 vd ud td), ai m8 cyI 3 (nF ct), ai m9 cyI 36 (q12 kd), ai m10 cyI 36 (q12 vl), ai m11 cyI 7 fr, ai m12 cyI 3 fp, ai m13 cyI 3 bp] := hD
          refine lv_iinc (v := nI (i + 1)) (lv' := [(3, .int (nI (i + 1))), (5, .int ((xh0 i) / 2)), (4, .int (nI i)), (0, .ref m0), (1, .int 0), (2, .int w)]) hx hb dX4_flood_83 hl (k := 5) rfl (ra_inc1 _) (by decide) rfl (fun ls hl => ?_)
          refine lv_goto (tgt := 2) hx hb dX4_flood_86 (by decide) ?_
          exact ih_2 (i + 1) (upd xh0 i ((xh0 i) - ((xh0 i) / 2))) (upd xg0 i 0) (upd xf0 i 0) (xs0 + ((xh0 i) / 2)) (by omega) (by rw [← he, show n - i = n - (i + 1) + 1 by omega]; exact (if_pos (Int32.not_le.mp c_22)).symm) (by omega) H locs hP hD hS ls (lv_sub hl [3, 4, 5, 0] rfl)
  exact L_2 _ 0 fh fg ff vs (by omega) rfl (Nat.lt_succ_self _) H locs hP hD hS ls (lv_sub hl [1, 2, 3, 0] rfl)

set_option maxHeartbeats 4000000 in
set_option maxRecDepth 100000 in
theorem c_X4_endYear0 (l : Launch) (dC : Nat → ClassId) (dI : Nat → Nat → Nat) (cyI cyA : ClassId) (m0 m1 m2 m3 m4 m5 m6 m7 m8 m9 m10 m11 m12 m13 n : Nat) (kn fz : Int32) (fh fg ff fk uh ug uf uk th tg tf tk : FN) (vs vb vd us ub ud ts tb td : Int32) (ct : Nat → Nat) (kd vl : Nat → FN) (fr fp bp : FN) (hn : n ≤ 7) (sz : Nat) : Met l yX4_endYear wsX4_endYear (rm 1) (kW dC dI cyI cyA [.ref m0, .int 0] sz [ob m0 4 [.int (nI n), .int kn, .int fz, .ref m1, .ref m2, .ref m3, .ref m4, .ref m5, .ref m6, .ref m7, .ref m8, .ref m9, .ref m10, .ref m11, .ref m12, .ref m13], ai m1 cyI 21 (f3 fh uh th), ai m2 cyI 21 (f3 fg ug tg), ai m3 cyI 21 (f3 ff uf tf), ai m4 cyI 21 (f3 fk uk tk), ai m5 cyI 3 (t3 vs us ts), ai m6 cyI 3 (t3 vb ub tb), ai m7 cyI 3 (t3 vd ud td), ai m8 cyI 3 (nF ct), ai m9 cyI 36 (q12 kd), ai m10 cyI 36 (q12 vl), ai m11 cyI 7 fr, ai m12 cyI 3 fp, ai m13 cyI 3 bp]) (qI dC dI cyI cyA (fun (r : Int32) (_ : Unit) => r = (yE num n 0 fg fk 0).1) (va_A [ob m0 4 [.int (nI n), .int kn, .int fz, .ref m1, .ref m2, .ref m3, .ref m4, .ref m5, .ref m6, .ref m7, .ref m8, .ref m9, .ref m10, .ref m11, .ref m12, .ref m13], ai m1 cyI 21 (f3 fh uh th), ai m2 cyI 21 (f3 fg ug tg), ai m3 cyI 21 (f3 ff uf tf), ai m4 cyI 21 (f3 fk uk tk), ai m5 cyI 3 (t3 vs us ts), ai m6 cyI 3 (t3 vb ub tb), ai m7 cyI 3 (t3 vd ud td), ai m8 cyI 3 (nF ct), ai m9 cyI 36 (q12 kd), ai m10 cyI 36 (q12 vl), ai m11 cyI 7 fr, ai m12 cyI 3 fp, ai m13 cyI 3 bp] sz) (fun _ => [ob m0 4 [.int (nI n), .int kn, .int fz, .ref m1, .ref m2, .ref m3, .ref m4, .ref m5, .ref m6, .ref m7, .ref m8, .ref m9, .ref m10, .ref m11, .ref m12, .ref m13], ai m1 cyI 21 (f3 fh uh th), ai m2 cyI 21 (f3 ((yE num n 0 fg fk 0).2.1) ug tg), ai m3 cyI 21 (f3 ff uf tf), ai m4 cyI 21 (f3 ((yE num n 0 fg fk 0).2.2) uk tk), ai m5 cyI 3 (t3 vs us ts), ai m6 cyI 3 (t3 vb ub tb), ai m7 cyI 3 (t3 vd ud td), ai m8 cyI 3 (nF ct), ai m9 cyI 36 (q12 kd), ai m10 cyI 36 (q12 vl), ai m11 cyI 7 fr, ai m12 cyI 3 fp, ai m13 cyI 3 bp])) 0 0 (va_A [ob m0 4 [.int (nI n), .int kn, .int fz, .ref m1, .ref m2, .ref m3, .ref m4, .ref m5, .ref m6, .ref m7, .ref m8, .ref m9, .ref m10, .ref m11, .ref m12, .ref m13], ai m1 cyI 21 (f3 fh uh th), ai m2 cyI 21 (f3 fg ug tg), ai m3 cyI 21 (f3 ff uf tf), ai m4 cyI 21 (f3 fk uk tk), ai m5 cyI 3 (t3 vs us ts), ai m6 cyI 3 (t3 vb ub tb), ai m7 cyI 3 (t3 vd ud td), ai m8 cyI 3 (nF ct), ai m9 cyI 36 (q12 kd), ai m10 cyI 36 (q12 vl), ai m11 cyI 7 fr, ai m12 cyI 3 fp, ai m13 cyI 3 bp] sz) := by
  refine ra_metW (cc := cX4_endYear) (maxL := 5) (Qc := fun A => qI dC dI cyI cyA (fun (r : Int32) (_ : Unit) => r = (yE num n 0 fg fk 0).1) A (fun _ => [ob m0 4 [.int (nI n), .int kn, .int fz, .ref m1, .ref m2, .ref m3, .ref m4, .ref m5, .ref m6, .ref m7, .ref m8, .ref m9, .ref m10, .ref m11, .ref m12, .ref m13], ai m1 cyI 21 (f3 fh uh th), ai m2 cyI 21 (f3 ((yE num n 0 fg fk 0).2.1) ug tg), ai m3 cyI 21 (f3 ff uf tf), ai m4 cyI 21 (f3 ((yE num n 0 fg fk 0).2.2) uk tk), ai m5 cyI 3 (t3 vs us ts), ai m6 cyI 3 (t3 vb ub tb), ai m7 cyI 3 (t3 vd ud td), ai m8 cyI 3 (nF ct), ai m9 cyI 36 (q12 kd), ai m10 cyI 36 (q12 vl), ai m11 cyI 7 fr, ai m12 cyI 3 fp, ai m13 cyI 3 bp])) (by decide) rfl (Nat.le_of_ble_eq_true rfl) ?_
  intro p e s m below meth c A args Q hQ hx hb hr hlocks hml hts hown hnm hK hN hP hD hA hS ls hl
  have hl : lv_has ls 5 [(0, .ref m0), (1, .int 0)] := hl
  have hown : s.vm.findClass RX4 = some m.cls := hown
  have hw_1 := hts (.fieldLink RX4 7 "DuneBenchModel" "n" "I") (by decide +kernel)
  have hin_X4 : ∀ w ∈ u_ws RX4 TX4 16, w ∈ wsX4_endYear := by decide +kernel
  have hw_3 := hts (.fieldLink RX4 20 "DuneBenchModel" "grass" "[I") (by decide +kernel)
  have hw_4 := hts (.fieldLink RX4 26 "DuneBenchModel" "gained" "[I") (by decide +kernel)
  obtain ⟨H, hHe⟩ : ∃ H, H = s.heap := ⟨_, rfl⟩
  obtain ⟨locs, hLe⟩ : ∃ locs : List Loc, locs = [] := ⟨_, rfl⟩
  have hP : va_P (dC, dI) vwCl [ob m0 4 [.int (nI n), .int kn, .int fz, .ref m1, .ref m2, .ref m3, .ref m4, .ref m5, .ref m6, .ref m7, .ref m8, .ref m9, .ref m10, .ref m11, .ref m12, .ref m13], ai m1 cyI 21 (f3 fh uh th), ai m2 cyI 21 (f3 fg ug tg), ai m3 cyI 21 (f3 ff uf tf), ai m4 cyI 21 (f3 fk uk tk), ai m5 cyI 3 (t3 vs us ts), ai m6 cyI 3 (t3 vb ub tb), ai m7 cyI 3 (t3 vd ud td), ai m8 cyI 3 (nF ct), ai m9 cyI 36 (q12 kd), ai m10 cyI 36 (q12 vl), ai m11 cyI 7 fr, ai m12 cyI 3 fp, ai m13 cyI 3 bp] H := by rw [hHe]; exact hP
  have hS : va_S A s.heap H locs := by rw [hHe, hLe]; exact hS
  suffices hgo : W p l e (rm 1) s m args below meth c H locs 0 0 Q (F0 m 0 ls []) by rw [hHe, hLe] at hgo; exact hgo
  refine lv_iconst (v := 0) hx hb dX4_endYear_0 (by decide) ?_
  refine lv_istore_n (lv' := [(2, .int 0), (0, .ref m0), (1, .int 0)]) hx hb dX4_endYear_1 rfl hl (by decide) rfl (fun ls hl => ?_)
  refine lv_bipush (v := 7) hx hb dX4_endYear_2 (by decide) ?_
  refine lv_iload_n hx hb dX4_endYear_4 rfl (lv_at hl 2 rfl) ?_
  refine lv_imul hx hb dX4_endYear_5 ?_
  refine ra_top (0) (by decide) ?_
  refine lv_istore_n (lv' := [(3, .int 0), (2, .int 0), (0, .ref m0), (1, .int 0)]) hx hb dX4_endYear_6 rfl hl (by decide) rfl (fun ls hl => ?_)
  have L_7 : ∀ (n9 : Nat) (i : Nat) (xg0 : FN) (xk0 : FN) (x : Int32), (i ≤ n) → (yE num (n - i) i xg0 xk0 x = yE num n 0 fg fk 0) → (n - i) < n9 → ∀ (H : Heap) (locs : List Loc), va_P (dC, dI) vwCl [ob m0 4 [.int (nI n), .int kn, .int fz, .ref m1, .ref m2, .ref m3, .ref m4, .ref m5, .ref m6, .ref m7, .ref m8, .ref m9, .ref m10, .ref m11, .ref m12, .ref m13], ai m1 cyI 21 (f3 fh uh th), ai m2 cyI 21 (f3 xg0 ug tg), ai m3 cyI 21 (f3 ff uf tf), ai m4 cyI 21 (f3 xk0 uk tk), ai m5 cyI 3 (t3 vs us ts), ai m6 cyI 3 (t3 vb ub tb), ai m7 cyI 3 (t3 vd ud td), ai m8 cyI 3 (nF ct), ai m9 cyI 36 (q12 kd), ai m10 cyI 36 (q12 vl), ai m11 cyI 7 fr, ai m12 cyI 3 fp, ai m13 cyI 3 bp] H → va_D A [ob m0 4 [.int (nI n), .int kn, .int fz, .ref m1, .ref m2, .ref m3, .ref m4, .ref m5, .ref m6, .ref m7, .ref m8, .ref m9, .ref m10, .ref m11, .ref m12, .ref m13], ai m1 cyI 21 (f3 fh uh th), ai m2 cyI 21 (f3 xg0 ug tg), ai m3 cyI 21 (f3 ff uf tf), ai m4 cyI 21 (f3 xk0 uk tk), ai m5 cyI 3 (t3 vs us ts), ai m6 cyI 3 (t3 vb ub tb), ai m7 cyI 3 (t3 vd ud td), ai m8 cyI 3 (nF ct), ai m9 cyI 36 (q12 kd), ai m10 cyI 36 (q12 vl), ai m11 cyI 7 fr, ai m12 cyI 3 fp, ai m13 cyI 3 bp] → va_S A s.heap H locs → ∀ ls : Array Slot, lv_has ls 5 [(0, .ref m0), (1, .int 0), (2, .int x), (3, .int (nI i))] → W p l e (rm 1) s m args below meth c H locs 0 0 Q (F0 m 7 ls []) := by
    intro n9
    induction n9 with
    | zero =>
      intro i xg0 xk0 x hi he hm9
      exact absurd hm9 (Nat.not_lt_zero _)
    | succ n9 ih_7 =>
      intro i xg0 xk0 x hi he hm9 H locs hP hD hS ls hl
      refine lv_iload_n hx hb dX4_endYear_7 rfl (lv_at hl 3 rfl) ?_
      refine lv_bipush (v := 7) hx hb dX4_endYear_8 (by decide) ?_
      refine lv_iload_n hx hb dX4_endYear_10 rfl (lv_at hl 1 rfl) ?_
      refine lv_imul hx hb dX4_endYear_11 ?_
      refine ra_top (0) (by decide) ?_
      refine lv_aload_n hx hb dX4_endYear_12 rfl (lv_at hl 0 rfl) ?_
      refine va_get (D := (dC, dI)) (ci := 4) (v := .int (nI n)) (C := RX4) (T := TX4) (N := 16) hx hb hts hin_X4 hown hK hP 0 rfl rfl 0 (by decide) hw_1 (fun _ h9 => h9) rfl dX4_endYear_13 ?_
      refine lv_iadd hx hb dX4_endYear_16 ?_
      refine ra_top (nI n) (Int32.zero_add _) ?_
      refine lv_icmp_ge (tgt := 115) hx hb dX4_endYear_17 (by decide) (fun c_17 => ?_) (fun c_17 => ?_)
      · ---- to 115
        have n_17 := (nq_le n i (by omega) (by omega)).mp c_17
        have he : (x, xg0, xk0) = yE num n 0 fg fk 0 := by rw [← he, show n - i = 0 by omega]; rfl
        refine lv_iload_n hx hb dX4_endYear_115 rfl (lv_at hl 2 rfl) ?_
        rw [hQ]
        rw [← he]
        exact ra_iretW () hx hb hr hlocks rfl hK hP hD hS rfl dX4_endYear_116
      · ---- on
        have n_17 := (nq_le_n n i (by omega) (by omega)).mp c_17
        refine lv_aload_n hx hb dX4_endYear_20 rfl (lv_at hl 0 rfl) ?_
        refine va_get (D := (dC, dI)) (ci := 4) (v := .ref m2) (C := RX4) (T := TX4) (N := 16) hx hb hts hin_X4 hown hK hP 0 rfl rfl 4 (by decide) hw_3 (fun _ h9 => h9) rfl dX4_endYear_21 ?_
        refine lv_iload_n hx hb dX4_endYear_24 rfl (lv_at hl 3 rfl) ?_
        refine ra_iald hx hb hK hP 2 rfl i rfl (by omega) (Nat.le_of_ble_eq_true rfl) dX4_endYear_25 ?_
        refine ra_top (xg0 i) (f3_r0 _ _ _ (by omega)) ?_
        refine lv_istore (lv' := [(4, .int (xg0 i)), (0, .ref m0), (1, .int 0), (2, .int x), (3, .int (nI i))]) hx hb dX4_endYear_26 hl (by decide) rfl (fun ls hl => ?_)
        refine lv_iload hx hb dX4_endYear_28 (lv_at hl 0 rfl) ?_
        refine lv_if_le (tgt := 65) hx hb dX4_endYear_30 (by decide) (fun c_30 => ?_) (fun c_30 => ?_)
        · ---- to 65
          refine lv_aload_n hx hb dX4_endYear_65 rfl (lv_at hl 1 rfl) ?_
          refine va_get (D := (dC, dI)) (ci := 4) (v := .ref m4) (C := RX4) (T := TX4) (N := 16) hx hb hts hin_X4 hown hK hP 0 rfl rfl 6 (by decide) hw_4 (fun _ h9 => h9) rfl dX4_endYear_66 ?_
          refine lv_iload_n hx hb dX4_endYear_69 rfl (lv_at hl 4 rfl) ?_
          refine ra_iald hx hb hK hP 4 rfl i rfl (by omega) (Nat.le_of_ble_eq_true rfl) dX4_endYear_70 ?_
          refine ra_top (xk0 i) (f3_r0 _ _ _ (by omega)) ?_
          refine lv_bipush (v := 30) hx hb dX4_endYear_71 (by decide) ?_
          refine lv_icmp_le (tgt := 83) hx hb dX4_endYear_73 (by decide) (fun c_73 => ?_) (fun c_73 => ?_)
          · ---- to 83
            have hnu : num (xg0 i) (xk0 i) = xg0 i := ((if_neg (Int32.not_lt.mpr c_73)).trans (if_neg (fun q => absurd q.1 (Int32.not_lt.mpr c_30))))
            have hP : va_P (dC, dI) vwCl [ob m0 4 [.int (nI n), .int kn, .int fz, .ref m1, .ref m2, .ref m3, .ref m4, .ref m5, .ref m6, .ref m7, .ref m8, .ref m9, .ref m10, .ref m11, .ref m12, .ref m13], ai m1 cyI 21 (f3 fh uh th), ai m2 cyI 21 (f3 (upd xg0 i (num (xg0 i) (xk0 i))) ug tg), ai m3 cyI 21 (f3 ff uf tf), ai m4 cyI 21 (f3 xk0 uk tk), ai m5 cyI 3 (t3 vs us ts), ai m6 cyI 3 (t3 vb ub tb), ai m7 cyI 3 (t3 vd ud td), ai m8 cyI 3 (nF ct), ai m9 cyI 36 (q12 kd), ai m10 cyI 36 (q12 vl), ai m11 cyI 7 fr, ai m12 cyI 3 fp, ai m13 cyI 3 bp] H := by rw [hnu, upd_self]; exact hP
            have hD : va_D A [ob m0 4 [.int (nI n), .int kn, .int fz, .ref m1, .ref m2, .ref m3, .ref m4, .ref m5, .ref m6, .ref m7, .ref m8, .ref m9, .ref m10, .ref m11, .ref m12, .ref m13], ai m1 cyI 21 (f3 fh uh th), ai m2 cyI 21 (f3 (upd xg0 i (num (xg0 i) (xk0 i))) ug tg), ai m3 cyI 21 (f3 ff uf tf), ai m4 cyI 21 (f3 xk0 uk tk), ai m5 cyI 3 (t3 vs us ts), ai m6 cyI 3 (t3 vb ub tb), ai m7 cyI 3 (t3 vd ud td), ai m8 cyI 3 (nF ct), ai m9 cyI 36 (q12 kd), ai m10 cyI 36 (q12 vl), ai m11 cyI 7 fr, ai m12 cyI 3 fp, ai m13 cyI 3 bp] := by rw [hnu, upd_self]; exact hD
            refine lv_iload_n hx hb dX4_endYear_83 rfl (lv_at hl 3 rfl) ?_
            refine lv_aload_n hx hb dX4_endYear_84 rfl (lv_at hl 1 rfl) ?_
            refine va_get (D := (dC, dI)) (ci := 4) (v := .ref m2) (C := RX4) (T := TX4) (N := 16) hx hb hts hin_X4 hown hK hP 0 rfl rfl 4 (by decide) hw_3 (fun _ h9 => h9) rfl dX4_endYear_85 ?_
            refine lv_iload_n hx hb dX4_endYear_88 rfl (lv_at hl 4 rfl) ?_
            refine ra_iald hx hb hK hP 2 rfl i rfl (by omega) (Nat.le_of_ble_eq_true rfl) dX4_endYear_89 ?_
            refine ra_top (num (xg0 i) (xk0 i)) (by first | exact (f3_r2 _ _ _ _).trans pk_us | exact (f3_r0 _ _ _ (by omega)).trans pk_us) ?_
            refine lv_iload hx hb dX4_endYear_90 (lv_at hl 0 rfl) ?_
            refine lv_icmp_eq (tgt := 99) hx hb dX4_endYear_92 (by decide) (fun c_92 => ?_) (fun c_92 => ?_)
            · ---- to 99
              refine lv_iconst (v := 0) hx hb dX4_endYear_99 (by decide) ?_
              refine lv_iadd hx hb dX4_endYear_100 ?_
              refine lv_istore_n (lv' := [(2, .int (x + 0)), (4, .int (xg0 i)), (0, .ref m0), (1, .int 0), (3, .int (nI i))]) hx hb dX4_endYear_101 rfl hl (by decide) rfl (fun ls hl => ?_)
              refine lv_aload_n hx hb dX4_endYear_102 rfl (lv_at hl 2 rfl) ?_
              refine va_get (D := (dC, dI)) (ci := 4) (v := .ref m4) (C := RX4) (T := TX4) (N := 16) hx hb hts hin_X4 hown hK hP 0 rfl rfl 6 (by decide) hw_4 (fun _ h9 => h9) rfl dX4_endYear_103 ?_
              refine lv_iload_n hx hb dX4_endYear_106 rfl (lv_at hl 4 rfl) ?_
              refine lv_iconst (v := 0) hx hb dX4_endYear_107 (by decide) ?_
              refine ra_iast hx hb hK hP hD hS 4 rfl i rfl (by omega) (Nat.le_of_ble_eq_true rfl) dX4_endYear_108 (fun H locs hP hD hS => ?_)
              rw [f3_w0 _ _ _ _ (by omega)] at hP hD
              have hP : va_P (dC, dI) vwCl [ob m0 4 [.int (nI n), .int kn, .int fz, .ref m1, .ref m2, .ref m3, .ref m4, .ref m5, .ref m6, .ref m7, .ref m8, .ref m9, .ref m10, .ref m11, .ref m12, .ref m13], ai m1 cyI 21 (f3 fh uh th), ai m2 cyI 21 (f3 (upd xg0 i (num (xg0 i) (xk0 i))) ug tg), ai m3 cyI 21 (f3 ff uf tf), ai m4 cyI 21 (f3 (upd xk0 i 0) uk tk), ai m5 cyI 3 (t3 vs us ts), ai m6 cyI 3 (t3 vb ub tb), ai m7 cyI 3 (t3 vd ud td), ai m8 cyI 3 (nF ct), ai m9 cyI 36 (q12 kd), ai m10 cyI 36 (q12 vl), ai m11 cyI 7 fr, ai m12 cyI 3 fp, ai m13 cyI 3 bp] H := hP
              have hD : va_D A [ob m0 4 [.int (nI n), .int kn, .int fz, .ref m1, .ref m2, .ref m3, .ref m4, .ref m5, .ref m6, .ref m7, .ref m8, .ref m9, .ref m10, .ref m11, .ref m12, .ref m13], ai m1 cyI 21 (f3 fh uh th), ai m2 cyI 21 (f3 (upd xg0 i (num (xg0 i) (xk0 i))) ug tg), ai m3 cyI 21 (f3 ff uf tf), ai m4 cyI 21 (f3 (upd xk0 i 0) uk tk), ai m5 cyI 3 (t3 vs us ts), ai m6 cyI 3 (t3 vb ub tb), ai m7 cyI 3 (t3 vd ud td), ai m8 cyI 3 (nF ct), ai m9 cyI 36 (q12 kd), ai m10 cyI 36 (q12 vl), ai m11 cyI 7 fr, ai m12 cyI 3 fp, ai m13 cyI 3 bp] := hD
              refine lv_iinc (v := nI (i + 1)) (lv' := [(3, .int (nI (i + 1))), (2, .int (x + 0)), (4, .int (xg0 i)), (0, .ref m0), (1, .int 0)]) hx hb dX4_endYear_109 hl (k := 4) rfl (ra_inc1 _) (by decide) rfl (fun ls hl => ?_)
              refine lv_goto (tgt := 7) hx hb dX4_endYear_112 (by decide) ?_
              exact ih_7 (i + 1) (upd xg0 i (num (xg0 i) (xk0 i))) (upd xk0 i 0) (x + 0) (by omega) (by rw [← he, show n - i = n - (i + 1) + 1 by omega]; show _ = yE num _ _ _ _ (if _ then _ else _); first | (rw [if_pos c_92, Int32.add_zero]; done) | (rw [if_neg c_92]; done)) (by omega) H locs hP hD hS ls (lv_sub hl [3, 4, 1, 0] rfl)
            · ---- on
              refine lv_iconst (v := 1) hx hb dX4_endYear_95 (by decide) ?_
              refine lv_goto (tgt := 100) hx hb dX4_endYear_96 (by decide) ?_
              refine lv_iadd hx hb dX4_endYear_100 ?_
              refine lv_istore_n (lv' := [(2, .int (x + 1)), (4, .int (xg0 i)), (0, .ref m0), (1, .int 0), (3, .int (nI i))]) hx hb dX4_endYear_101 rfl hl (by decide) rfl (fun ls hl => ?_)
              refine lv_aload_n hx hb dX4_endYear_102 rfl (lv_at hl 2 rfl) ?_
              refine va_get (D := (dC, dI)) (ci := 4) (v := .ref m4) (C := RX4) (T := TX4) (N := 16) hx hb hts hin_X4 hown hK hP 0 rfl rfl 6 (by decide) hw_4 (fun _ h9 => h9) rfl dX4_endYear_103 ?_
              refine lv_iload_n hx hb dX4_endYear_106 rfl (lv_at hl 4 rfl) ?_
              refine lv_iconst (v := 0) hx hb dX4_endYear_107 (by decide) ?_
              refine ra_iast hx hb hK hP hD hS 4 rfl i rfl (by omega) (Nat.le_of_ble_eq_true rfl) dX4_endYear_108 (fun H locs hP hD hS => ?_)
              rw [f3_w0 _ _ _ _ (by omega)] at hP hD
              have hP : va_P (dC, dI) vwCl [ob m0 4 [.int (nI n), .int kn, .int fz, .ref m1, .ref m2, .ref m3, .ref m4, .ref m5, .ref m6, .ref m7, .ref m8, .ref m9, .ref m10, .ref m11, .ref m12, .ref m13], ai m1 cyI 21 (f3 fh uh th), ai m2 cyI 21 (f3 (upd xg0 i (num (xg0 i) (xk0 i))) ug tg), ai m3 cyI 21 (f3 ff uf tf), ai m4 cyI 21 (f3 (upd xk0 i 0) uk tk), ai m5 cyI 3 (t3 vs us ts), ai m6 cyI 3 (t3 vb ub tb), ai m7 cyI 3 (t3 vd ud td), ai m8 cyI 3 (nF ct), ai m9 cyI 36 (q12 kd), ai m10 cyI 36 (q12 vl), ai m11 cyI 7 fr, ai m12 cyI 3 fp, ai m13 cyI 3 bp] H := hP
              have hD : va_D A [ob m0 4 [.int (nI n), .int kn, .int fz, .ref m1, .ref m2, .ref m3, .ref m4, .ref m5, .ref m6, .ref m7, .ref m8, .ref m9, .ref m10, .ref m11, .ref m12, .ref m13], ai m1 cyI 21 (f3 fh uh th), ai m2 cyI 21 (f3 (upd xg0 i (num (xg0 i) (xk0 i))) ug tg), ai m3 cyI 21 (f3 ff uf tf), ai m4 cyI 21 (f3 (upd xk0 i 0) uk tk), ai m5 cyI 3 (t3 vs us ts), ai m6 cyI 3 (t3 vb ub tb), ai m7 cyI 3 (t3 vd ud td), ai m8 cyI 3 (nF ct), ai m9 cyI 36 (q12 kd), ai m10 cyI 36 (q12 vl), ai m11 cyI 7 fr, ai m12 cyI 3 fp, ai m13 cyI 3 bp] := hD
              refine lv_iinc (v := nI (i + 1)) (lv' := [(3, .int (nI (i + 1))), (2, .int (x + 1)), (4, .int (xg0 i)), (0, .ref m0), (1, .int 0)]) hx hb dX4_endYear_109 hl (k := 4) rfl (ra_inc1 _) (by decide) rfl (fun ls hl => ?_)
              refine lv_goto (tgt := 7) hx hb dX4_endYear_112 (by decide) ?_
              exact ih_7 (i + 1) (upd xg0 i (num (xg0 i) (xk0 i))) (upd xk0 i 0) (x + 1) (by omega) (by rw [← he, show n - i = n - (i + 1) + 1 by omega]; show _ = yE num _ _ _ _ (if _ then _ else _); first | (rw [if_pos c_92, Int32.add_zero]; done) | (rw [if_neg c_92]; done)) (by omega) H locs hP hD hS ls (lv_sub hl [3, 4, 1, 0] rfl)
          · ---- on
            refine lv_aload_n hx hb dX4_endYear_76 rfl (lv_at hl 1 rfl) ?_
            refine va_get (D := (dC, dI)) (ci := 4) (v := .ref m2) (C := RX4) (T := TX4) (N := 16) hx hb hts hin_X4 hown hK hP 0 rfl rfl 4 (by decide) hw_3 (fun _ h9 => h9) rfl dX4_endYear_77 ?_
            refine lv_iload_n hx hb dX4_endYear_80 rfl (lv_at hl 4 rfl) ?_
            refine lv_iconst (v := 0) hx hb dX4_endYear_81 (by decide) ?_
            refine ra_iast hx hb hK hP hD hS 2 rfl i rfl (by omega) (Nat.le_of_ble_eq_true rfl) dX4_endYear_82 (fun H locs hP hD hS => ?_)
            rw [f3_w0 _ _ _ _ (by omega)] at hP hD
            have hP : va_P (dC, dI) vwCl [ob m0 4 [.int (nI n), .int kn, .int fz, .ref m1, .ref m2, .ref m3, .ref m4, .ref m5, .ref m6, .ref m7, .ref m8, .ref m9, .ref m10, .ref m11, .ref m12, .ref m13], ai m1 cyI 21 (f3 fh uh th), ai m2 cyI 21 (f3 (upd xg0 i 0) ug tg), ai m3 cyI 21 (f3 ff uf tf), ai m4 cyI 21 (f3 xk0 uk tk), ai m5 cyI 3 (t3 vs us ts), ai m6 cyI 3 (t3 vb ub tb), ai m7 cyI 3 (t3 vd ud td), ai m8 cyI 3 (nF ct), ai m9 cyI 36 (q12 kd), ai m10 cyI 36 (q12 vl), ai m11 cyI 7 fr, ai m12 cyI 3 fp, ai m13 cyI 3 bp] H := hP
            have hD : va_D A [ob m0 4 [.int (nI n), .int kn, .int fz, .ref m1, .ref m2, .ref m3, .ref m4, .ref m5, .ref m6, .ref m7, .ref m8, .ref m9, .ref m10, .ref m11, .ref m12, .ref m13], ai m1 cyI 21 (f3 fh uh th), ai m2 cyI 21 (f3 (upd xg0 i 0) ug tg), ai m3 cyI 21 (f3 ff uf tf), ai m4 cyI 21 (f3 xk0 uk tk), ai m5 cyI 3 (t3 vs us ts), ai m6 cyI 3 (t3 vb ub tb), ai m7 cyI 3 (t3 vd ud td), ai m8 cyI 3 (nF ct), ai m9 cyI 36 (q12 kd), ai m10 cyI 36 (q12 vl), ai m11 cyI 7 fr, ai m12 cyI 3 fp, ai m13 cyI 3 bp] := hD
            have hnu : num (xg0 i) (xk0 i) = 0 := (if_pos (Int32.not_le.mp c_73))
            have hP : va_P (dC, dI) vwCl [ob m0 4 [.int (nI n), .int kn, .int fz, .ref m1, .ref m2, .ref m3, .ref m4, .ref m5, .ref m6, .ref m7, .ref m8, .ref m9, .ref m10, .ref m11, .ref m12, .ref m13], ai m1 cyI 21 (f3 fh uh th), ai m2 cyI 21 (f3 (upd xg0 i (num (xg0 i) (xk0 i))) ug tg), ai m3 cyI 21 (f3 ff uf tf), ai m4 cyI 21 (f3 xk0 uk tk), ai m5 cyI 3 (t3 vs us ts), ai m6 cyI 3 (t3 vb ub tb), ai m7 cyI 3 (t3 vd ud td), ai m8 cyI 3 (nF ct), ai m9 cyI 36 (q12 kd), ai m10 cyI 36 (q12 vl), ai m11 cyI 7 fr, ai m12 cyI 3 fp, ai m13 cyI 3 bp] H := by rw [hnu]; exact hP
            have hD : va_D A [ob m0 4 [.int (nI n), .int kn, .int fz, .ref m1, .ref m2, .ref m3, .ref m4, .ref m5, .ref m6, .ref m7, .ref m8, .ref m9, .ref m10, .ref m11, .ref m12, .ref m13], ai m1 cyI 21 (f3 fh uh th), ai m2 cyI 21 (f3 (upd xg0 i (num (xg0 i) (xk0 i))) ug tg), ai m3 cyI 21 (f3 ff uf tf), ai m4 cyI 21 (f3 xk0 uk tk), ai m5 cyI 3 (t3 vs us ts), ai m6 cyI 3 (t3 vb ub tb), ai m7 cyI 3 (t3 vd ud td), ai m8 cyI 3 (nF ct), ai m9 cyI 36 (q12 kd), ai m10 cyI 36 (q12 vl), ai m11 cyI 7 fr, ai m12 cyI 3 fp, ai m13 cyI 3 bp] := by rw [hnu]; exact hD
            refine lv_iload_n hx hb dX4_endYear_83 rfl (lv_at hl 3 rfl) ?_
            refine lv_aload_n hx hb dX4_endYear_84 rfl (lv_at hl 1 rfl) ?_
            refine va_get (D := (dC, dI)) (ci := 4) (v := .ref m2) (C := RX4) (T := TX4) (N := 16) hx hb hts hin_X4 hown hK hP 0 rfl rfl 4 (by decide) hw_3 (fun _ h9 => h9) rfl dX4_endYear_85 ?_
            refine lv_iload_n hx hb dX4_endYear_88 rfl (lv_at hl 4 rfl) ?_
            refine ra_iald hx hb hK hP 2 rfl i rfl (by omega) (Nat.le_of_ble_eq_true rfl) dX4_endYear_89 ?_
            refine ra_top (num (xg0 i) (xk0 i)) (by first | exact (f3_r2 _ _ _ _).trans pk_us | exact (f3_r0 _ _ _ (by omega)).trans pk_us) ?_
            refine lv_iload hx hb dX4_endYear_90 (lv_at hl 0 rfl) ?_
            refine lv_icmp_eq (tgt := 99) hx hb dX4_endYear_92 (by decide) (fun c_92 => ?_) (fun c_92 => ?_)
            · ---- to 99
              refine lv_iconst (v := 0) hx hb dX4_endYear_99 (by decide) ?_
              refine lv_iadd hx hb dX4_endYear_100 ?_
              refine lv_istore_n (lv' := [(2, .int (x + 0)), (4, .int (xg0 i)), (0, .ref m0), (1, .int 0), (3, .int (nI i))]) hx hb dX4_endYear_101 rfl hl (by decide) rfl (fun ls hl => ?_)
              refine lv_aload_n hx hb dX4_endYear_102 rfl (lv_at hl 2 rfl) ?_
              refine va_get (D := (dC, dI)) (ci := 4) (v := .ref m4) (C := RX4) (T := TX4) (N := 16) hx hb hts hin_X4 hown hK hP 0 rfl rfl 6 (by decide) hw_4 (fun _ h9 => h9) rfl dX4_endYear_103 ?_
              refine lv_iload_n hx hb dX4_endYear_106 rfl (lv_at hl 4 rfl) ?_
              refine lv_iconst (v := 0) hx hb dX4_endYear_107 (by decide) ?_
              refine ra_iast hx hb hK hP hD hS 4 rfl i rfl (by omega) (Nat.le_of_ble_eq_true rfl) dX4_endYear_108 (fun H locs hP hD hS => ?_)
              rw [f3_w0 _ _ _ _ (by omega)] at hP hD
              have hP : va_P (dC, dI) vwCl [ob m0 4 [.int (nI n), .int kn, .int fz, .ref m1, .ref m2, .ref m3, .ref m4, .ref m5, .ref m6, .ref m7, .ref m8, .ref m9, .ref m10, .ref m11, .ref m12, .ref m13], ai m1 cyI 21 (f3 fh uh th), ai m2 cyI 21 (f3 (upd xg0 i (num (xg0 i) (xk0 i))) ug tg), ai m3 cyI 21 (f3 ff uf tf), ai m4 cyI 21 (f3 (upd xk0 i 0) uk tk), ai m5 cyI 3 (t3 vs us ts), ai m6 cyI 3 (t3 vb ub tb), ai m7 cyI 3 (t3 vd ud td), ai m8 cyI 3 (nF ct), ai m9 cyI 36 (q12 kd), ai m10 cyI 36 (q12 vl), ai m11 cyI 7 fr, ai m12 cyI 3 fp, ai m13 cyI 3 bp] H := hP
              have hD : va_D A [ob m0 4 [.int (nI n), .int kn, .int fz, .ref m1, .ref m2, .ref m3, .ref m4, .ref m5, .ref m6, .ref m7, .ref m8, .ref m9, .ref m10, .ref m11, .ref m12, .ref m13], ai m1 cyI 21 (f3 fh uh th), ai m2 cyI 21 (f3 (upd xg0 i (num (xg0 i) (xk0 i))) ug tg), ai m3 cyI 21 (f3 ff uf tf), ai m4 cyI 21 (f3 (upd xk0 i 0) uk tk), ai m5 cyI 3 (t3 vs us ts), ai m6 cyI 3 (t3 vb ub tb), ai m7 cyI 3 (t3 vd ud td), ai m8 cyI 3 (nF ct), ai m9 cyI 36 (q12 kd), ai m10 cyI 36 (q12 vl), ai m11 cyI 7 fr, ai m12 cyI 3 fp, ai m13 cyI 3 bp] := hD
              refine lv_iinc (v := nI (i + 1)) (lv' := [(3, .int (nI (i + 1))), (2, .int (x + 0)), (4, .int (xg0 i)), (0, .ref m0), (1, .int 0)]) hx hb dX4_endYear_109 hl (k := 4) rfl (ra_inc1 _) (by decide) rfl (fun ls hl => ?_)
              refine lv_goto (tgt := 7) hx hb dX4_endYear_112 (by decide) ?_
              exact ih_7 (i + 1) (upd xg0 i (num (xg0 i) (xk0 i))) (upd xk0 i 0) (x + 0) (by omega) (by rw [← he, show n - i = n - (i + 1) + 1 by omega]; show _ = yE num _ _ _ _ (if _ then _ else _); first | (rw [if_pos c_92, Int32.add_zero]; done) | (rw [if_neg c_92]; done)) (by omega) H locs hP hD hS ls (lv_sub hl [3, 4, 1, 0] rfl)
            · ---- on
              refine lv_iconst (v := 1) hx hb dX4_endYear_95 (by decide) ?_
              refine lv_goto (tgt := 100) hx hb dX4_endYear_96 (by decide) ?_
              refine lv_iadd hx hb dX4_endYear_100 ?_
              refine lv_istore_n (lv' := [(2, .int (x + 1)), (4, .int (xg0 i)), (0, .ref m0), (1, .int 0), (3, .int (nI i))]) hx hb dX4_endYear_101 rfl hl (by decide) rfl (fun ls hl => ?_)
              refine lv_aload_n hx hb dX4_endYear_102 rfl (lv_at hl 2 rfl) ?_
              refine va_get (D := (dC, dI)) (ci := 4) (v := .ref m4) (C := RX4) (T := TX4) (N := 16) hx hb hts hin_X4 hown hK hP 0 rfl rfl 6 (by decide) hw_4 (fun _ h9 => h9) rfl dX4_endYear_103 ?_
              refine lv_iload_n hx hb dX4_endYear_106 rfl (lv_at hl 4 rfl) ?_
              refine lv_iconst (v := 0) hx hb dX4_endYear_107 (by decide) ?_
              refine ra_iast hx hb hK hP hD hS 4 rfl i rfl (by omega) (Nat.le_of_ble_eq_true rfl) dX4_endYear_108 (fun H locs hP hD hS => ?_)
              rw [f3_w0 _ _ _ _ (by omega)] at hP hD
              have hP : va_P (dC, dI) vwCl [ob m0 4 [.int (nI n), .int kn, .int fz, .ref m1, .ref m2, .ref m3, .ref m4, .ref m5, .ref m6, .ref m7, .ref m8, .ref m9, .ref m10, .ref m11, .ref m12, .ref m13], ai m1 cyI 21 (f3 fh uh th), ai m2 cyI 21 (f3 (upd xg0 i (num (xg0 i) (xk0 i))) ug tg), ai m3 cyI 21 (f3 ff uf tf), ai m4 cyI 21 (f3 (upd xk0 i 0) uk tk), ai m5 cyI 3 (t3 vs us ts), ai m6 cyI 3 (t3 vb ub tb), ai m7 cyI 3 (t3 vd ud td), ai m8 cyI 3 (nF ct), ai m9 cyI 36 (q12 kd), ai m10 cyI 36 (q12 vl), ai m11 cyI 7 fr, ai m12 cyI 3 fp, ai m13 cyI 3 bp] H := hP
              have hD : va_D A [ob m0 4 [.int (nI n), .int kn, .int fz, .ref m1, .ref m2, .ref m3, .ref m4, .ref m5, .ref m6, .ref m7, .ref m8, .ref m9, .ref m10, .ref m11, .ref m12, .ref m13], ai m1 cyI 21 (f3 fh uh th), ai m2 cyI 21 (f3 (upd xg0 i (num (xg0 i) (xk0 i))) ug tg), ai m3 cyI 21 (f3 ff uf tf), ai m4 cyI 21 (f3 (upd xk0 i 0) uk tk), ai m5 cyI 3 (t3 vs us ts), ai m6 cyI 3 (t3 vb ub tb), ai m7 cyI 3 (t3 vd ud td), ai m8 cyI 3 (nF ct), ai m9 cyI 36 (q12 kd), ai m10 cyI 36 (q12 vl), ai m11 cyI 7 fr, ai m12 cyI 3 fp, ai m13 cyI 3 bp] := hD
              refine lv_iinc (v := nI (i + 1)) (lv' := [(3, .int (nI (i + 1))), (2, .int (x + 1)), (4, .int (xg0 i)), (0, .ref m0), (1, .int 0)]) hx hb dX4_endYear_109 hl (k := 4) rfl (ra_inc1 _) (by decide) rfl (fun ls hl => ?_)
              refine lv_goto (tgt := 7) hx hb dX4_endYear_112 (by decide) ?_
              exact ih_7 (i + 1) (upd xg0 i (num (xg0 i) (xk0 i))) (upd xk0 i 0) (x + 1) (by omega) (by rw [← he, show n - i = n - (i + 1) + 1 by omega]; show _ = yE num _ _ _ _ (if _ then _ else _); first | (rw [if_pos c_92, Int32.add_zero]; done) | (rw [if_neg c_92]; done)) (by omega) H locs hP hD hS ls (lv_sub hl [3, 4, 1, 0] rfl)
        · ---- on
          refine lv_aload_n hx hb dX4_endYear_33 rfl (lv_at hl 1 rfl) ?_
          refine va_get (D := (dC, dI)) (ci := 4) (v := .ref m4) (C := RX4) (T := TX4) (N := 16) hx hb hts hin_X4 hown hK hP 0 rfl rfl 6 (by decide) hw_4 (fun _ h9 => h9) rfl dX4_endYear_34 ?_
          refine lv_iload_n hx hb dX4_endYear_37 rfl (lv_at hl 4 rfl) ?_
          refine ra_iald hx hb hK hP 4 rfl i rfl (by omega) (Nat.le_of_ble_eq_true rfl) dX4_endYear_38 ?_
          refine ra_top (xk0 i) (f3_r0 _ _ _ (by omega)) ?_
          refine lv_iconst (v := 1) hx hb dX4_endYear_39 (by decide) ?_
          refine lv_bipush (v := 9) hx hb dX4_endYear_40 (by decide) ?_
          refine ra_cS (As := [.int (xk0 i), .int 1, .int 9]) (rest := []) ⟨hx, hb, hml, hown, hts⟩ (c_X4_in l (xk0 i) 1 9 ) (va_cwS 3 hts gX4_endYear_X4_in rfl rfl rfl (by decide +kernel) ⟨Nat.le_of_ble_eq_true rfl, Nat.le_of_ble_eq_true rfl⟩) hN rfl hl.1 rfl (Nat.le_of_ble_eq_true rfl) dX4_endYear_42 ⟨Nat.le_of_ble_eq_true rfl, Nat.le_of_ble_eq_true rfl⟩ ?_
          refine lv_if_eq (tgt := 65) hx hb dX4_endYear_45 (by decide) (fun c_45 => ?_) (fun c_45 => ?_)
          · ---- to 65
            have c_45 := bi_0 c_45
            refine lv_aload_n hx hb dX4_endYear_65 rfl (lv_at hl 1 rfl) ?_
            refine va_get (D := (dC, dI)) (ci := 4) (v := .ref m4) (C := RX4) (T := TX4) (N := 16) hx hb hts hin_X4 hown hK hP 0 rfl rfl 6 (by decide) hw_4 (fun _ h9 => h9) rfl dX4_endYear_66 ?_
            refine lv_iload_n hx hb dX4_endYear_69 rfl (lv_at hl 4 rfl) ?_
            refine ra_iald hx hb hK hP 4 rfl i rfl (by omega) (Nat.le_of_ble_eq_true rfl) dX4_endYear_70 ?_
            refine ra_top (xk0 i) (f3_r0 _ _ _ (by omega)) ?_
            refine lv_bipush (v := 30) hx hb dX4_endYear_71 (by decide) ?_
            refine lv_icmp_le (tgt := 83) hx hb dX4_endYear_73 (by decide) (fun c_73 => ?_) (fun c_73 => ?_)
            · ---- to 83
              have hnu : num (xg0 i) (xk0 i) = xg0 i := ((if_neg (Int32.not_lt.mpr c_73)).trans (if_neg (fun q => c_45 q.2.1)))
              have hP : va_P (dC, dI) vwCl [ob m0 4 [.int (nI n), .int kn, .int fz, .ref m1, .ref m2, .ref m3, .ref m4, .ref m5, .ref m6, .ref m7, .ref m8, .ref m9, .ref m10, .ref m11, .ref m12, .ref m13], ai m1 cyI 21 (f3 fh uh th), ai m2 cyI 21 (f3 (upd xg0 i (num (xg0 i) (xk0 i))) ug tg), ai m3 cyI 21 (f3 ff uf tf), ai m4 cyI 21 (f3 xk0 uk tk), ai m5 cyI 3 (t3 vs us ts), ai m6 cyI 3 (t3 vb ub tb), ai m7 cyI 3 (t3 vd ud td), ai m8 cyI 3 (nF ct), ai m9 cyI 36 (q12 kd), ai m10 cyI 36 (q12 vl), ai m11 cyI 7 fr, ai m12 cyI 3 fp, ai m13 cyI 3 bp] H := by rw [hnu, upd_self]; exact hP
              have hD : va_D A [ob m0 4 [.int (nI n), .int kn, .int fz, .ref m1, .ref m2, .ref m3, .ref m4, .ref m5, .ref m6, .ref m7, .ref m8, .ref m9, .ref m10, .ref m11, .ref m12, .ref m13], ai m1 cyI 21 (f3 fh uh th), ai m2 cyI 21 (f3 (upd xg0 i (num (xg0 i) (xk0 i))) ug tg), ai m3 cyI 21 (f3 ff uf tf), ai m4 cyI 21 (f3 xk0 uk tk), ai m5 cyI 3 (t3 vs us ts), ai m6 cyI 3 (t3 vb ub tb), ai m7 cyI 3 (t3 vd ud td), ai m8 cyI 3 (nF ct), ai m9 cyI 36 (q12 kd), ai m10 cyI 36 (q12 vl), ai m11 cyI 7 fr, ai m12 cyI 3 fp, ai m13 cyI 3 bp] := by rw [hnu, upd_self]; exact hD
              refine lv_iload_n hx hb dX4_endYear_83 rfl (lv_at hl 3 rfl) ?_
              refine lv_aload_n hx hb dX4_endYear_84 rfl (lv_at hl 1 rfl) ?_
              refine va_get (D := (dC, dI)) (ci := 4) (v := .ref m2) (C := RX4) (T := TX4) (N := 16) hx hb hts hin_X4 hown hK hP 0 rfl rfl 4 (by decide) hw_3 (fun _ h9 => h9) rfl dX4_endYear_85 ?_
              refine lv_iload_n hx hb dX4_endYear_88 rfl (lv_at hl 4 rfl) ?_
              refine ra_iald hx hb hK hP 2 rfl i rfl (by omega) (Nat.le_of_ble_eq_true rfl) dX4_endYear_89 ?_
              refine ra_top (num (xg0 i) (xk0 i)) (by first | exact (f3_r2 _ _ _ _).trans pk_us | exact (f3_r0 _ _ _ (by omega)).trans pk_us) ?_
              refine lv_iload hx hb dX4_endYear_90 (lv_at hl 0 rfl) ?_
              refine lv_icmp_eq (tgt := 99) hx hb dX4_endYear_92 (by decide) (fun c_92 => ?_) (fun c_92 => ?_)
              · ---- to 99
                refine lv_iconst (v := 0) hx hb dX4_endYear_99 (by decide) ?_
                refine lv_iadd hx hb dX4_endYear_100 ?_
                refine lv_istore_n (lv' := [(2, .int (x + 0)), (4, .int (xg0 i)), (0, .ref m0), (1, .int 0), (3, .int (nI i))]) hx hb dX4_endYear_101 rfl hl (by decide) rfl (fun ls hl => ?_)
                refine lv_aload_n hx hb dX4_endYear_102 rfl (lv_at hl 2 rfl) ?_
                refine va_get (D := (dC, dI)) (ci := 4) (v := .ref m4) (C := RX4) (T := TX4) (N := 16) hx hb hts hin_X4 hown hK hP 0 rfl rfl 6 (by decide) hw_4 (fun _ h9 => h9) rfl dX4_endYear_103 ?_
                refine lv_iload_n hx hb dX4_endYear_106 rfl (lv_at hl 4 rfl) ?_
                refine lv_iconst (v := 0) hx hb dX4_endYear_107 (by decide) ?_
                refine ra_iast hx hb hK hP hD hS 4 rfl i rfl (by omega) (Nat.le_of_ble_eq_true rfl) dX4_endYear_108 (fun H locs hP hD hS => ?_)
                rw [f3_w0 _ _ _ _ (by omega)] at hP hD
                have hP : va_P (dC, dI) vwCl [ob m0 4 [.int (nI n), .int kn, .int fz, .ref m1, .ref m2, .ref m3, .ref m4, .ref m5, .ref m6, .ref m7, .ref m8, .ref m9, .ref m10, .ref m11, .ref m12, .ref m13], ai m1 cyI 21 (f3 fh uh th), ai m2 cyI 21 (f3 (upd xg0 i (num (xg0 i) (xk0 i))) ug tg), ai m3 cyI 21 (f3 ff uf tf), ai m4 cyI 21 (f3 (upd xk0 i 0) uk tk), ai m5 cyI 3 (t3 vs us ts), ai m6 cyI 3 (t3 vb ub tb), ai m7 cyI 3 (t3 vd ud td), ai m8 cyI 3 (nF ct), ai m9 cyI 36 (q12 kd), ai m10 cyI 36 (q12 vl), ai m11 cyI 7 fr, ai m12 cyI 3 fp, ai m13 cyI 3 bp] H := hP
                have hD : va_D A [ob m0 4 [.int (nI n), .int kn, .int fz, .ref m1, .ref m2, .ref m3, .ref m4, .ref m5, .ref m6, .ref m7, .ref m8, .ref m9, .ref m10, .ref m11, .ref m12, .ref m13], ai m1 cyI 21 (f3 fh uh th), ai m2 cyI 21 (f3 (upd xg0 i (num (xg0 i) (xk0 i))) ug tg), ai m3 cyI 21 (f3 ff uf tf), ai m4 cyI 21 (f3 (upd xk0 i 0) uk tk), ai m5 cyI 3 (t3 vs us ts), ai m6 cyI 3 (t3 vb ub tb), ai m7 cyI 3 (t3 vd ud td), ai m8 cyI 3 (nF ct), ai m9 cyI 36 (q12 kd), ai m10 cyI 36 (q12 vl), ai m11 cyI 7 fr, ai m12 cyI 3 fp, ai m13 cyI 3 bp] := hD
                refine lv_iinc (v := nI (i + 1)) (lv' := [(3, .int (nI (i + 1))), (2, .int (x + 0)), (4, .int (xg0 i)), (0, .ref m0), (1, .int 0)]) hx hb dX4_endYear_109 hl (k := 4) rfl (ra_inc1 _) (by decide) rfl (fun ls hl => ?_)
                refine lv_goto (tgt := 7) hx hb dX4_endYear_112 (by decide) ?_
                exact ih_7 (i + 1) (upd xg0 i (num (xg0 i) (xk0 i))) (upd xk0 i 0) (x + 0) (by omega) (by rw [← he, show n - i = n - (i + 1) + 1 by omega]; show _ = yE num _ _ _ _ (if _ then _ else _); first | (rw [if_pos c_92, Int32.add_zero]; done) | (rw [if_neg c_92]; done)) (by omega) H locs hP hD hS ls (lv_sub hl [3, 4, 1, 0] rfl)
              · ---- on
                refine lv_iconst (v := 1) hx hb dX4_endYear_95 (by decide) ?_
                refine lv_goto (tgt := 100) hx hb dX4_endYear_96 (by decide) ?_
                refine lv_iadd hx hb dX4_endYear_100 ?_
                refine lv_istore_n (lv' := [(2, .int (x + 1)), (4, .int (xg0 i)), (0, .ref m0), (1, .int 0), (3, .int (nI i))]) hx hb dX4_endYear_101 rfl hl (by decide) rfl (fun ls hl => ?_)
                refine lv_aload_n hx hb dX4_endYear_102 rfl (lv_at hl 2 rfl) ?_
                refine va_get (D := (dC, dI)) (ci := 4) (v := .ref m4) (C := RX4) (T := TX4) (N := 16) hx hb hts hin_X4 hown hK hP 0 rfl rfl 6 (by decide) hw_4 (fun _ h9 => h9) rfl dX4_endYear_103 ?_
                refine lv_iload_n hx hb dX4_endYear_106 rfl (lv_at hl 4 rfl) ?_
                refine lv_iconst (v := 0) hx hb dX4_endYear_107 (by decide) ?_
                refine ra_iast hx hb hK hP hD hS 4 rfl i rfl (by omega) (Nat.le_of_ble_eq_true rfl) dX4_endYear_108 (fun H locs hP hD hS => ?_)
                rw [f3_w0 _ _ _ _ (by omega)] at hP hD
                have hP : va_P (dC, dI) vwCl [ob m0 4 [.int (nI n), .int kn, .int fz, .ref m1, .ref m2, .ref m3, .ref m4, .ref m5, .ref m6, .ref m7, .ref m8, .ref m9, .ref m10, .ref m11, .ref m12, .ref m13], ai m1 cyI 21 (f3 fh uh th), ai m2 cyI 21 (f3 (upd xg0 i (num (xg0 i) (xk0 i))) ug tg), ai m3 cyI 21 (f3 ff uf tf), ai m4 cyI 21 (f3 (upd xk0 i 0) uk tk), ai m5 cyI 3 (t3 vs us ts), ai m6 cyI 3 (t3 vb ub tb), ai m7 cyI 3 (t3 vd ud td), ai m8 cyI 3 (nF ct), ai m9 cyI 36 (q12 kd), ai m10 cyI 36 (q12 vl), ai m11 cyI 7 fr, ai m12 cyI 3 fp, ai m13 cyI 3 bp] H := hP
                have hD : va_D A [ob m0 4 [.int (nI n), .int kn, .int fz, .ref m1, .ref m2, .ref m3, .ref m4, .ref m5, .ref m6, .ref m7, .ref m8, .ref m9, .ref m10, .ref m11, .ref m12, .ref m13], ai m1 cyI 21 (f3 fh uh th), ai m2 cyI 21 (f3 (upd xg0 i (num (xg0 i) (xk0 i))) ug tg), ai m3 cyI 21 (f3 ff uf tf), ai m4 cyI 21 (f3 (upd xk0 i 0) uk tk), ai m5 cyI 3 (t3 vs us ts), ai m6 cyI 3 (t3 vb ub tb), ai m7 cyI 3 (t3 vd ud td), ai m8 cyI 3 (nF ct), ai m9 cyI 36 (q12 kd), ai m10 cyI 36 (q12 vl), ai m11 cyI 7 fr, ai m12 cyI 3 fp, ai m13 cyI 3 bp] := hD
                refine lv_iinc (v := nI (i + 1)) (lv' := [(3, .int (nI (i + 1))), (2, .int (x + 1)), (4, .int (xg0 i)), (0, .ref m0), (1, .int 0)]) hx hb dX4_endYear_109 hl (k := 4) rfl (ra_inc1 _) (by decide) rfl (fun ls hl => ?_)
                refine lv_goto (tgt := 7) hx hb dX4_endYear_112 (by decide) ?_
                exact ih_7 (i + 1) (upd xg0 i (num (xg0 i) (xk0 i))) (upd xk0 i 0) (x + 1) (by omega) (by rw [← he, show n - i = n - (i + 1) + 1 by omega]; show _ = yE num _ _ _ _ (if _ then _ else _); first | (rw [if_pos c_92, Int32.add_zero]; done) | (rw [if_neg c_92]; done)) (by omega) H locs hP hD hS ls (lv_sub hl [3, 4, 1, 0] rfl)
            · ---- on
              refine lv_aload_n hx hb dX4_endYear_76 rfl (lv_at hl 1 rfl) ?_
              refine va_get (D := (dC, dI)) (ci := 4) (v := .ref m2) (C := RX4) (T := TX4) (N := 16) hx hb hts hin_X4 hown hK hP 0 rfl rfl 4 (by decide) hw_3 (fun _ h9 => h9) rfl dX4_endYear_77 ?_
              refine lv_iload_n hx hb dX4_endYear_80 rfl (lv_at hl 4 rfl) ?_
              refine lv_iconst (v := 0) hx hb dX4_endYear_81 (by decide) ?_
              refine ra_iast hx hb hK hP hD hS 2 rfl i rfl (by omega) (Nat.le_of_ble_eq_true rfl) dX4_endYear_82 (fun H locs hP hD hS => ?_)
              rw [f3_w0 _ _ _ _ (by omega)] at hP hD
              have hP : va_P (dC, dI) vwCl [ob m0 4 [.int (nI n), .int kn, .int fz, .ref m1, .ref m2, .ref m3, .ref m4, .ref m5, .ref m6, .ref m7, .ref m8, .ref m9, .ref m10, .ref m11, .ref m12, .ref m13], ai m1 cyI 21 (f3 fh uh th), ai m2 cyI 21 (f3 (upd xg0 i 0) ug tg), ai m3 cyI 21 (f3 ff uf tf), ai m4 cyI 21 (f3 xk0 uk tk), ai m5 cyI 3 (t3 vs us ts), ai m6 cyI 3 (t3 vb ub tb), ai m7 cyI 3 (t3 vd ud td), ai m8 cyI 3 (nF ct), ai m9 cyI 36 (q12 kd), ai m10 cyI 36 (q12 vl), ai m11 cyI 7 fr, ai m12 cyI 3 fp, ai m13 cyI 3 bp] H := hP
              have hD : va_D A [ob m0 4 [.int (nI n), .int kn, .int fz, .ref m1, .ref m2, .ref m3, .ref m4, .ref m5, .ref m6, .ref m7, .ref m8, .ref m9, .ref m10, .ref m11, .ref m12, .ref m13], ai m1 cyI 21 (f3 fh uh th), ai m2 cyI 21 (f3 (upd xg0 i 0) ug tg), ai m3 cyI 21 (f3 ff uf tf), ai m4 cyI 21 (f3 xk0 uk tk), ai m5 cyI 3 (t3 vs us ts), ai m6 cyI 3 (t3 vb ub tb), ai m7 cyI 3 (t3 vd ud td), ai m8 cyI 3 (nF ct), ai m9 cyI 36 (q12 kd), ai m10 cyI 36 (q12 vl), ai m11 cyI 7 fr, ai m12 cyI 3 fp, ai m13 cyI 3 bp] := hD
              have hnu : num (xg0 i) (xk0 i) = 0 := (if_pos (Int32.not_le.mp c_73))
              have hP : va_P (dC, dI) vwCl [ob m0 4 [.int (nI n), .int kn, .int fz, .ref m1, .ref m2, .ref m3, .ref m4, .ref m5, .ref m6, .ref m7, .ref m8, .ref m9, .ref m10, .ref m11, .ref m12, .ref m13], ai m1 cyI 21 (f3 fh uh th), ai m2 cyI 21 (f3 (upd xg0 i (num (xg0 i) (xk0 i))) ug tg), ai m3 cyI 21 (f3 ff uf tf), ai m4 cyI 21 (f3 xk0 uk tk), ai m5 cyI 3 (t3 vs us ts), ai m6 cyI 3 (t3 vb ub tb), ai m7 cyI 3 (t3 vd ud td), ai m8 cyI 3 (nF ct), ai m9 cyI 36 (q12 kd), ai m10 cyI 36 (q12 vl), ai m11 cyI 7 fr, ai m12 cyI 3 fp, ai m13 cyI 3 bp] H := by rw [hnu]; exact hP
              have hD : va_D A [ob m0 4 [.int (nI n), .int kn, .int fz, .ref m1, .ref m2, .ref m3, .ref m4, .ref m5, .ref m6, .ref m7, .ref m8, .ref m9, .ref m10, .ref m11, .ref m12, .ref m13], ai m1 cyI 21 (f3 fh uh th), ai m2 cyI 21 (f3 (upd xg0 i (num (xg0 i) (xk0 i))) ug tg), ai m3 cyI 21 (f3 ff uf tf), ai m4 cyI 21 (f3 xk0 uk tk), ai m5 cyI 3 (t3 vs us ts), ai m6 cyI 3 (t3 vb ub tb), ai m7 cyI 3 (t3 vd ud td), ai m8 cyI 3 (nF ct), ai m9 cyI 36 (q12 kd), ai m10 cyI 36 (q12 vl), ai m11 cyI 7 fr, ai m12 cyI 3 fp, ai m13 cyI 3 bp] := by rw [hnu]; exact hD
              refine lv_iload_n hx hb dX4_endYear_83 rfl (lv_at hl 3 rfl) ?_
              refine lv_aload_n hx hb dX4_endYear_84 rfl (lv_at hl 1 rfl) ?_
              refine va_get (D := (dC, dI)) (ci := 4) (v := .ref m2) (C := RX4) (T := TX4) (N := 16) hx hb hts hin_X4 hown hK hP 0 rfl rfl 4 (by decide) hw_3 (fun _ h9 => h9) rfl dX4_endYear_85 ?_
              refine lv_iload_n hx hb dX4_endYear_88 rfl (lv_at hl 4 rfl) ?_
              refine ra_iald hx hb hK hP 2 rfl i rfl (by omega) (Nat.le_of_ble_eq_true rfl) dX4_endYear_89 ?_
              refine ra_top (num (xg0 i) (xk0 i)) (by first | exact (f3_r2 _ _ _ _).trans pk_us | exact (f3_r0 _ _ _ (by omega)).trans pk_us) ?_
              refine lv_iload hx hb dX4_endYear_90 (lv_at hl 0 rfl) ?_
              refine lv_icmp_eq (tgt := 99) hx hb dX4_endYear_92 (by decide) (fun c_92 => ?_) (fun c_92 => ?_)
              · ---- to 99
                refine lv_iconst (v := 0) hx hb dX4_endYear_99 (by decide) ?_
                refine lv_iadd hx hb dX4_endYear_100 ?_
                refine lv_istore_n (lv' := [(2, .int (x + 0)), (4, .int (xg0 i)), (0, .ref m0), (1, .int 0), (3, .int (nI i))]) hx hb dX4_endYear_101 rfl hl (by decide) rfl (fun ls hl => ?_)
                refine lv_aload_n hx hb dX4_endYear_102 rfl (lv_at hl 2 rfl) ?_
                refine va_get (D := (dC, dI)) (ci := 4) (v := .ref m4) (C := RX4) (T := TX4) (N := 16) hx hb hts hin_X4 hown hK hP 0 rfl rfl 6 (by decide) hw_4 (fun _ h9 => h9) rfl dX4_endYear_103 ?_
                refine lv_iload_n hx hb dX4_endYear_106 rfl (lv_at hl 4 rfl) ?_
                refine lv_iconst (v := 0) hx hb dX4_endYear_107 (by decide) ?_
                refine ra_iast hx hb hK hP hD hS 4 rfl i rfl (by omega) (Nat.le_of_ble_eq_true rfl) dX4_endYear_108 (fun H locs hP hD hS => ?_)
                rw [f3_w0 _ _ _ _ (by omega)] at hP hD
                have hP : va_P (dC, dI) vwCl [ob m0 4 [.int (nI n), .int kn, .int fz, .ref m1, .ref m2, .ref m3, .ref m4, .ref m5, .ref m6, .ref m7, .ref m8, .ref m9, .ref m10, .ref m11, .ref m12, .ref m13], ai m1 cyI 21 (f3 fh uh th), ai m2 cyI 21 (f3 (upd xg0 i (num (xg0 i) (xk0 i))) ug tg), ai m3 cyI 21 (f3 ff uf tf), ai m4 cyI 21 (f3 (upd xk0 i 0) uk tk), ai m5 cyI 3 (t3 vs us ts), ai m6 cyI 3 (t3 vb ub tb), ai m7 cyI 3 (t3 vd ud td), ai m8 cyI 3 (nF ct), ai m9 cyI 36 (q12 kd), ai m10 cyI 36 (q12 vl), ai m11 cyI 7 fr, ai m12 cyI 3 fp, ai m13 cyI 3 bp] H := hP
                have hD : va_D A [ob m0 4 [.int (nI n), .int kn, .int fz, .ref m1, .ref m2, .ref m3, .ref m4, .ref m5, .ref m6, .ref m7, .ref m8, .ref m9, .ref m10, .ref m11, .ref m12, .ref m13], ai m1 cyI 21 (f3 fh uh th), ai m2 cyI 21 (f3 (upd xg0 i (num (xg0 i) (xk0 i))) ug tg), ai m3 cyI 21 (f3 ff uf tf), ai m4 cyI 21 (f3 (upd xk0 i 0) uk tk), ai m5 cyI 3 (t3 vs us ts), ai m6 cyI 3 (t3 vb ub tb), ai m7 cyI 3 (t3 vd ud td), ai m8 cyI 3 (nF ct), ai m9 cyI 36 (q12 kd), ai m10 cyI 36 (q12 vl), ai m11 cyI 7 fr, ai m12 cyI 3 fp, ai m13 cyI 3 bp] := hD
                refine lv_iinc (v := nI (i + 1)) (lv' := [(3, .int (nI (i + 1))), (2, .int (x + 0)), (4, .int (xg0 i)), (0, .ref m0), (1, .int 0)]) hx hb dX4_endYear_109 hl (k := 4) rfl (ra_inc1 _) (by decide) rfl (fun ls hl => ?_)
                refine lv_goto (tgt := 7) hx hb dX4_endYear_112 (by decide) ?_
                exact ih_7 (i + 1) (upd xg0 i (num (xg0 i) (xk0 i))) (upd xk0 i 0) (x + 0) (by omega) (by rw [← he, show n - i = n - (i + 1) + 1 by omega]; show _ = yE num _ _ _ _ (if _ then _ else _); first | (rw [if_pos c_92, Int32.add_zero]; done) | (rw [if_neg c_92]; done)) (by omega) H locs hP hD hS ls (lv_sub hl [3, 4, 1, 0] rfl)
              · ---- on
                refine lv_iconst (v := 1) hx hb dX4_endYear_95 (by decide) ?_
                refine lv_goto (tgt := 100) hx hb dX4_endYear_96 (by decide) ?_
                refine lv_iadd hx hb dX4_endYear_100 ?_
                refine lv_istore_n (lv' := [(2, .int (x + 1)), (4, .int (xg0 i)), (0, .ref m0), (1, .int 0), (3, .int (nI i))]) hx hb dX4_endYear_101 rfl hl (by decide) rfl (fun ls hl => ?_)
                refine lv_aload_n hx hb dX4_endYear_102 rfl (lv_at hl 2 rfl) ?_
                refine va_get (D := (dC, dI)) (ci := 4) (v := .ref m4) (C := RX4) (T := TX4) (N := 16) hx hb hts hin_X4 hown hK hP 0 rfl rfl 6 (by decide) hw_4 (fun _ h9 => h9) rfl dX4_endYear_103 ?_
                refine lv_iload_n hx hb dX4_endYear_106 rfl (lv_at hl 4 rfl) ?_
                refine lv_iconst (v := 0) hx hb dX4_endYear_107 (by decide) ?_
                refine ra_iast hx hb hK hP hD hS 4 rfl i rfl (by omega) (Nat.le_of_ble_eq_true rfl) dX4_endYear_108 (fun H locs hP hD hS => ?_)
                rw [f3_w0 _ _ _ _ (by omega)] at hP hD
                have hP : va_P (dC, dI) vwCl [ob m0 4 [.int (nI n), .int kn, .int fz, .ref m1, .ref m2, .ref m3, .ref m4, .ref m5, .ref m6, .ref m7, .ref m8, .ref m9, .ref m10, .ref m11, .ref m12, .ref m13], ai m1 cyI 21 (f3 fh uh th), ai m2 cyI 21 (f3 (upd xg0 i (num (xg0 i) (xk0 i))) ug tg), ai m3 cyI 21 (f3 ff uf tf), ai m4 cyI 21 (f3 (upd xk0 i 0) uk tk), ai m5 cyI 3 (t3 vs us ts), ai m6 cyI 3 (t3 vb ub tb), ai m7 cyI 3 (t3 vd ud td), ai m8 cyI 3 (nF ct), ai m9 cyI 36 (q12 kd), ai m10 cyI 36 (q12 vl), ai m11 cyI 7 fr, ai m12 cyI 3 fp, ai m13 cyI 3 bp] H := hP
                have hD : va_D A [ob m0 4 [.int (nI n), .int kn, .int fz, .ref m1, .ref m2, .ref m3, .ref m4, .ref m5, .ref m6, .ref m7, .ref m8, .ref m9, .ref m10, .ref m11, .ref m12, .ref m13], ai m1 cyI 21 (f3 fh uh th), ai m2 cyI 21 (f3 (upd xg0 i (num (xg0 i) (xk0 i))) ug tg), ai m3 cyI 21 (f3 ff uf tf), ai m4 cyI 21 (f3 (upd xk0 i 0) uk tk), ai m5 cyI 3 (t3 vs us ts), ai m6 cyI 3 (t3 vb ub tb), ai m7 cyI 3 (t3 vd ud td), ai m8 cyI 3 (nF ct), ai m9 cyI 36 (q12 kd), ai m10 cyI 36 (q12 vl), ai m11 cyI 7 fr, ai m12 cyI 3 fp, ai m13 cyI 3 bp] := hD
                refine lv_iinc (v := nI (i + 1)) (lv' := [(3, .int (nI (i + 1))), (2, .int (x + 1)), (4, .int (xg0 i)), (0, .ref m0), (1, .int 0)]) hx hb dX4_endYear_109 hl (k := 4) rfl (ra_inc1 _) (by decide) rfl (fun ls hl => ?_)
                refine lv_goto (tgt := 7) hx hb dX4_endYear_112 (by decide) ?_
                exact ih_7 (i + 1) (upd xg0 i (num (xg0 i) (xk0 i))) (upd xk0 i 0) (x + 1) (by omega) (by rw [← he, show n - i = n - (i + 1) + 1 by omega]; show _ = yE num _ _ _ _ (if _ then _ else _); first | (rw [if_pos c_92, Int32.add_zero]; done) | (rw [if_neg c_92]; done)) (by omega) H locs hP hD hS ls (lv_sub hl [3, 4, 1, 0] rfl)
          · ---- on
            have c_45 := bi_1 c_45
            refine lv_iload hx hb dX4_endYear_48 (lv_at hl 0 rfl) ?_
            refine lv_bipush (v := 9) hx hb dX4_endYear_50 (by decide) ?_
            refine lv_icmp_ge (tgt := 65) hx hb dX4_endYear_52 (by decide) (fun c_52 => ?_) (fun c_52 => ?_)
            · ---- to 65
              refine lv_aload_n hx hb dX4_endYear_65 rfl (lv_at hl 1 rfl) ?_
              refine va_get (D := (dC, dI)) (ci := 4) (v := .ref m4) (C := RX4) (T := TX4) (N := 16) hx hb hts hin_X4 hown hK hP 0 rfl rfl 6 (by decide) hw_4 (fun _ h9 => h9) rfl dX4_endYear_66 ?_
              refine lv_iload_n hx hb dX4_endYear_69 rfl (lv_at hl 4 rfl) ?_
              refine ra_iald hx hb hK hP 4 rfl i rfl (by omega) (Nat.le_of_ble_eq_true rfl) dX4_endYear_70 ?_
              refine ra_top (xk0 i) (f3_r0 _ _ _ (by omega)) ?_
              refine lv_bipush (v := 30) hx hb dX4_endYear_71 (by decide) ?_
              refine lv_icmp_le (tgt := 83) hx hb dX4_endYear_73 (by decide) (fun c_73 => ?_) (fun c_73 => ?_)
              · ---- to 83
                have hnu : num (xg0 i) (xk0 i) = xg0 i := ((if_neg (Int32.not_lt.mpr c_73)).trans (if_neg (fun q => absurd q.2.2 (Int32.not_lt.mpr c_52))))
                have hP : va_P (dC, dI) vwCl [ob m0 4 [.int (nI n), .int kn, .int fz, .ref m1, .ref m2, .ref m3, .ref m4, .ref m5, .ref m6, .ref m7, .ref m8, .ref m9, .ref m10, .ref m11, .ref m12, .ref m13], ai m1 cyI 21 (f3 fh uh th), ai m2 cyI 21 (f3 (upd xg0 i (num (xg0 i) (xk0 i))) ug tg), ai m3 cyI 21 (f3 ff uf tf), ai m4 cyI 21 (f3 xk0 uk tk), ai m5 cyI 3 (t3 vs us ts), ai m6 cyI 3 (t3 vb ub tb), ai m7 cyI 3 (t3 vd ud td), ai m8 cyI 3 (nF ct), ai m9 cyI 36 (q12 kd), ai m10 cyI 36 (q12 vl), ai m11 cyI 7 fr, ai m12 cyI 3 fp, ai m13 cyI 3 bp] H := by rw [hnu, upd_self]; exact hP
                have hD : va_D A [ob m0 4 [.int (nI n), .int kn, .int fz, .ref m1, .ref m2, .ref m3, .ref m4, .ref m5, .ref m6, .ref m7, .ref m8, .ref m9, .ref m10, .ref m11, .ref m12, .ref m13], ai m1 cyI 21 (f3 fh uh th), ai m2 cyI 21 (f3 (upd xg0 i (num (xg0 i) (xk0 i))) ug tg), ai m3 cyI 21 (f3 ff uf tf), ai m4 cyI 21 (f3 xk0 uk tk), ai m5 cyI 3 (t3 vs us ts), ai m6 cyI 3 (t3 vb ub tb), ai m7 cyI 3 (t3 vd ud td), ai m8 cyI 3 (nF ct), ai m9 cyI 36 (q12 kd), ai m10 cyI 36 (q12 vl), ai m11 cyI 7 fr, ai m12 cyI 3 fp, ai m13 cyI 3 bp] := by rw [hnu, upd_self]; exact hD
                refine lv_iload_n hx hb dX4_endYear_83 rfl (lv_at hl 3 rfl) ?_
                refine lv_aload_n hx hb dX4_endYear_84 rfl (lv_at hl 1 rfl) ?_
                refine va_get (D := (dC, dI)) (ci := 4) (v := .ref m2) (C := RX4) (T := TX4) (N := 16) hx hb hts hin_X4 hown hK hP 0 rfl rfl 4 (by decide) hw_3 (fun _ h9 => h9) rfl dX4_endYear_85 ?_
                refine lv_iload_n hx hb dX4_endYear_88 rfl (lv_at hl 4 rfl) ?_
                refine ra_iald hx hb hK hP 2 rfl i rfl (by omega) (Nat.le_of_ble_eq_true rfl) dX4_endYear_89 ?_
                refine ra_top (num (xg0 i) (xk0 i)) (by first | exact (f3_r2 _ _ _ _).trans pk_us | exact (f3_r0 _ _ _ (by omega)).trans pk_us) ?_
                refine lv_iload hx hb dX4_endYear_90 (lv_at hl 0 rfl) ?_
                refine lv_icmp_eq (tgt := 99) hx hb dX4_endYear_92 (by decide) (fun c_92 => ?_) (fun c_92 => ?_)
                · ---- to 99
                  refine lv_iconst (v := 0) hx hb dX4_endYear_99 (by decide) ?_
                  refine lv_iadd hx hb dX4_endYear_100 ?_
                  refine lv_istore_n (lv' := [(2, .int (x + 0)), (4, .int (xg0 i)), (0, .ref m0), (1, .int 0), (3, .int (nI i))]) hx hb dX4_endYear_101 rfl hl (by decide) rfl (fun ls hl => ?_)
                  refine lv_aload_n hx hb dX4_endYear_102 rfl (lv_at hl 2 rfl) ?_
                  refine va_get (D := (dC, dI)) (ci := 4) (v := .ref m4) (C := RX4) (T := TX4) (N := 16) hx hb hts hin_X4 hown hK hP 0 rfl rfl 6 (by decide) hw_4 (fun _ h9 => h9) rfl dX4_endYear_103 ?_
                  refine lv_iload_n hx hb dX4_endYear_106 rfl (lv_at hl 4 rfl) ?_
                  refine lv_iconst (v := 0) hx hb dX4_endYear_107 (by decide) ?_
                  refine ra_iast hx hb hK hP hD hS 4 rfl i rfl (by omega) (Nat.le_of_ble_eq_true rfl) dX4_endYear_108 (fun H locs hP hD hS => ?_)
                  rw [f3_w0 _ _ _ _ (by omega)] at hP hD
                  have hP : va_P (dC, dI) vwCl [ob m0 4 [.int (nI n), .int kn, .int fz, .ref m1, .ref m2, .ref m3, .ref m4, .ref m5, .ref m6, .ref m7, .ref m8, .ref m9, .ref m10, .ref m11, .ref m12, .ref m13], ai m1 cyI 21 (f3 fh uh th), ai m2 cyI 21 (f3 (upd xg0 i (num (xg0 i) (xk0 i))) ug tg), ai m3 cyI 21 (f3 ff uf tf), ai m4 cyI 21 (f3 (upd xk0 i 0) uk tk), ai m5 cyI 3 (t3 vs us ts), ai m6 cyI 3 (t3 vb ub tb), ai m7 cyI 3 (t3 vd ud td), ai m8 cyI 3 (nF ct), ai m9 cyI 36 (q12 kd), ai m10 cyI 36 (q12 vl), ai m11 cyI 7 fr, ai m12 cyI 3 fp, ai m13 cyI 3 bp] H := hP
                  have hD : va_D A [ob m0 4 [.int (nI n), .int kn, .int fz, .ref m1, .ref m2, .ref m3, .ref m4, .ref m5, .ref m6, .ref m7, .ref m8, .ref m9, .ref m10, .ref m11, .ref m12, .ref m13], ai m1 cyI 21 (f3 fh uh th), ai m2 cyI 21 (f3 (upd xg0 i (num (xg0 i) (xk0 i))) ug tg), ai m3 cyI 21 (f3 ff uf tf), ai m4 cyI 21 (f3 (upd xk0 i 0) uk tk), ai m5 cyI 3 (t3 vs us ts), ai m6 cyI 3 (t3 vb ub tb), ai m7 cyI 3 (t3 vd ud td), ai m8 cyI 3 (nF ct), ai m9 cyI 36 (q12 kd), ai m10 cyI 36 (q12 vl), ai m11 cyI 7 fr, ai m12 cyI 3 fp, ai m13 cyI 3 bp] := hD
                  refine lv_iinc (v := nI (i + 1)) (lv' := [(3, .int (nI (i + 1))), (2, .int (x + 0)), (4, .int (xg0 i)), (0, .ref m0), (1, .int 0)]) hx hb dX4_endYear_109 hl (k := 4) rfl (ra_inc1 _) (by decide) rfl (fun ls hl => ?_)
                  refine lv_goto (tgt := 7) hx hb dX4_endYear_112 (by decide) ?_
                  exact ih_7 (i + 1) (upd xg0 i (num (xg0 i) (xk0 i))) (upd xk0 i 0) (x + 0) (by omega) (by rw [← he, show n - i = n - (i + 1) + 1 by omega]; show _ = yE num _ _ _ _ (if _ then _ else _); first | (rw [if_pos c_92, Int32.add_zero]; done) | (rw [if_neg c_92]; done)) (by omega) H locs hP hD hS ls (lv_sub hl [3, 4, 1, 0] rfl)
                · ---- on
                  refine lv_iconst (v := 1) hx hb dX4_endYear_95 (by decide) ?_
                  refine lv_goto (tgt := 100) hx hb dX4_endYear_96 (by decide) ?_
                  refine lv_iadd hx hb dX4_endYear_100 ?_
                  refine lv_istore_n (lv' := [(2, .int (x + 1)), (4, .int (xg0 i)), (0, .ref m0), (1, .int 0), (3, .int (nI i))]) hx hb dX4_endYear_101 rfl hl (by decide) rfl (fun ls hl => ?_)
                  refine lv_aload_n hx hb dX4_endYear_102 rfl (lv_at hl 2 rfl) ?_
                  refine va_get (D := (dC, dI)) (ci := 4) (v := .ref m4) (C := RX4) (T := TX4) (N := 16) hx hb hts hin_X4 hown hK hP 0 rfl rfl 6 (by decide) hw_4 (fun _ h9 => h9) rfl dX4_endYear_103 ?_
                  refine lv_iload_n hx hb dX4_endYear_106 rfl (lv_at hl 4 rfl) ?_
                  refine lv_iconst (v := 0) hx hb dX4_endYear_107 (by decide) ?_
                  refine ra_iast hx hb hK hP hD hS 4 rfl i rfl (by omega) (Nat.le_of_ble_eq_true rfl) dX4_endYear_108 (fun H locs hP hD hS => ?_)
                  rw [f3_w0 _ _ _ _ (by omega)] at hP hD
                  have hP : va_P (dC, dI) vwCl [ob m0 4 [.int (nI n), .int kn, .int fz, .ref m1, .ref m2, .ref m3, .ref m4, .ref m5, .ref m6, .ref m7, .ref m8, .ref m9, .ref m10, .ref m11, .ref m12, .ref m13], ai m1 cyI 21 (f3 fh uh th), ai m2 cyI 21 (f3 (upd xg0 i (num (xg0 i) (xk0 i))) ug tg), ai m3 cyI 21 (f3 ff uf tf), ai m4 cyI 21 (f3 (upd xk0 i 0) uk tk), ai m5 cyI 3 (t3 vs us ts), ai m6 cyI 3 (t3 vb ub tb), ai m7 cyI 3 (t3 vd ud td), ai m8 cyI 3 (nF ct), ai m9 cyI 36 (q12 kd), ai m10 cyI 36 (q12 vl), ai m11 cyI 7 fr, ai m12 cyI 3 fp, ai m13 cyI 3 bp] H := hP
                  have hD : va_D A [ob m0 4 [.int (nI n), .int kn, .int fz, .ref m1, .ref m2, .ref m3, .ref m4, .ref m5, .ref m6, .ref m7, .ref m8, .ref m9, .ref m10, .ref m11, .ref m12, .ref m13], ai m1 cyI 21 (f3 fh uh th), ai m2 cyI 21 (f3 (upd xg0 i (num (xg0 i) (xk0 i))) ug tg), ai m3 cyI 21 (f3 ff uf tf), ai m4 cyI 21 (f3 (upd xk0 i 0) uk tk), ai m5 cyI 3 (t3 vs us ts), ai m6 cyI 3 (t3 vb ub tb), ai m7 cyI 3 (t3 vd ud td), ai m8 cyI 3 (nF ct), ai m9 cyI 36 (q12 kd), ai m10 cyI 36 (q12 vl), ai m11 cyI 7 fr, ai m12 cyI 3 fp, ai m13 cyI 3 bp] := hD
                  refine lv_iinc (v := nI (i + 1)) (lv' := [(3, .int (nI (i + 1))), (2, .int (x + 1)), (4, .int (xg0 i)), (0, .ref m0), (1, .int 0)]) hx hb dX4_endYear_109 hl (k := 4) rfl (ra_inc1 _) (by decide) rfl (fun ls hl => ?_)
                  refine lv_goto (tgt := 7) hx hb dX4_endYear_112 (by decide) ?_
                  exact ih_7 (i + 1) (upd xg0 i (num (xg0 i) (xk0 i))) (upd xk0 i 0) (x + 1) (by omega) (by rw [← he, show n - i = n - (i + 1) + 1 by omega]; show _ = yE num _ _ _ _ (if _ then _ else _); first | (rw [if_pos c_92, Int32.add_zero]; done) | (rw [if_neg c_92]; done)) (by omega) H locs hP hD hS ls (lv_sub hl [3, 4, 1, 0] rfl)
              · ---- on
                refine lv_aload_n hx hb dX4_endYear_76 rfl (lv_at hl 1 rfl) ?_
                refine va_get (D := (dC, dI)) (ci := 4) (v := .ref m2) (C := RX4) (T := TX4) (N := 16) hx hb hts hin_X4 hown hK hP 0 rfl rfl 4 (by decide) hw_3 (fun _ h9 => h9) rfl dX4_endYear_77 ?_
                refine lv_iload_n hx hb dX4_endYear_80 rfl (lv_at hl 4 rfl) ?_
                refine lv_iconst (v := 0) hx hb dX4_endYear_81 (by decide) ?_
                refine ra_iast hx hb hK hP hD hS 2 rfl i rfl (by omega) (Nat.le_of_ble_eq_true rfl) dX4_endYear_82 (fun H locs hP hD hS => ?_)
                rw [f3_w0 _ _ _ _ (by omega)] at hP hD
                have hP : va_P (dC, dI) vwCl [ob m0 4 [.int (nI n), .int kn, .int fz, .ref m1, .ref m2, .ref m3, .ref m4, .ref m5, .ref m6, .ref m7, .ref m8, .ref m9, .ref m10, .ref m11, .ref m12, .ref m13], ai m1 cyI 21 (f3 fh uh th), ai m2 cyI 21 (f3 (upd xg0 i 0) ug tg), ai m3 cyI 21 (f3 ff uf tf), ai m4 cyI 21 (f3 xk0 uk tk), ai m5 cyI 3 (t3 vs us ts), ai m6 cyI 3 (t3 vb ub tb), ai m7 cyI 3 (t3 vd ud td), ai m8 cyI 3 (nF ct), ai m9 cyI 36 (q12 kd), ai m10 cyI 36 (q12 vl), ai m11 cyI 7 fr, ai m12 cyI 3 fp, ai m13 cyI 3 bp] H := hP
                have hD : va_D A [ob m0 4 [.int (nI n), .int kn, .int fz, .ref m1, .ref m2, .ref m3, .ref m4, .ref m5, .ref m6, .ref m7, .ref m8, .ref m9, .ref m10, .ref m11, .ref m12, .ref m13], ai m1 cyI 21 (f3 fh uh th), ai m2 cyI 21 (f3 (upd xg0 i 0) ug tg), ai m3 cyI 21 (f3 ff uf tf), ai m4 cyI 21 (f3 xk0 uk tk), ai m5 cyI 3 (t3 vs us ts), ai m6 cyI 3 (t3 vb ub tb), ai m7 cyI 3 (t3 vd ud td), ai m8 cyI 3 (nF ct), ai m9 cyI 36 (q12 kd), ai m10 cyI 36 (q12 vl), ai m11 cyI 7 fr, ai m12 cyI 3 fp, ai m13 cyI 3 bp] := hD
                have hnu : num (xg0 i) (xk0 i) = 0 := (if_pos (Int32.not_le.mp c_73))
                have hP : va_P (dC, dI) vwCl [ob m0 4 [.int (nI n), .int kn, .int fz, .ref m1, .ref m2, .ref m3, .ref m4, .ref m5, .ref m6, .ref m7, .ref m8, .ref m9, .ref m10, .ref m11, .ref m12, .ref m13], ai m1 cyI 21 (f3 fh uh th), ai m2 cyI 21 (f3 (upd xg0 i (num (xg0 i) (xk0 i))) ug tg), ai m3 cyI 21 (f3 ff uf tf), ai m4 cyI 21 (f3 xk0 uk tk), ai m5 cyI 3 (t3 vs us ts), ai m6 cyI 3 (t3 vb ub tb), ai m7 cyI 3 (t3 vd ud td), ai m8 cyI 3 (nF ct), ai m9 cyI 36 (q12 kd), ai m10 cyI 36 (q12 vl), ai m11 cyI 7 fr, ai m12 cyI 3 fp, ai m13 cyI 3 bp] H := by rw [hnu]; exact hP
                have hD : va_D A [ob m0 4 [.int (nI n), .int kn, .int fz, .ref m1, .ref m2, .ref m3, .ref m4, .ref m5, .ref m6, .ref m7, .ref m8, .ref m9, .ref m10, .ref m11, .ref m12, .ref m13], ai m1 cyI 21 (f3 fh uh th), ai m2 cyI 21 (f3 (upd xg0 i (num (xg0 i) (xk0 i))) ug tg), ai m3 cyI 21 (f3 ff uf tf), ai m4 cyI 21 (f3 xk0 uk tk), ai m5 cyI 3 (t3 vs us ts), ai m6 cyI 3 (t3 vb ub tb), ai m7 cyI 3 (t3 vd ud td), ai m8 cyI 3 (nF ct), ai m9 cyI 36 (q12 kd), ai m10 cyI 36 (q12 vl), ai m11 cyI 7 fr, ai m12 cyI 3 fp, ai m13 cyI 3 bp] := by rw [hnu]; exact hD
                refine lv_iload_n hx hb dX4_endYear_83 rfl (lv_at hl 3 rfl) ?_
                refine lv_aload_n hx hb dX4_endYear_84 rfl (lv_at hl 1 rfl) ?_
                refine va_get (D := (dC, dI)) (ci := 4) (v := .ref m2) (C := RX4) (T := TX4) (N := 16) hx hb hts hin_X4 hown hK hP 0 rfl rfl 4 (by decide) hw_3 (fun _ h9 => h9) rfl dX4_endYear_85 ?_
                refine lv_iload_n hx hb dX4_endYear_88 rfl (lv_at hl 4 rfl) ?_
                refine ra_iald hx hb hK hP 2 rfl i rfl (by omega) (Nat.le_of_ble_eq_true rfl) dX4_endYear_89 ?_
                refine ra_top (num (xg0 i) (xk0 i)) (by first | exact (f3_r2 _ _ _ _).trans pk_us | exact (f3_r0 _ _ _ (by omega)).trans pk_us) ?_
                refine lv_iload hx hb dX4_endYear_90 (lv_at hl 0 rfl) ?_
                refine lv_icmp_eq (tgt := 99) hx hb dX4_endYear_92 (by decide) (fun c_92 => ?_) (fun c_92 => ?_)
                · ---- to 99
                  refine lv_iconst (v := 0) hx hb dX4_endYear_99 (by decide) ?_
                  refine lv_iadd hx hb dX4_endYear_100 ?_
                  refine lv_istore_n (lv' := [(2, .int (x + 0)), (4, .int (xg0 i)), (0, .ref m0), (1, .int 0), (3, .int (nI i))]) hx hb dX4_endYear_101 rfl hl (by decide) rfl (fun ls hl => ?_)
                  refine lv_aload_n hx hb dX4_endYear_102 rfl (lv_at hl 2 rfl) ?_
                  refine va_get (D := (dC, dI)) (ci := 4) (v := .ref m4) (C := RX4) (T := TX4) (N := 16) hx hb hts hin_X4 hown hK hP 0 rfl rfl 6 (by decide) hw_4 (fun _ h9 => h9) rfl dX4_endYear_103 ?_
                  refine lv_iload_n hx hb dX4_endYear_106 rfl (lv_at hl 4 rfl) ?_
                  refine lv_iconst (v := 0) hx hb dX4_endYear_107 (by decide) ?_
                  refine ra_iast hx hb hK hP hD hS 4 rfl i rfl (by omega) (Nat.le_of_ble_eq_true rfl) dX4_endYear_108 (fun H locs hP hD hS => ?_)
                  rw [f3_w0 _ _ _ _ (by omega)] at hP hD
                  have hP : va_P (dC, dI) vwCl [ob m0 4 [.int (nI n), .int kn, .int fz, .ref m1, .ref m2, .ref m3, .ref m4, .ref m5, .ref m6, .ref m7, .ref m8, .ref m9, .ref m10, .ref m11, .ref m12, .ref m13], ai m1 cyI 21 (f3 fh uh th), ai m2 cyI 21 (f3 (upd xg0 i (num (xg0 i) (xk0 i))) ug tg), ai m3 cyI 21 (f3 ff uf tf), ai m4 cyI 21 (f3 (upd xk0 i 0) uk tk), ai m5 cyI 3 (t3 vs us ts), ai m6 cyI 3 (t3 vb ub tb), ai m7 cyI 3 (t3 vd ud td), ai m8 cyI 3 (nF ct), ai m9 cyI 36 (q12 kd), ai m10 cyI 36 (q12 vl), ai m11 cyI 7 fr, ai m12 cyI 3 fp, ai m13 cyI 3 bp] H := hP
                  have hD : va_D A [ob m0 4 [.int (nI n), .int kn, .int fz, .ref m1, .ref m2, .ref m3, .ref m4, .ref m5, .ref m6, .ref m7, .ref m8, .ref m9, .ref m10, .ref m11, .ref m12, .ref m13], ai m1 cyI 21 (f3 fh uh th), ai m2 cyI 21 (f3 (upd xg0 i (num (xg0 i) (xk0 i))) ug tg), ai m3 cyI 21 (f3 ff uf tf), ai m4 cyI 21 (f3 (upd xk0 i 0) uk tk), ai m5 cyI 3 (t3 vs us ts), ai m6 cyI 3 (t3 vb ub tb), ai m7 cyI 3 (t3 vd ud td), ai m8 cyI 3 (nF ct), ai m9 cyI 36 (q12 kd), ai m10 cyI 36 (q12 vl), ai m11 cyI 7 fr, ai m12 cyI 3 fp, ai m13 cyI 3 bp] := hD
                  refine lv_iinc (v := nI (i + 1)) (lv' := [(3, .int (nI (i + 1))), (2, .int (x + 0)), (4, .int (xg0 i)), (0, .ref m0), (1, .int 0)]) hx hb dX4_endYear_109 hl (k := 4) rfl (ra_inc1 _) (by decide) rfl (fun ls hl => ?_)
                  refine lv_goto (tgt := 7) hx hb dX4_endYear_112 (by decide) ?_
                  exact ih_7 (i + 1) (upd xg0 i (num (xg0 i) (xk0 i))) (upd xk0 i 0) (x + 0) (by omega) (by rw [← he, show n - i = n - (i + 1) + 1 by omega]; show _ = yE num _ _ _ _ (if _ then _ else _); first | (rw [if_pos c_92, Int32.add_zero]; done) | (rw [if_neg c_92]; done)) (by omega) H locs hP hD hS ls (lv_sub hl [3, 4, 1, 0] rfl)
                · ---- on
                  refine lv_iconst (v := 1) hx hb dX4_endYear_95 (by decide) ?_
                  refine lv_goto (tgt := 100) hx hb dX4_endYear_96 (by decide) ?_
                  refine lv_iadd hx hb dX4_endYear_100 ?_
                  refine lv_istore_n (lv' := [(2, .int (x + 1)), (4, .int (xg0 i)), (0, .ref m0), (1, .int 0), (3, .int (nI i))]) hx hb dX4_endYear_101 rfl hl (by decide) rfl (fun ls hl => ?_)
                  refine lv_aload_n hx hb dX4_endYear_102 rfl (lv_at hl 2 rfl) ?_
                  refine va_get (D := (dC, dI)) (ci := 4) (v := .ref m4) (C := RX4) (T := TX4) (N := 16) hx hb hts hin_X4 hown hK hP 0 rfl rfl 6 (by decide) hw_4 (fun _ h9 => h9) rfl dX4_endYear_103 ?_
                  refine lv_iload_n hx hb dX4_endYear_106 rfl (lv_at hl 4 rfl) ?_
                  refine lv_iconst (v := 0) hx hb dX4_endYear_107 (by decide) ?_
                  refine ra_iast hx hb hK hP hD hS 4 rfl i rfl (by omega) (Nat.le_of_ble_eq_true rfl) dX4_endYear_108 (fun H locs hP hD hS => ?_)
                  rw [f3_w0 _ _ _ _ (by omega)] at hP hD
                  have hP : va_P (dC, dI) vwCl [ob m0 4 [.int (nI n), .int kn, .int fz, .ref m1, .ref m2, .ref m3, .ref m4, .ref m5, .ref m6, .ref m7, .ref m8, .ref m9, .ref m10, .ref m11, .ref m12, .ref m13], ai m1 cyI 21 (f3 fh uh th), ai m2 cyI 21 (f3 (upd xg0 i (num (xg0 i) (xk0 i))) ug tg), ai m3 cyI 21 (f3 ff uf tf), ai m4 cyI 21 (f3 (upd xk0 i 0) uk tk), ai m5 cyI 3 (t3 vs us ts), ai m6 cyI 3 (t3 vb ub tb), ai m7 cyI 3 (t3 vd ud td), ai m8 cyI 3 (nF ct), ai m9 cyI 36 (q12 kd), ai m10 cyI 36 (q12 vl), ai m11 cyI 7 fr, ai m12 cyI 3 fp, ai m13 cyI 3 bp] H := hP
                  have hD : va_D A [ob m0 4 [.int (nI n), .int kn, .int fz, .ref m1, .ref m2, .ref m3, .ref m4, .ref m5, .ref m6, .ref m7, .ref m8, .ref m9, .ref m10, .ref m11, .ref m12, .ref m13], ai m1 cyI 21 (f3 fh uh th), ai m2 cyI 21 (f3 (upd xg0 i (num (xg0 i) (xk0 i))) ug tg), ai m3 cyI 21 (f3 ff uf tf), ai m4 cyI 21 (f3 (upd xk0 i 0) uk tk), ai m5 cyI 3 (t3 vs us ts), ai m6 cyI 3 (t3 vb ub tb), ai m7 cyI 3 (t3 vd ud td), ai m8 cyI 3 (nF ct), ai m9 cyI 36 (q12 kd), ai m10 cyI 36 (q12 vl), ai m11 cyI 7 fr, ai m12 cyI 3 fp, ai m13 cyI 3 bp] := hD
                  refine lv_iinc (v := nI (i + 1)) (lv' := [(3, .int (nI (i + 1))), (2, .int (x + 1)), (4, .int (xg0 i)), (0, .ref m0), (1, .int 0)]) hx hb dX4_endYear_109 hl (k := 4) rfl (ra_inc1 _) (by decide) rfl (fun ls hl => ?_)
                  refine lv_goto (tgt := 7) hx hb dX4_endYear_112 (by decide) ?_
                  exact ih_7 (i + 1) (upd xg0 i (num (xg0 i) (xk0 i))) (upd xk0 i 0) (x + 1) (by omega) (by rw [← he, show n - i = n - (i + 1) + 1 by omega]; show _ = yE num _ _ _ _ (if _ then _ else _); first | (rw [if_pos c_92, Int32.add_zero]; done) | (rw [if_neg c_92]; done)) (by omega) H locs hP hD hS ls (lv_sub hl [3, 4, 1, 0] rfl)
            · ---- on
              refine lv_aload_n hx hb dX4_endYear_55 rfl (lv_at hl 1 rfl) ?_
              refine va_get (D := (dC, dI)) (ci := 4) (v := .ref m2) (C := RX4) (T := TX4) (N := 16) hx hb hts hin_X4 hown hK hP 0 rfl rfl 4 (by decide) hw_3 (fun _ h9 => h9) rfl dX4_endYear_56 ?_
              refine lv_iload_n hx hb dX4_endYear_59 rfl (lv_at hl 4 rfl) ?_
              refine lv_iload hx hb dX4_endYear_60 (lv_at hl 0 rfl) ?_
              refine lv_iconst (v := 1) hx hb dX4_endYear_62 (by decide) ?_
              refine lv_iadd hx hb dX4_endYear_63 ?_
              refine ra_iast hx hb hK hP hD hS 2 rfl i rfl (by omega) (Nat.le_of_ble_eq_true rfl) dX4_endYear_64 (fun H locs hP hD hS => ?_)
              rw [f3_w0 _ _ _ _ (by omega)] at hP hD
              have hP : va_P (dC, dI) vwCl [ob m0 4 [.int (nI n), .int kn, .int fz, .ref m1, .ref m2, .ref m3, .ref m4, .ref m5, .ref m6, .ref m7, .ref m8, .ref m9, .ref m10, .ref m11, .ref m12, .ref m13], ai m1 cyI 21 (f3 fh uh th), ai m2 cyI 21 (f3 (upd xg0 i ((xg0 i) + 1)) ug tg), ai m3 cyI 21 (f3 ff uf tf), ai m4 cyI 21 (f3 xk0 uk tk), ai m5 cyI 3 (t3 vs us ts), ai m6 cyI 3 (t3 vb ub tb), ai m7 cyI 3 (t3 vd ud td), ai m8 cyI 3 (nF ct), ai m9 cyI 36 (q12 kd), ai m10 cyI 36 (q12 vl), ai m11 cyI 7 fr, ai m12 cyI 3 fp, ai m13 cyI 3 bp] H := hP
              have hD : va_D A [ob m0 4 [.int (nI n), .int kn, .int fz, .ref m1, .ref m2, .ref m3, .ref m4, .ref m5, .ref m6, .ref m7, .ref m8, .ref m9, .ref m10, .ref m11, .ref m12, .ref m13], ai m1 cyI 21 (f3 fh uh th), ai m2 cyI 21 (f3 (upd xg0 i ((xg0 i) + 1)) ug tg), ai m3 cyI 21 (f3 ff uf tf), ai m4 cyI 21 (f3 xk0 uk tk), ai m5 cyI 3 (t3 vs us ts), ai m6 cyI 3 (t3 vb ub tb), ai m7 cyI 3 (t3 vd ud td), ai m8 cyI 3 (nF ct), ai m9 cyI 36 (q12 kd), ai m10 cyI 36 (q12 vl), ai m11 cyI 7 fr, ai m12 cyI 3 fp, ai m13 cyI 3 bp] := hD
              refine lv_aload_n hx hb dX4_endYear_65 rfl (lv_at hl 1 rfl) ?_
              refine va_get (D := (dC, dI)) (ci := 4) (v := .ref m4) (C := RX4) (T := TX4) (N := 16) hx hb hts hin_X4 hown hK hP 0 rfl rfl 6 (by decide) hw_4 (fun _ h9 => h9) rfl dX4_endYear_66 ?_
              refine lv_iload_n hx hb dX4_endYear_69 rfl (lv_at hl 4 rfl) ?_
              refine ra_iald hx hb hK hP 4 rfl i rfl (by omega) (Nat.le_of_ble_eq_true rfl) dX4_endYear_70 ?_
              refine ra_top (xk0 i) (f3_r0 _ _ _ (by omega)) ?_
              refine lv_bipush (v := 30) hx hb dX4_endYear_71 (by decide) ?_
              refine lv_icmp_le (tgt := 83) hx hb dX4_endYear_73 (by decide) (fun c_73 => ?_) (fun c_73 => ?_)
              · ---- to 83
                have hnu : num (xg0 i) (xk0 i) = xg0 i + 1 := ((if_neg (Int32.not_lt.mpr c_73)).trans (if_pos ⟨Int32.not_le.mp c_30, c_45, Int32.not_le.mp c_52⟩))
                have hP : va_P (dC, dI) vwCl [ob m0 4 [.int (nI n), .int kn, .int fz, .ref m1, .ref m2, .ref m3, .ref m4, .ref m5, .ref m6, .ref m7, .ref m8, .ref m9, .ref m10, .ref m11, .ref m12, .ref m13], ai m1 cyI 21 (f3 fh uh th), ai m2 cyI 21 (f3 (upd xg0 i (num (xg0 i) (xk0 i))) ug tg), ai m3 cyI 21 (f3 ff uf tf), ai m4 cyI 21 (f3 xk0 uk tk), ai m5 cyI 3 (t3 vs us ts), ai m6 cyI 3 (t3 vb ub tb), ai m7 cyI 3 (t3 vd ud td), ai m8 cyI 3 (nF ct), ai m9 cyI 36 (q12 kd), ai m10 cyI 36 (q12 vl), ai m11 cyI 7 fr, ai m12 cyI 3 fp, ai m13 cyI 3 bp] H := by rw [hnu]; exact hP
                have hD : va_D A [ob m0 4 [.int (nI n), .int kn, .int fz, .ref m1, .ref m2, .ref m3, .ref m4, .ref m5, .ref m6, .ref m7, .ref m8, .ref m9, .ref m10, .ref m11, .ref m12, .ref m13], ai m1 cyI 21 (f3 fh uh th), ai m2 cyI 21 (f3 (upd xg0 i (num (xg0 i) (xk0 i))) ug tg), ai m3 cyI 21 (f3 ff uf tf), ai m4 cyI 21 (f3 xk0 uk tk), ai m5 cyI 3 (t3 vs us ts), ai m6 cyI 3 (t3 vb ub tb), ai m7 cyI 3 (t3 vd ud td), ai m8 cyI 3 (nF ct), ai m9 cyI 36 (q12 kd), ai m10 cyI 36 (q12 vl), ai m11 cyI 7 fr, ai m12 cyI 3 fp, ai m13 cyI 3 bp] := by rw [hnu]; exact hD
                refine lv_iload_n hx hb dX4_endYear_83 rfl (lv_at hl 3 rfl) ?_
                refine lv_aload_n hx hb dX4_endYear_84 rfl (lv_at hl 1 rfl) ?_
                refine va_get (D := (dC, dI)) (ci := 4) (v := .ref m2) (C := RX4) (T := TX4) (N := 16) hx hb hts hin_X4 hown hK hP 0 rfl rfl 4 (by decide) hw_3 (fun _ h9 => h9) rfl dX4_endYear_85 ?_
                refine lv_iload_n hx hb dX4_endYear_88 rfl (lv_at hl 4 rfl) ?_
                refine ra_iald hx hb hK hP 2 rfl i rfl (by omega) (Nat.le_of_ble_eq_true rfl) dX4_endYear_89 ?_
                refine ra_top (num (xg0 i) (xk0 i)) (by first | exact (f3_r2 _ _ _ _).trans pk_us | exact (f3_r0 _ _ _ (by omega)).trans pk_us) ?_
                refine lv_iload hx hb dX4_endYear_90 (lv_at hl 0 rfl) ?_
                refine lv_icmp_eq (tgt := 99) hx hb dX4_endYear_92 (by decide) (fun c_92 => ?_) (fun c_92 => ?_)
                · ---- to 99
                  refine lv_iconst (v := 0) hx hb dX4_endYear_99 (by decide) ?_
                  refine lv_iadd hx hb dX4_endYear_100 ?_
                  refine lv_istore_n (lv' := [(2, .int (x + 0)), (4, .int (xg0 i)), (0, .ref m0), (1, .int 0), (3, .int (nI i))]) hx hb dX4_endYear_101 rfl hl (by decide) rfl (fun ls hl => ?_)
                  refine lv_aload_n hx hb dX4_endYear_102 rfl (lv_at hl 2 rfl) ?_
                  refine va_get (D := (dC, dI)) (ci := 4) (v := .ref m4) (C := RX4) (T := TX4) (N := 16) hx hb hts hin_X4 hown hK hP 0 rfl rfl 6 (by decide) hw_4 (fun _ h9 => h9) rfl dX4_endYear_103 ?_
                  refine lv_iload_n hx hb dX4_endYear_106 rfl (lv_at hl 4 rfl) ?_
                  refine lv_iconst (v := 0) hx hb dX4_endYear_107 (by decide) ?_
                  refine ra_iast hx hb hK hP hD hS 4 rfl i rfl (by omega) (Nat.le_of_ble_eq_true rfl) dX4_endYear_108 (fun H locs hP hD hS => ?_)
                  rw [f3_w0 _ _ _ _ (by omega)] at hP hD
                  have hP : va_P (dC, dI) vwCl [ob m0 4 [.int (nI n), .int kn, .int fz, .ref m1, .ref m2, .ref m3, .ref m4, .ref m5, .ref m6, .ref m7, .ref m8, .ref m9, .ref m10, .ref m11, .ref m12, .ref m13], ai m1 cyI 21 (f3 fh uh th), ai m2 cyI 21 (f3 (upd xg0 i (num (xg0 i) (xk0 i))) ug tg), ai m3 cyI 21 (f3 ff uf tf), ai m4 cyI 21 (f3 (upd xk0 i 0) uk tk), ai m5 cyI 3 (t3 vs us ts), ai m6 cyI 3 (t3 vb ub tb), ai m7 cyI 3 (t3 vd ud td), ai m8 cyI 3 (nF ct), ai m9 cyI 36 (q12 kd), ai m10 cyI 36 (q12 vl), ai m11 cyI 7 fr, ai m12 cyI 3 fp, ai m13 cyI 3 bp] H := hP
                  have hD : va_D A [ob m0 4 [.int (nI n), .int kn, .int fz, .ref m1, .ref m2, .ref m3, .ref m4, .ref m5, .ref m6, .ref m7, .ref m8, .ref m9, .ref m10, .ref m11, .ref m12, .ref m13], ai m1 cyI 21 (f3 fh uh th), ai m2 cyI 21 (f3 (upd xg0 i (num (xg0 i) (xk0 i))) ug tg), ai m3 cyI 21 (f3 ff uf tf), ai m4 cyI 21 (f3 (upd xk0 i 0) uk tk), ai m5 cyI 3 (t3 vs us ts), ai m6 cyI 3 (t3 vb ub tb), ai m7 cyI 3 (t3 vd ud td), ai m8 cyI 3 (nF ct), ai m9 cyI 36 (q12 kd), ai m10 cyI 36 (q12 vl), ai m11 cyI 7 fr, ai m12 cyI 3 fp, ai m13 cyI 3 bp] := hD
                  refine lv_iinc (v := nI (i + 1)) (lv' := [(3, .int (nI (i + 1))), (2, .int (x + 0)), (4, .int (xg0 i)), (0, .ref m0), (1, .int 0)]) hx hb dX4_endYear_109 hl (k := 4) rfl (ra_inc1 _) (by decide) rfl (fun ls hl => ?_)
                  refine lv_goto (tgt := 7) hx hb dX4_endYear_112 (by decide) ?_
                  exact ih_7 (i + 1) (upd xg0 i (num (xg0 i) (xk0 i))) (upd xk0 i 0) (x + 0) (by omega) (by rw [← he, show n - i = n - (i + 1) + 1 by omega]; show _ = yE num _ _ _ _ (if _ then _ else _); first | (rw [if_pos c_92, Int32.add_zero]; done) | (rw [if_neg c_92]; done)) (by omega) H locs hP hD hS ls (lv_sub hl [3, 4, 1, 0] rfl)
                · ---- on
                  refine lv_iconst (v := 1) hx hb dX4_endYear_95 (by decide) ?_
                  refine lv_goto (tgt := 100) hx hb dX4_endYear_96 (by decide) ?_
                  refine lv_iadd hx hb dX4_endYear_100 ?_
                  refine lv_istore_n (lv' := [(2, .int (x + 1)), (4, .int (xg0 i)), (0, .ref m0), (1, .int 0), (3, .int (nI i))]) hx hb dX4_endYear_101 rfl hl (by decide) rfl (fun ls hl => ?_)
                  refine lv_aload_n hx hb dX4_endYear_102 rfl (lv_at hl 2 rfl) ?_
                  refine va_get (D := (dC, dI)) (ci := 4) (v := .ref m4) (C := RX4) (T := TX4) (N := 16) hx hb hts hin_X4 hown hK hP 0 rfl rfl 6 (by decide) hw_4 (fun _ h9 => h9) rfl dX4_endYear_103 ?_
                  refine lv_iload_n hx hb dX4_endYear_106 rfl (lv_at hl 4 rfl) ?_
                  refine lv_iconst (v := 0) hx hb dX4_endYear_107 (by decide) ?_
                  refine ra_iast hx hb hK hP hD hS 4 rfl i rfl (by omega) (Nat.le_of_ble_eq_true rfl) dX4_endYear_108 (fun H locs hP hD hS => ?_)
                  rw [f3_w0 _ _ _ _ (by omega)] at hP hD
                  have hP : va_P (dC, dI) vwCl [ob m0 4 [.int (nI n), .int kn, .int fz, .ref m1, .ref m2, .ref m3, .ref m4, .ref m5, .ref m6, .ref m7, .ref m8, .ref m9, .ref m10, .ref m11, .ref m12, .ref m13], ai m1 cyI 21 (f3 fh uh th), ai m2 cyI 21 (f3 (upd xg0 i (num (xg0 i) (xk0 i))) ug tg), ai m3 cyI 21 (f3 ff uf tf), ai m4 cyI 21 (f3 (upd xk0 i 0) uk tk), ai m5 cyI 3 (t3 vs us ts), ai m6 cyI 3 (t3 vb ub tb), ai m7 cyI 3 (t3 vd ud td), ai m8 cyI 3 (nF ct), ai m9 cyI 36 (q12 kd), ai m10 cyI 36 (q12 vl), ai m11 cyI 7 fr, ai m12 cyI 3 fp, ai m13 cyI 3 bp] H := hP
                  have hD : va_D A [ob m0 4 [.int (nI n), .int kn, .int fz, .ref m1, .ref m2, .ref m3, .ref m4, .ref m5, .ref m6, .ref m7, .ref m8, .ref m9, .ref m10, .ref m11, .ref m12, .ref m13], ai m1 cyI 21 (f3 fh uh th), ai m2 cyI 21 (f3 (upd xg0 i (num (xg0 i) (xk0 i))) ug tg), ai m3 cyI 21 (f3 ff uf tf), ai m4 cyI 21 (f3 (upd xk0 i 0) uk tk), ai m5 cyI 3 (t3 vs us ts), ai m6 cyI 3 (t3 vb ub tb), ai m7 cyI 3 (t3 vd ud td), ai m8 cyI 3 (nF ct), ai m9 cyI 36 (q12 kd), ai m10 cyI 36 (q12 vl), ai m11 cyI 7 fr, ai m12 cyI 3 fp, ai m13 cyI 3 bp] := hD
                  refine lv_iinc (v := nI (i + 1)) (lv' := [(3, .int (nI (i + 1))), (2, .int (x + 1)), (4, .int (xg0 i)), (0, .ref m0), (1, .int 0)]) hx hb dX4_endYear_109 hl (k := 4) rfl (ra_inc1 _) (by decide) rfl (fun ls hl => ?_)
                  refine lv_goto (tgt := 7) hx hb dX4_endYear_112 (by decide) ?_
                  exact ih_7 (i + 1) (upd xg0 i (num (xg0 i) (xk0 i))) (upd xk0 i 0) (x + 1) (by omega) (by rw [← he, show n - i = n - (i + 1) + 1 by omega]; show _ = yE num _ _ _ _ (if _ then _ else _); first | (rw [if_pos c_92, Int32.add_zero]; done) | (rw [if_neg c_92]; done)) (by omega) H locs hP hD hS ls (lv_sub hl [3, 4, 1, 0] rfl)
              · ---- on
                refine lv_aload_n hx hb dX4_endYear_76 rfl (lv_at hl 1 rfl) ?_
                refine va_get (D := (dC, dI)) (ci := 4) (v := .ref m2) (C := RX4) (T := TX4) (N := 16) hx hb hts hin_X4 hown hK hP 0 rfl rfl 4 (by decide) hw_3 (fun _ h9 => h9) rfl dX4_endYear_77 ?_
                refine lv_iload_n hx hb dX4_endYear_80 rfl (lv_at hl 4 rfl) ?_
                refine lv_iconst (v := 0) hx hb dX4_endYear_81 (by decide) ?_
                refine ra_iast hx hb hK hP hD hS 2 rfl i rfl (by omega) (Nat.le_of_ble_eq_true rfl) dX4_endYear_82 (fun H locs hP hD hS => ?_)
                rw [f3_w0 _ _ _ _ (by omega)] at hP hD
                have hP : va_P (dC, dI) vwCl [ob m0 4 [.int (nI n), .int kn, .int fz, .ref m1, .ref m2, .ref m3, .ref m4, .ref m5, .ref m6, .ref m7, .ref m8, .ref m9, .ref m10, .ref m11, .ref m12, .ref m13], ai m1 cyI 21 (f3 fh uh th), ai m2 cyI 21 (f3 (upd (upd xg0 i ((xg0 i) + 1)) i 0) ug tg), ai m3 cyI 21 (f3 ff uf tf), ai m4 cyI 21 (f3 xk0 uk tk), ai m5 cyI 3 (t3 vs us ts), ai m6 cyI 3 (t3 vb ub tb), ai m7 cyI 3 (t3 vd ud td), ai m8 cyI 3 (nF ct), ai m9 cyI 36 (q12 kd), ai m10 cyI 36 (q12 vl), ai m11 cyI 7 fr, ai m12 cyI 3 fp, ai m13 cyI 3 bp] H := hP
                have hD : va_D A [ob m0 4 [.int (nI n), .int kn, .int fz, .ref m1, .ref m2, .ref m3, .ref m4, .ref m5, .ref m6, .ref m7, .ref m8, .ref m9, .ref m10, .ref m11, .ref m12, .ref m13], ai m1 cyI 21 (f3 fh uh th), ai m2 cyI 21 (f3 (upd (upd xg0 i ((xg0 i) + 1)) i 0) ug tg), ai m3 cyI 21 (f3 ff uf tf), ai m4 cyI 21 (f3 xk0 uk tk), ai m5 cyI 3 (t3 vs us ts), ai m6 cyI 3 (t3 vb ub tb), ai m7 cyI 3 (t3 vd ud td), ai m8 cyI 3 (nF ct), ai m9 cyI 36 (q12 kd), ai m10 cyI 36 (q12 vl), ai m11 cyI 7 fr, ai m12 cyI 3 fp, ai m13 cyI 3 bp] := hD
                have hnu : num (xg0 i) (xk0 i) = 0 := (if_pos (Int32.not_le.mp c_73))
                rw [upd_twice] at hP hD
                have hP : va_P (dC, dI) vwCl [ob m0 4 [.int (nI n), .int kn, .int fz, .ref m1, .ref m2, .ref m3, .ref m4, .ref m5, .ref m6, .ref m7, .ref m8, .ref m9, .ref m10, .ref m11, .ref m12, .ref m13], ai m1 cyI 21 (f3 fh uh th), ai m2 cyI 21 (f3 (upd xg0 i (num (xg0 i) (xk0 i))) ug tg), ai m3 cyI 21 (f3 ff uf tf), ai m4 cyI 21 (f3 xk0 uk tk), ai m5 cyI 3 (t3 vs us ts), ai m6 cyI 3 (t3 vb ub tb), ai m7 cyI 3 (t3 vd ud td), ai m8 cyI 3 (nF ct), ai m9 cyI 36 (q12 kd), ai m10 cyI 36 (q12 vl), ai m11 cyI 7 fr, ai m12 cyI 3 fp, ai m13 cyI 3 bp] H := by rw [hnu]; exact hP
                have hD : va_D A [ob m0 4 [.int (nI n), .int kn, .int fz, .ref m1, .ref m2, .ref m3, .ref m4, .ref m5, .ref m6, .ref m7, .ref m8, .ref m9, .ref m10, .ref m11, .ref m12, .ref m13], ai m1 cyI 21 (f3 fh uh th), ai m2 cyI 21 (f3 (upd xg0 i (num (xg0 i) (xk0 i))) ug tg), ai m3 cyI 21 (f3 ff uf tf), ai m4 cyI 21 (f3 xk0 uk tk), ai m5 cyI 3 (t3 vs us ts), ai m6 cyI 3 (t3 vb ub tb), ai m7 cyI 3 (t3 vd ud td), ai m8 cyI 3 (nF ct), ai m9 cyI 36 (q12 kd), ai m10 cyI 36 (q12 vl), ai m11 cyI 7 fr, ai m12 cyI 3 fp, ai m13 cyI 3 bp] := by rw [hnu]; exact hD
                refine lv_iload_n hx hb dX4_endYear_83 rfl (lv_at hl 3 rfl) ?_
                refine lv_aload_n hx hb dX4_endYear_84 rfl (lv_at hl 1 rfl) ?_
                refine va_get (D := (dC, dI)) (ci := 4) (v := .ref m2) (C := RX4) (T := TX4) (N := 16) hx hb hts hin_X4 hown hK hP 0 rfl rfl 4 (by decide) hw_3 (fun _ h9 => h9) rfl dX4_endYear_85 ?_
                refine lv_iload_n hx hb dX4_endYear_88 rfl (lv_at hl 4 rfl) ?_
                refine ra_iald hx hb hK hP 2 rfl i rfl (by omega) (Nat.le_of_ble_eq_true rfl) dX4_endYear_89 ?_
                refine ra_top (num (xg0 i) (xk0 i)) (by first | exact (f3_r2 _ _ _ _).trans pk_us | exact (f3_r0 _ _ _ (by omega)).trans pk_us) ?_
                refine lv_iload hx hb dX4_endYear_90 (lv_at hl 0 rfl) ?_
                refine lv_icmp_eq (tgt := 99) hx hb dX4_endYear_92 (by decide) (fun c_92 => ?_) (fun c_92 => ?_)
                · ---- to 99
                  refine lv_iconst (v := 0) hx hb dX4_endYear_99 (by decide) ?_
                  refine lv_iadd hx hb dX4_endYear_100 ?_
                  refine lv_istore_n (lv' := [(2, .int (x + 0)), (4, .int (xg0 i)), (0, .ref m0), (1, .int 0), (3, .int (nI i))]) hx hb dX4_endYear_101 rfl hl (by decide) rfl (fun ls hl => ?_)
                  refine lv_aload_n hx hb dX4_endYear_102 rfl (lv_at hl 2 rfl) ?_
                  refine va_get (D := (dC, dI)) (ci := 4) (v := .ref m4) (C := RX4) (T := TX4) (N := 16) hx hb hts hin_X4 hown hK hP 0 rfl rfl 6 (by decide) hw_4 (fun _ h9 => h9) rfl dX4_endYear_103 ?_
                  refine lv_iload_n hx hb dX4_endYear_106 rfl (lv_at hl 4 rfl) ?_
                  refine lv_iconst (v := 0) hx hb dX4_endYear_107 (by decide) ?_
                  refine ra_iast hx hb hK hP hD hS 4 rfl i rfl (by omega) (Nat.le_of_ble_eq_true rfl) dX4_endYear_108 (fun H locs hP hD hS => ?_)
                  rw [f3_w0 _ _ _ _ (by omega)] at hP hD
                  have hP : va_P (dC, dI) vwCl [ob m0 4 [.int (nI n), .int kn, .int fz, .ref m1, .ref m2, .ref m3, .ref m4, .ref m5, .ref m6, .ref m7, .ref m8, .ref m9, .ref m10, .ref m11, .ref m12, .ref m13], ai m1 cyI 21 (f3 fh uh th), ai m2 cyI 21 (f3 (upd xg0 i (num (xg0 i) (xk0 i))) ug tg), ai m3 cyI 21 (f3 ff uf tf), ai m4 cyI 21 (f3 (upd xk0 i 0) uk tk), ai m5 cyI 3 (t3 vs us ts), ai m6 cyI 3 (t3 vb ub tb), ai m7 cyI 3 (t3 vd ud td), ai m8 cyI 3 (nF ct), ai m9 cyI 36 (q12 kd), ai m10 cyI 36 (q12 vl), ai m11 cyI 7 fr, ai m12 cyI 3 fp, ai m13 cyI 3 bp] H := hP
                  have hD : va_D A [ob m0 4 [.int (nI n), .int kn, .int fz, .ref m1, .ref m2, .ref m3, .ref m4, .ref m5, .ref m6, .ref m7, .ref m8, .ref m9, .ref m10, .ref m11, .ref m12, .ref m13], ai m1 cyI 21 (f3 fh uh th), ai m2 cyI 21 (f3 (upd xg0 i (num (xg0 i) (xk0 i))) ug tg), ai m3 cyI 21 (f3 ff uf tf), ai m4 cyI 21 (f3 (upd xk0 i 0) uk tk), ai m5 cyI 3 (t3 vs us ts), ai m6 cyI 3 (t3 vb ub tb), ai m7 cyI 3 (t3 vd ud td), ai m8 cyI 3 (nF ct), ai m9 cyI 36 (q12 kd), ai m10 cyI 36 (q12 vl), ai m11 cyI 7 fr, ai m12 cyI 3 fp, ai m13 cyI 3 bp] := hD
                  refine lv_iinc (v := nI (i + 1)) (lv' := [(3, .int (nI (i + 1))), (2, .int (x + 0)), (4, .int (xg0 i)), (0, .ref m0), (1, .int 0)]) hx hb dX4_endYear_109 hl (k := 4) rfl (ra_inc1 _) (by decide) rfl (fun ls hl => ?_)
                  refine lv_goto (tgt := 7) hx hb dX4_endYear_112 (by decide) ?_
                  exact ih_7 (i + 1) (upd xg0 i (num (xg0 i) (xk0 i))) (upd xk0 i 0) (x + 0) (by omega) (by rw [← he, show n - i = n - (i + 1) + 1 by omega]; show _ = yE num _ _ _ _ (if _ then _ else _); first | (rw [if_pos c_92, Int32.add_zero]; done) | (rw [if_neg c_92]; done)) (by omega) H locs hP hD hS ls (lv_sub hl [3, 4, 1, 0] rfl)
                · ---- on
                  refine lv_iconst (v := 1) hx hb dX4_endYear_95 (by decide) ?_
                  refine lv_goto (tgt := 100) hx hb dX4_endYear_96 (by decide) ?_
                  refine lv_iadd hx hb dX4_endYear_100 ?_
                  refine lv_istore_n (lv' := [(2, .int (x + 1)), (4, .int (xg0 i)), (0, .ref m0), (1, .int 0), (3, .int (nI i))]) hx hb dX4_endYear_101 rfl hl (by decide) rfl (fun ls hl => ?_)
                  refine lv_aload_n hx hb dX4_endYear_102 rfl (lv_at hl 2 rfl) ?_
                  refine va_get (D := (dC, dI)) (ci := 4) (v := .ref m4) (C := RX4) (T := TX4) (N := 16) hx hb hts hin_X4 hown hK hP 0 rfl rfl 6 (by decide) hw_4 (fun _ h9 => h9) rfl dX4_endYear_103 ?_
                  refine lv_iload_n hx hb dX4_endYear_106 rfl (lv_at hl 4 rfl) ?_
                  refine lv_iconst (v := 0) hx hb dX4_endYear_107 (by decide) ?_
                  refine ra_iast hx hb hK hP hD hS 4 rfl i rfl (by omega) (Nat.le_of_ble_eq_true rfl) dX4_endYear_108 (fun H locs hP hD hS => ?_)
                  rw [f3_w0 _ _ _ _ (by omega)] at hP hD
                  have hP : va_P (dC, dI) vwCl [ob m0 4 [.int (nI n), .int kn, .int fz, .ref m1, .ref m2, .ref m3, .ref m4, .ref m5, .ref m6, .ref m7, .ref m8, .ref m9, .ref m10, .ref m11, .ref m12, .ref m13], ai m1 cyI 21 (f3 fh uh th), ai m2 cyI 21 (f3 (upd xg0 i (num (xg0 i) (xk0 i))) ug tg), ai m3 cyI 21 (f3 ff uf tf), ai m4 cyI 21 (f3 (upd xk0 i 0) uk tk), ai m5 cyI 3 (t3 vs us ts), ai m6 cyI 3 (t3 vb ub tb), ai m7 cyI 3 (t3 vd ud td), ai m8 cyI 3 (nF ct), ai m9 cyI 36 (q12 kd), ai m10 cyI 36 (q12 vl), ai m11 cyI 7 fr, ai m12 cyI 3 fp, ai m13 cyI 3 bp] H := hP
                  have hD : va_D A [ob m0 4 [.int (nI n), .int kn, .int fz, .ref m1, .ref m2, .ref m3, .ref m4, .ref m5, .ref m6, .ref m7, .ref m8, .ref m9, .ref m10, .ref m11, .ref m12, .ref m13], ai m1 cyI 21 (f3 fh uh th), ai m2 cyI 21 (f3 (upd xg0 i (num (xg0 i) (xk0 i))) ug tg), ai m3 cyI 21 (f3 ff uf tf), ai m4 cyI 21 (f3 (upd xk0 i 0) uk tk), ai m5 cyI 3 (t3 vs us ts), ai m6 cyI 3 (t3 vb ub tb), ai m7 cyI 3 (t3 vd ud td), ai m8 cyI 3 (nF ct), ai m9 cyI 36 (q12 kd), ai m10 cyI 36 (q12 vl), ai m11 cyI 7 fr, ai m12 cyI 3 fp, ai m13 cyI 3 bp] := hD
                  refine lv_iinc (v := nI (i + 1)) (lv' := [(3, .int (nI (i + 1))), (2, .int (x + 1)), (4, .int (xg0 i)), (0, .ref m0), (1, .int 0)]) hx hb dX4_endYear_109 hl (k := 4) rfl (ra_inc1 _) (by decide) rfl (fun ls hl => ?_)
                  refine lv_goto (tgt := 7) hx hb dX4_endYear_112 (by decide) ?_
                  exact ih_7 (i + 1) (upd xg0 i (num (xg0 i) (xk0 i))) (upd xk0 i 0) (x + 1) (by omega) (by rw [← he, show n - i = n - (i + 1) + 1 by omega]; show _ = yE num _ _ _ _ (if _ then _ else _); first | (rw [if_pos c_92, Int32.add_zero]; done) | (rw [if_neg c_92]; done)) (by omega) H locs hP hD hS ls (lv_sub hl [3, 4, 1, 0] rfl)
  exact L_7 _ 0 fg fk 0 (by omega) rfl (Nat.lt_succ_self _) H locs hP hD hS ls (lv_sub hl [2, 3, 1, 0] rfl)

set_option maxHeartbeats 4000000 in
set_option maxRecDepth 100000 in
theorem c_X4_crestOf0 (l : Launch) (dC : Nat → ClassId) (dI : Nat → Nat → Nat) (cyI cyA : ClassId) (m0 m1 m2 m3 m4 m5 m6 m7 m8 m9 m10 m11 m12 m13 n : Nat) (kn fz : Int32) (fh fg ff fk uh ug uf uk th tg tf tk : FN) (vs vb vd us ub ud ts tb td : Int32) (ct : Nat → Nat) (kd vl : Nat → FN) (fr fp bp : FN) (hn : n ≤ 7) : Met l yX4_crestOf wsX4_crestOf (rm 0) (kR dC dI cyI cyA [.ref m0, .int 0] [ob m0 4 [.int (nI n), .int kn, .int fz, .ref m1, .ref m2, .ref m3, .ref m4, .ref m5, .ref m6, .ref m7, .ref m8, .ref m9, .ref m10, .ref m11, .ref m12, .ref m13], ai m1 cyI 21 (f3 fh uh th), ai m2 cyI 21 (f3 fg ug tg), ai m3 cyI 21 (f3 ff uf tf), ai m4 cyI 21 (f3 fk uk tk), ai m5 cyI 3 (t3 vs us ts), ai m6 cyI 3 (t3 vb ub tb), ai m7 cyI 3 (t3 vd ud td), ai m8 cyI 3 (nF ct), ai m9 cyI 36 (q12 kd), ai m10 cyI 36 (q12 vl), ai m11 cyI 7 fr, ai m12 cyI 3 fp, ai m13 cyI 3 bp]) (QcRead (gMax fh n 0 0)) 0 0 (fun _ => False) := by
  refine ra_metR (cc := cX4_crestOf) (maxL := 4) (by decide) rfl (Nat.le_of_ble_eq_true rfl) ?_
  intro p e s m below meth c args Q hQ hx hb hr hlocks hml hts hown hK hN hP ls hl
  have hl : lv_has ls 4 [(0, .ref m0), (1, .int 0)] := hl
  have hown : s.vm.findClass RX4 = some m.cls := hown
  have hw_1 := hts (.fieldLink RX4 7 "DuneBenchModel" "n" "I") (by decide +kernel)
  have hin_X4 : ∀ w ∈ u_ws RX4 TX4 16, w ∈ wsX4_crestOf := by decide +kernel
  have hw_3 := hts (.fieldLink RX4 16 "DuneBenchModel" "height" "[I") (by decide +kernel)
  refine lv_iconst (v := 0) hx hb dX4_crestOf_0 (by decide) ?_
  refine lv_istore_n (lv' := [(2, .int 0), (0, .ref m0), (1, .int 0)]) hx hb dX4_crestOf_1 rfl hl (by decide) rfl (fun ls hl => ?_)
  refine lv_iconst (v := 0) hx hb dX4_crestOf_2 (by decide) ?_
  refine lv_istore_n (lv' := [(3, .int 0), (2, .int 0), (0, .ref m0), (1, .int 0)]) hx hb dX4_crestOf_3 rfl hl (by decide) rfl (fun ls hl => ?_)
  have L_4 : ∀ (n9 : Nat) (i : Nat) (x : Int32), (i ≤ n) → (gMax fh (n - i) i x = gMax fh n 0 0) → (n - i) < n9 → ∀ ls : Array Slot, lv_has ls 4 [(0, .ref m0), (1, .int 0), (2, .int x), (3, .int (nI i))] → W p l e (rm 0) s m args below meth c s.heap [] 0 0 Q (F0 m 4 ls []) := by
    intro n9
    induction n9 with
    | zero =>
      intro i x hi he hm9
      exact absurd hm9 (Nat.not_lt_zero _)
    | succ n9 ih_4 =>
      intro i x hi he hm9 ls hl
      refine lv_iload_n hx hb dX4_crestOf_4 rfl (lv_at hl 3 rfl) ?_
      refine lv_aload_n hx hb dX4_crestOf_5 rfl (lv_at hl 0 rfl) ?_
      refine va_get (D := (dC, dI)) (ci := 4) (v := .int (nI n)) (C := RX4) (T := TX4) (N := 16) hx hb hts hin_X4 hown hK hP 0 rfl rfl 0 (by decide) hw_1 (fun _ h9 => h9) rfl dX4_crestOf_6 ?_
      refine lv_icmp_ge (tgt := 49) hx hb dX4_crestOf_9 (by decide) (fun c_9 => ?_) (fun c_9 => ?_)
      · ---- to 49
        have n_9 := (nq_le n i (by omega) (by omega)).mp c_9
        refine lv_iload_n hx hb dX4_crestOf_49 rfl (lv_at hl 2 rfl) ?_
        rw [hQ]
        exact ra_iretR hx hb hr hlocks rfl (by rw [← he, show n - i = 0 by omega]; rfl) dX4_crestOf_50
      · ---- on
        have n_9 := (nq_le_n n i (by omega) (by omega)).mp c_9
        refine lv_aload_n hx hb dX4_crestOf_12 rfl (lv_at hl 0 rfl) ?_
        refine va_get (D := (dC, dI)) (ci := 4) (v := .ref m1) (C := RX4) (T := TX4) (N := 16) hx hb hts hin_X4 hown hK hP 0 rfl rfl 3 (by decide) hw_3 (fun _ h9 => h9) rfl dX4_crestOf_13 ?_
        refine lv_bipush (v := 7) hx hb dX4_crestOf_16 (by decide) ?_
        refine lv_iload_n hx hb dX4_crestOf_18 rfl (lv_at hl 1 rfl) ?_
        refine lv_imul hx hb dX4_crestOf_19 ?_
        refine ra_top (0) (by decide) ?_
        refine lv_iload_n hx hb dX4_crestOf_20 rfl (lv_at hl 3 rfl) ?_
        refine lv_iadd hx hb dX4_crestOf_21 ?_
        refine ra_top (nI i) (Int32.zero_add _) ?_
        refine ra_iald hx hb hK hP 1 rfl i rfl (by omega) (Nat.le_of_ble_eq_true rfl) dX4_crestOf_22 ?_
        refine ra_top (fh i) (f3_r0 _ _ _ (by omega)) ?_
        refine lv_iload_n hx hb dX4_crestOf_23 rfl (lv_at hl 2 rfl) ?_
        have J_42_1 : ∀ v_42_1 : Int32, v_42_1 = (jmax x (fh i)) → W p l e (rm 0) s m args below meth c s.heap [] 0 0 Q (F0 m 42 ls [.int v_42_1]) := by
          intro v_42_1 ev_42_1
          subst ev_42_1
          refine lv_istore_n (lv' := [(2, .int (jmax x (fh i))), (0, .ref m0), (1, .int 0), (3, .int (nI i))]) hx hb dX4_crestOf_42 rfl hl (by decide) rfl (fun ls hl => ?_)
          refine lv_iinc (v := nI (i + 1)) (lv' := [(3, .int (nI (i + 1))), (2, .int (jmax x (fh i))), (0, .ref m0), (1, .int 0)]) hx hb dX4_crestOf_43 hl (k := 3) rfl (ra_inc1 _) (by decide) rfl (fun ls hl => ?_)
          refine lv_goto (tgt := 4) hx hb dX4_crestOf_46 (by decide) ?_
          exact ih_4 (i + 1) (jmax x (fh i)) (by omega) (by rw [← he, show n - i = n - (i + 1) + 1 by omega]; rfl) (by omega) ls (lv_sub hl [2, 3, 1, 0] rfl)
        refine lv_icmp_le (tgt := 41) hx hb dX4_crestOf_24 (by decide) (fun c_24 => ?_) (fun c_24 => ?_)
        · ---- to 41
          refine lv_iload_n hx hb dX4_crestOf_41 rfl (lv_at hl 2 rfl) ?_
          exact J_42_1 _ (by unfold jmax; first | (rw [if_neg (Int32.not_lt.mpr c_24)]; done) | (rw [if_pos (Int32.not_le.mp c_24)]; done))
        · ---- on
          refine lv_aload_n hx hb dX4_crestOf_27 rfl (lv_at hl 0 rfl) ?_
          refine va_get (D := (dC, dI)) (ci := 4) (v := .ref m1) (C := RX4) (T := TX4) (N := 16) hx hb hts hin_X4 hown hK hP 0 rfl rfl 3 (by decide) hw_3 (fun _ h9 => h9) rfl dX4_crestOf_28 ?_
          refine lv_bipush (v := 7) hx hb dX4_crestOf_31 (by decide) ?_
          refine lv_iload_n hx hb dX4_crestOf_33 rfl (lv_at hl 1 rfl) ?_
          refine lv_imul hx hb dX4_crestOf_34 ?_
          refine ra_top (0) (by decide) ?_
          refine lv_iload_n hx hb dX4_crestOf_35 rfl (lv_at hl 3 rfl) ?_
          refine lv_iadd hx hb dX4_crestOf_36 ?_
          refine ra_top (nI i) (Int32.zero_add _) ?_
          refine ra_iald hx hb hK hP 1 rfl i rfl (by omega) (Nat.le_of_ble_eq_true rfl) dX4_crestOf_37 ?_
          refine ra_top (fh i) (f3_r0 _ _ _ (by omega)) ?_
          refine lv_goto (tgt := 42) hx hb dX4_crestOf_38 (by decide) ?_
          exact J_42_1 _ (by unfold jmax; first | (rw [if_neg (Int32.not_lt.mpr c_24)]; done) | (rw [if_pos (Int32.not_le.mp c_24)]; done))
  exact L_4 _ 0 0 (by omega) rfl (Nat.lt_succ_self _) ls (lv_sub hl [2, 3, 1, 0] rfl)

set_option maxHeartbeats 4000000 in
set_option maxRecDepth 100000 in
theorem c_X4_keeps2 (l : Launch) (dC : Nat → ClassId) (dI : Nat → Nat → Nat) (cyI cyA : ClassId) (m0 m1 m2 m3 m4 m5 m6 m7 m8 m9 m10 m11 m12 m13 n : Nat) (kn fz : Int32) (fh fg ff fk uh ug uf uk th tg tf tk : FN) (vs vb vd us ub ud ts tb td : Int32) (ct : Nat → Nat) (kd vl : Nat → FN) (fr fp bp : FN) (j : Nat) (x : Int32) (hj : j < 7) (sz : Nat) : Met l yX4_keeps wsX4_keeps (rm 0) (kW dC dI cyI cyA [.ref m0, .int (nI (14 + j)), .int x] sz [ob m0 4 [.int (nI n), .int kn, .int fz, .ref m1, .ref m2, .ref m3, .ref m4, .ref m5, .ref m6, .ref m7, .ref m8, .ref m9, .ref m10, .ref m11, .ref m12, .ref m13], ai m1 cyI 21 (f3 fh uh th), ai m2 cyI 21 (f3 fg ug tg), ai m3 cyI 21 (f3 ff uf tf), ai m4 cyI 21 (f3 fk uk tk), ai m5 cyI 3 (t3 vs us ts), ai m6 cyI 3 (t3 vb ub tb), ai m7 cyI 3 (t3 vd ud td), ai m8 cyI 3 (nF ct), ai m9 cyI 36 (q12 kd), ai m10 cyI 36 (q12 vl), ai m11 cyI 7 fr, ai m12 cyI 3 fp, ai m13 cyI 3 bp]) (qI dC dI cyI cyA (fun (r : Int32) (_ : Unit) => r = heldv th tg tf j x) (va_A [ob m0 4 [.int (nI n), .int kn, .int fz, .ref m1, .ref m2, .ref m3, .ref m4, .ref m5, .ref m6, .ref m7, .ref m8, .ref m9, .ref m10, .ref m11, .ref m12, .ref m13], ai m1 cyI 21 (f3 fh uh th), ai m2 cyI 21 (f3 fg ug tg), ai m3 cyI 21 (f3 ff uf tf), ai m4 cyI 21 (f3 fk uk tk), ai m5 cyI 3 (t3 vs us ts), ai m6 cyI 3 (t3 vb ub tb), ai m7 cyI 3 (t3 vd ud td), ai m8 cyI 3 (nF ct), ai m9 cyI 36 (q12 kd), ai m10 cyI 36 (q12 vl), ai m11 cyI 7 fr, ai m12 cyI 3 fp, ai m13 cyI 3 bp] sz) (fun _ => [ob m0 4 [.int (nI n), .int kn, .int fz, .ref m1, .ref m2, .ref m3, .ref m4, .ref m5, .ref m6, .ref m7, .ref m8, .ref m9, .ref m10, .ref m11, .ref m12, .ref m13], ai m1 cyI 21 (f3 fh uh (upd th j (th j + heldv th tg tf j x))), ai m2 cyI 21 (f3 fg ug tg), ai m3 cyI 21 (f3 ff uf (upd tf j (tf j - phm (heldv th tg tf j x) (1 + 2 * tg j)))), ai m4 cyI 21 (f3 fk uk (upd tk j (tk j + heldv th tg tf j x))), ai m5 cyI 3 (t3 vs us ts), ai m6 cyI 3 (t3 vb ub tb), ai m7 cyI 3 (t3 vd ud td), ai m8 cyI 3 (nF ct), ai m9 cyI 36 (q12 kd), ai m10 cyI 36 (q12 vl), ai m11 cyI 7 fr, ai m12 cyI 3 fp, ai m13 cyI 3 bp])) 0 0 (va_A [ob m0 4 [.int (nI n), .int kn, .int fz, .ref m1, .ref m2, .ref m3, .ref m4, .ref m5, .ref m6, .ref m7, .ref m8, .ref m9, .ref m10, .ref m11, .ref m12, .ref m13], ai m1 cyI 21 (f3 fh uh th), ai m2 cyI 21 (f3 fg ug tg), ai m3 cyI 21 (f3 ff uf tf), ai m4 cyI 21 (f3 fk uk tk), ai m5 cyI 3 (t3 vs us ts), ai m6 cyI 3 (t3 vb ub tb), ai m7 cyI 3 (t3 vd ud td), ai m8 cyI 3 (nF ct), ai m9 cyI 36 (q12 kd), ai m10 cyI 36 (q12 vl), ai m11 cyI 7 fr, ai m12 cyI 3 fp, ai m13 cyI 3 bp] sz) := by
  refine ra_metW (cc := cX4_keeps) (maxL := 6) (Qc := fun A => qI dC dI cyI cyA (fun (r : Int32) (_ : Unit) => r = heldv th tg tf j x) A (fun _ => [ob m0 4 [.int (nI n), .int kn, .int fz, .ref m1, .ref m2, .ref m3, .ref m4, .ref m5, .ref m6, .ref m7, .ref m8, .ref m9, .ref m10, .ref m11, .ref m12, .ref m13], ai m1 cyI 21 (f3 fh uh (upd th j (th j + heldv th tg tf j x))), ai m2 cyI 21 (f3 fg ug tg), ai m3 cyI 21 (f3 ff uf (upd tf j (tf j - phm (heldv th tg tf j x) (1 + 2 * tg j)))), ai m4 cyI 21 (f3 fk uk (upd tk j (tk j + heldv th tg tf j x))), ai m5 cyI 3 (t3 vs us ts), ai m6 cyI 3 (t3 vb ub tb), ai m7 cyI 3 (t3 vd ud td), ai m8 cyI 3 (nF ct), ai m9 cyI 36 (q12 kd), ai m10 cyI 36 (q12 vl), ai m11 cyI 7 fr, ai m12 cyI 3 fp, ai m13 cyI 3 bp])) (by decide) rfl (Nat.le_of_ble_eq_true rfl) ?_
  intro p e s m below meth c A args Q hQ hx hb hr hlocks hml hts hown hnm hK hN hP hD hA hS ls hl
  have hl : lv_has ls 6 [(0, .ref m0), (1, .int (nI (14 + j))), (2, .int x)] := hl
  have hown : s.vm.findClass RX4 = some m.cls := hown
  have hw_1 := hts (.fieldLink RX4 20 "DuneBenchModel" "grass" "[I") (by decide +kernel)
  have hin_X4 : ∀ w ∈ u_ws RX4 TX4 16, w ∈ wsX4_keeps := by decide +kernel
  have hw_3 := hts (.fieldLink RX4 23 "DuneBenchModel" "fence" "[I") (by decide +kernel)
  have hw_4 := hts (.fieldLink RX4 16 "DuneBenchModel" "height" "[I") (by decide +kernel)
  have hw_5 := hts (.fieldLink RX4 26 "DuneBenchModel" "gained" "[I") (by decide +kernel)
  obtain ⟨H, hHe⟩ : ∃ H, H = s.heap := ⟨_, rfl⟩
  obtain ⟨locs, hLe⟩ : ∃ locs : List Loc, locs = [] := ⟨_, rfl⟩
  have hP : va_P (dC, dI) vwCl [ob m0 4 [.int (nI n), .int kn, .int fz, .ref m1, .ref m2, .ref m3, .ref m4, .ref m5, .ref m6, .ref m7, .ref m8, .ref m9, .ref m10, .ref m11, .ref m12, .ref m13], ai m1 cyI 21 (f3 fh uh th), ai m2 cyI 21 (f3 fg ug tg), ai m3 cyI 21 (f3 ff uf tf), ai m4 cyI 21 (f3 fk uk tk), ai m5 cyI 3 (t3 vs us ts), ai m6 cyI 3 (t3 vb ub tb), ai m7 cyI 3 (t3 vd ud td), ai m8 cyI 3 (nF ct), ai m9 cyI 36 (q12 kd), ai m10 cyI 36 (q12 vl), ai m11 cyI 7 fr, ai m12 cyI 3 fp, ai m13 cyI 3 bp] H := by rw [hHe]; exact hP
  have hS : va_S A s.heap H locs := by rw [hHe, hLe]; exact hS
  suffices hgo : W p l e (rm 0) s m args below meth c H locs 0 0 Q (F0 m 0 ls []) by rw [hHe, hLe] at hgo; exact hgo
  refine lv_iconst (v := 1) hx hb dX4_keeps_0 (by decide) ?_
  refine lv_iconst (v := 2) hx hb dX4_keeps_1 (by decide) ?_
  refine lv_aload_n hx hb dX4_keeps_2 rfl (lv_at hl 0 rfl) ?_
  refine va_get (D := (dC, dI)) (ci := 4) (v := .ref m2) (C := RX4) (T := TX4) (N := 16) hx hb hts hin_X4 hown hK hP 0 rfl rfl 4 (by decide) hw_1 (fun _ h9 => h9) rfl dX4_keeps_3 ?_
  refine lv_iload_n hx hb dX4_keeps_6 rfl (lv_at hl 1 rfl) ?_
  refine ra_iald hx hb hK hP 2 rfl (14 + j) rfl (by omega) (Nat.le_of_ble_eq_true rfl) dX4_keeps_7 ?_
  refine ra_top (tg j) (f3_r2 _ _ _ _) ?_
  refine lv_imul hx hb dX4_keeps_8 ?_
  refine lv_iadd hx hb dX4_keeps_9 ?_
  refine lv_istore_n (lv' := [(3, .int (1 + (2 * (tg j)))), (0, .ref m0), (1, .int (nI (14 + j))), (2, .int x)]) hx hb dX4_keeps_10 rfl hl (by decide) rfl (fun ls hl => ?_)
  refine lv_iload_n hx hb dX4_keeps_11 rfl (lv_at hl 0 rfl) ?_
  refine lv_aload_n hx hb dX4_keeps_12 rfl (lv_at hl 1 rfl) ?_
  refine va_get (D := (dC, dI)) (ci := 4) (v := .ref m3) (C := RX4) (T := TX4) (N := 16) hx hb hts hin_X4 hown hK hP 0 rfl rfl 5 (by decide) hw_3 (fun _ h9 => h9) rfl dX4_keeps_13 ?_
  refine lv_iload_n hx hb dX4_keeps_16 rfl (lv_at hl 2 rfl) ?_
  refine ra_iald hx hb hK hP 3 rfl (14 + j) rfl (by omega) (Nat.le_of_ble_eq_true rfl) dX4_keeps_17 ?_
  refine ra_top (tf j) (f3_r2 _ _ _ _) ?_
  refine lv_iadd hx hb dX4_keeps_18 ?_
  refine lv_istore (lv' := [(4, .int ((1 + (2 * (tg j))) + (tf j))), (3, .int (1 + (2 * (tg j)))), (0, .ref m0), (1, .int (nI (14 + j))), (2, .int x)]) hx hb dX4_keeps_19 hl (by decide) rfl (fun ls hl => ?_)
  refine lv_iload hx hb dX4_keeps_21 (lv_at hl 0 rfl) ?_
  refine lv_bipush (v := 99) hx hb dX4_keeps_23 (by decide) ?_
  refine lv_aload_n hx hb dX4_keeps_25 rfl (lv_at hl 2 rfl) ?_
  refine va_get (D := (dC, dI)) (ci := 4) (v := .ref m1) (C := RX4) (T := TX4) (N := 16) hx hb hts hin_X4 hown hK hP 0 rfl rfl 3 (by decide) hw_4 (fun _ h9 => h9) rfl dX4_keeps_26 ?_
  refine lv_iload_n hx hb dX4_keeps_29 rfl (lv_at hl 3 rfl) ?_
  refine ra_iald hx hb hK hP 1 rfl (14 + j) rfl (by omega) (Nat.le_of_ble_eq_true rfl) dX4_keeps_30 ?_
  refine ra_top (th j) (f3_r2 _ _ _ _) ?_
  refine lv_isub hx hb dX4_keeps_31 ?_
  have J_49_1 : ∀ v_49_1 : Int32, v_49_1 = (jmin (1 + 2 * tg j + tf j) (99 - th j)) → W p l e (rm 0) s m args below meth c H locs 0 0 Q (F0 m 49 ls [.int v_49_1]) := by
    intro v_49_1 ev_49_1
    subst ev_49_1
    refine lv_istore (lv' := [(4, .int (jmin (1 + 2 * tg j + tf j) (99 - th j))), (3, .int (1 + (2 * (tg j)))), (0, .ref m0), (1, .int (nI (14 + j))), (2, .int x)]) hx hb dX4_keeps_49 hl (by decide) rfl (fun ls hl => ?_)
    refine lv_iload_n hx hb dX4_keeps_51 rfl (lv_at hl 4 rfl) ?_
    refine lv_iload hx hb dX4_keeps_52 (lv_at hl 0 rfl) ?_
    have J_63_2 : ∀ v_63_2 : Int32, v_63_2 = (heldv th tg tf j x) → W p l e (rm 0) s m args below meth c H locs 0 0 Q (F0 m 63 ls [.int v_63_2]) := by
      intro v_63_2 ev_63_2
      subst ev_63_2
      refine lv_istore (lv' := [(5, .int (heldv th tg tf j x)), (4, .int (jmin (1 + 2 * tg j + tf j) (99 - th j))), (3, .int (1 + (2 * (tg j)))), (0, .ref m0), (1, .int (nI (14 + j))), (2, .int x)]) hx hb dX4_keeps_63 hl (by decide) rfl (fun ls hl => ?_)
      refine lv_aload_n hx hb dX4_keeps_65 rfl (lv_at hl 3 rfl) ?_
      refine va_get (D := (dC, dI)) (ci := 4) (v := .ref m1) (C := RX4) (T := TX4) (N := 16) hx hb hts hin_X4 hown hK hP 0 rfl rfl 3 (by decide) hw_4 (fun _ h9 => h9) rfl dX4_keeps_66 ?_
      refine lv_iload_n hx hb dX4_keeps_69 rfl (lv_at hl 4 rfl) ?_
      refine lv_dup2_11 hx hb dX4_keeps_70 rfl rfl ?_
      refine ra_iald hx hb hK hP 1 rfl (14 + j) rfl (by omega) (Nat.le_of_ble_eq_true rfl) dX4_keeps_71 ?_
      refine ra_top (th j) (f3_r2 _ _ _ _) ?_
      refine lv_iload hx hb dX4_keeps_72 (lv_at hl 0 rfl) ?_
      refine lv_iadd hx hb dX4_keeps_74 ?_
      refine ra_iast hx hb hK hP hD hS 1 rfl (14 + j) rfl (by omega) (Nat.le_of_ble_eq_true rfl) dX4_keeps_75 (fun H locs hP hD hS => ?_)
      rw [f3_w2] at hP hD
      have hP : va_P (dC, dI) vwCl [ob m0 4 [.int (nI n), .int kn, .int fz, .ref m1, .ref m2, .ref m3, .ref m4, .ref m5, .ref m6, .ref m7, .ref m8, .ref m9, .ref m10, .ref m11, .ref m12, .ref m13], ai m1 cyI 21 (f3 fh uh (upd th j ((th j) + (heldv th tg tf j x)))), ai m2 cyI 21 (f3 fg ug tg), ai m3 cyI 21 (f3 ff uf tf), ai m4 cyI 21 (f3 fk uk tk), ai m5 cyI 3 (t3 vs us ts), ai m6 cyI 3 (t3 vb ub tb), ai m7 cyI 3 (t3 vd ud td), ai m8 cyI 3 (nF ct), ai m9 cyI 36 (q12 kd), ai m10 cyI 36 (q12 vl), ai m11 cyI 7 fr, ai m12 cyI 3 fp, ai m13 cyI 3 bp] H := hP
      have hD : va_D A [ob m0 4 [.int (nI n), .int kn, .int fz, .ref m1, .ref m2, .ref m3, .ref m4, .ref m5, .ref m6, .ref m7, .ref m8, .ref m9, .ref m10, .ref m11, .ref m12, .ref m13], ai m1 cyI 21 (f3 fh uh (upd th j ((th j) + (heldv th tg tf j x)))), ai m2 cyI 21 (f3 fg ug tg), ai m3 cyI 21 (f3 ff uf tf), ai m4 cyI 21 (f3 fk uk tk), ai m5 cyI 3 (t3 vs us ts), ai m6 cyI 3 (t3 vb ub tb), ai m7 cyI 3 (t3 vd ud td), ai m8 cyI 3 (nF ct), ai m9 cyI 36 (q12 kd), ai m10 cyI 36 (q12 vl), ai m11 cyI 7 fr, ai m12 cyI 3 fp, ai m13 cyI 3 bp] := hD
      refine lv_aload_n hx hb dX4_keeps_76 rfl (lv_at hl 3 rfl) ?_
      refine va_get (D := (dC, dI)) (ci := 4) (v := .ref m4) (C := RX4) (T := TX4) (N := 16) hx hb hts hin_X4 hown hK hP 0 rfl rfl 6 (by decide) hw_5 (fun _ h9 => h9) rfl dX4_keeps_77 ?_
      refine lv_iload_n hx hb dX4_keeps_80 rfl (lv_at hl 4 rfl) ?_
      refine lv_dup2_11 hx hb dX4_keeps_81 rfl rfl ?_
      refine ra_iald hx hb hK hP 4 rfl (14 + j) rfl (by omega) (Nat.le_of_ble_eq_true rfl) dX4_keeps_82 ?_
      refine ra_top (tk j) (f3_r2 _ _ _ _) ?_
      refine lv_iload hx hb dX4_keeps_83 (lv_at hl 0 rfl) ?_
      refine lv_iadd hx hb dX4_keeps_85 ?_
      refine ra_iast hx hb hK hP hD hS 4 rfl (14 + j) rfl (by omega) (Nat.le_of_ble_eq_true rfl) dX4_keeps_86 (fun H locs hP hD hS => ?_)
      rw [f3_w2] at hP hD
      have hP : va_P (dC, dI) vwCl [ob m0 4 [.int (nI n), .int kn, .int fz, .ref m1, .ref m2, .ref m3, .ref m4, .ref m5, .ref m6, .ref m7, .ref m8, .ref m9, .ref m10, .ref m11, .ref m12, .ref m13], ai m1 cyI 21 (f3 fh uh (upd th j ((th j) + (heldv th tg tf j x)))), ai m2 cyI 21 (f3 fg ug tg), ai m3 cyI 21 (f3 ff uf tf), ai m4 cyI 21 (f3 fk uk (upd tk j ((tk j) + (heldv th tg tf j x)))), ai m5 cyI 3 (t3 vs us ts), ai m6 cyI 3 (t3 vb ub tb), ai m7 cyI 3 (t3 vd ud td), ai m8 cyI 3 (nF ct), ai m9 cyI 36 (q12 kd), ai m10 cyI 36 (q12 vl), ai m11 cyI 7 fr, ai m12 cyI 3 fp, ai m13 cyI 3 bp] H := hP
      have hD : va_D A [ob m0 4 [.int (nI n), .int kn, .int fz, .ref m1, .ref m2, .ref m3, .ref m4, .ref m5, .ref m6, .ref m7, .ref m8, .ref m9, .ref m10, .ref m11, .ref m12, .ref m13], ai m1 cyI 21 (f3 fh uh (upd th j ((th j) + (heldv th tg tf j x)))), ai m2 cyI 21 (f3 fg ug tg), ai m3 cyI 21 (f3 ff uf tf), ai m4 cyI 21 (f3 fk uk (upd tk j ((tk j) + (heldv th tg tf j x)))), ai m5 cyI 3 (t3 vs us ts), ai m6 cyI 3 (t3 vb ub tb), ai m7 cyI 3 (t3 vd ud td), ai m8 cyI 3 (nF ct), ai m9 cyI 36 (q12 kd), ai m10 cyI 36 (q12 vl), ai m11 cyI 7 fr, ai m12 cyI 3 fp, ai m13 cyI 3 bp] := hD
      refine lv_aload_n hx hb dX4_keeps_87 rfl (lv_at hl 3 rfl) ?_
      refine va_get (D := (dC, dI)) (ci := 4) (v := .ref m3) (C := RX4) (T := TX4) (N := 16) hx hb hts hin_X4 hown hK hP 0 rfl rfl 5 (by decide) hw_3 (fun _ h9 => h9) rfl dX4_keeps_88 ?_
      refine lv_iload_n hx hb dX4_keeps_91 rfl (lv_at hl 4 rfl) ?_
      refine lv_dup2_11 hx hb dX4_keeps_92 rfl rfl ?_
      refine ra_iald hx hb hK hP 3 rfl (14 + j) rfl (by omega) (Nat.le_of_ble_eq_true rfl) dX4_keeps_93 ?_
      refine ra_top (tf j) (f3_r2 _ _ _ _) ?_
      refine lv_iload hx hb dX4_keeps_94 (lv_at hl 0 rfl) ?_
      refine lv_iload_n hx hb dX4_keeps_96 rfl (lv_at hl 2 rfl) ?_
      have J_108_3 : ∀ v_108_3 : Int32, v_108_3 = (phm (heldv th tg tf j x) (1 + 2 * tg j)) → W p l e (rm 0) s m args below meth c H locs 0 0 Q (F0 m 108 ls [.int v_108_3, .int (tf j), .int (nI (14 + j)), .ref m3]) := by
        intro v_108_3 ev_108_3
        subst ev_108_3
        refine lv_isub hx hb dX4_keeps_108 ?_
        refine ra_iast hx hb hK hP hD hS 3 rfl (14 + j) rfl (by omega) (Nat.le_of_ble_eq_true rfl) dX4_keeps_109 (fun H locs hP hD hS => ?_)
        rw [f3_w2] at hP hD
        have hP : va_P (dC, dI) vwCl [ob m0 4 [.int (nI n), .int kn, .int fz, .ref m1, .ref m2, .ref m3, .ref m4, .ref m5, .ref m6, .ref m7, .ref m8, .ref m9, .ref m10, .ref m11, .ref m12, .ref m13], ai m1 cyI 21 (f3 fh uh (upd th j ((th j) + (heldv th tg tf j x)))), ai m2 cyI 21 (f3 fg ug tg), ai m3 cyI 21 (f3 ff uf (upd tf j ((tf j) - (phm (heldv th tg tf j x) (1 + 2 * tg j))))), ai m4 cyI 21 (f3 fk uk (upd tk j ((tk j) + (heldv th tg tf j x)))), ai m5 cyI 3 (t3 vs us ts), ai m6 cyI 3 (t3 vb ub tb), ai m7 cyI 3 (t3 vd ud td), ai m8 cyI 3 (nF ct), ai m9 cyI 36 (q12 kd), ai m10 cyI 36 (q12 vl), ai m11 cyI 7 fr, ai m12 cyI 3 fp, ai m13 cyI 3 bp] H := hP
        have hD : va_D A [ob m0 4 [.int (nI n), .int kn, .int fz, .ref m1, .ref m2, .ref m3, .ref m4, .ref m5, .ref m6, .ref m7, .ref m8, .ref m9, .ref m10, .ref m11, .ref m12, .ref m13], ai m1 cyI 21 (f3 fh uh (upd th j ((th j) + (heldv th tg tf j x)))), ai m2 cyI 21 (f3 fg ug tg), ai m3 cyI 21 (f3 ff uf (upd tf j ((tf j) - (phm (heldv th tg tf j x) (1 + 2 * tg j))))), ai m4 cyI 21 (f3 fk uk (upd tk j ((tk j) + (heldv th tg tf j x)))), ai m5 cyI 3 (t3 vs us ts), ai m6 cyI 3 (t3 vb ub tb), ai m7 cyI 3 (t3 vd ud td), ai m8 cyI 3 (nF ct), ai m9 cyI 36 (q12 kd), ai m10 cyI 36 (q12 vl), ai m11 cyI 7 fr, ai m12 cyI 3 fp, ai m13 cyI 3 bp] := hD
        refine lv_iload hx hb dX4_keeps_110 (lv_at hl 0 rfl) ?_
        rw [hQ]
        exact ra_iretW () hx hb hr hlocks rfl hK hP hD hS rfl dX4_keeps_112
      refine lv_icmp_le (tgt := 107) hx hb dX4_keeps_97 (by decide) (fun c_97 => ?_) (fun c_97 => ?_)
      · ---- to 107
        refine lv_iconst (v := 0) hx hb dX4_keeps_107 (by decide) ?_
        exact J_108_3 _ (by unfold phm; first | (rw [if_neg (Int32.not_lt.mpr c_97)]; done) | (rw [if_pos (Int32.not_le.mp c_97)]; done))
      · ---- on
        refine lv_iload hx hb dX4_keeps_100 (lv_at hl 0 rfl) ?_
        refine lv_iload_n hx hb dX4_keeps_102 rfl (lv_at hl 2 rfl) ?_
        refine lv_isub hx hb dX4_keeps_103 ?_
        refine lv_goto (tgt := 108) hx hb dX4_keeps_104 (by decide) ?_
        exact J_108_3 _ (by unfold phm; first | (rw [if_neg (Int32.not_lt.mpr c_97)]; done) | (rw [if_pos (Int32.not_le.mp c_97)]; done))
    refine lv_icmp_ge (tgt := 61) hx hb dX4_keeps_54 (by decide) (fun c_54 => ?_) (fun c_54 => ?_)
    · ---- to 61
      refine lv_iload hx hb dX4_keeps_61 (lv_at hl 0 rfl) ?_
      exact J_63_2 _ (by first | exact jm_f c_54 | exact jm_t (Int32.not_le.mp c_54))
    · ---- on
      refine lv_iload_n hx hb dX4_keeps_57 rfl (lv_at hl 4 rfl) ?_
      refine lv_goto (tgt := 63) hx hb dX4_keeps_58 (by decide) ?_
      exact J_63_2 _ (by first | exact jm_f c_54 | exact jm_t (Int32.not_le.mp c_54))
  refine lv_icmp_ge (tgt := 40) hx hb dX4_keeps_32 (by decide) (fun c_32 => ?_) (fun c_32 => ?_)
  · ---- to 40
    refine lv_bipush (v := 99) hx hb dX4_keeps_40 (by decide) ?_
    refine lv_aload_n hx hb dX4_keeps_42 rfl (lv_at hl 2 rfl) ?_
    refine va_get (D := (dC, dI)) (ci := 4) (v := .ref m1) (C := RX4) (T := TX4) (N := 16) hx hb hts hin_X4 hown hK hP 0 rfl rfl 3 (by decide) hw_4 (fun _ h9 => h9) rfl dX4_keeps_43 ?_
    refine lv_iload_n hx hb dX4_keeps_46 rfl (lv_at hl 3 rfl) ?_
    refine ra_iald hx hb hK hP 1 rfl (14 + j) rfl (by omega) (Nat.le_of_ble_eq_true rfl) dX4_keeps_47 ?_
    refine ra_top (th j) (f3_r2 _ _ _ _) ?_
    refine lv_isub hx hb dX4_keeps_48 ?_
    exact J_49_1 _ (by first | exact jm_f c_32 | exact jm_t (Int32.not_le.mp c_32))
  · ---- on
    refine lv_iload hx hb dX4_keeps_35 (lv_at hl 0 rfl) ?_
    refine lv_goto (tgt := 49) hx hb dX4_keeps_37 (by decide) ?_
    exact J_49_1 _ (by first | exact jm_f c_32 | exact jm_t (Int32.not_le.mp c_32))

set_option maxHeartbeats 4000000 in
set_option maxRecDepth 100000 in
theorem c_X4_blow2 (l : Launch) (dC : Nat → ClassId) (dI : Nat → Nat → Nat) (cyI cyA : ClassId) (m0 m1 m2 m3 m4 m5 m6 m7 m8 m9 m10 m11 m12 m13 n : Nat) (kn fz : Int32) (fh fg ff fk uh ug uf uk th tg tf tk : FN) (vs vb vd us ub ud ts tb td : Int32) (ct : Nat → Nat) (kd vl : Nat → FN) (fr fp bp : FN) (w : Int32) (hn : n ≤ 7) (sz : Nat) : Met l yX4_blow wsX4_blow (rm 1) (kW dC dI cyI cyA [.ref m0, .int 2, .int w] sz [ob m0 4 [.int (nI n), .int kn, .int fz, .ref m1, .ref m2, .ref m3, .ref m4, .ref m5, .ref m6, .ref m7, .ref m8, .ref m9, .ref m10, .ref m11, .ref m12, .ref m13], ai m1 cyI 21 (f3 fh uh th), ai m2 cyI 21 (f3 fg ug tg), ai m3 cyI 21 (f3 ff uf tf), ai m4 cyI 21 (f3 fk uk tk), ai m5 cyI 3 (t3 vs us ts), ai m6 cyI 3 (t3 vb ub tb), ai m7 cyI 3 (t3 vd ud td), ai m8 cyI 3 (nF ct), ai m9 cyI 36 (q12 kd), ai m10 cyI 36 (q12 vl), ai m11 cyI 7 fr, ai m12 cyI 3 fp, ai m13 cyI 3 bp]) (qI dC dI cyI cyA (fun (r : Int32) (_ : Unit) => r = (blow phm psm n th tg tf tk w).2.2.2) (va_A [ob m0 4 [.int (nI n), .int kn, .int fz, .ref m1, .ref m2, .ref m3, .ref m4, .ref m5, .ref m6, .ref m7, .ref m8, .ref m9, .ref m10, .ref m11, .ref m12, .ref m13], ai m1 cyI 21 (f3 fh uh th), ai m2 cyI 21 (f3 fg ug tg), ai m3 cyI 21 (f3 ff uf tf), ai m4 cyI 21 (f3 fk uk tk), ai m5 cyI 3 (t3 vs us ts), ai m6 cyI 3 (t3 vb ub tb), ai m7 cyI 3 (t3 vd ud td), ai m8 cyI 3 (nF ct), ai m9 cyI 36 (q12 kd), ai m10 cyI 36 (q12 vl), ai m11 cyI 7 fr, ai m12 cyI 3 fp, ai m13 cyI 3 bp] sz) (fun _ => [ob m0 4 [.int (nI n), .int kn, .int fz, .ref m1, .ref m2, .ref m3, .ref m4, .ref m5, .ref m6, .ref m7, .ref m8, .ref m9, .ref m10, .ref m11, .ref m12, .ref m13], ai m1 cyI 21 (f3 fh uh ((blow phm psm n th tg tf tk w).1)), ai m2 cyI 21 (f3 fg ug tg), ai m3 cyI 21 (f3 ff uf ((blow phm psm n th tg tf tk w).2.1)), ai m4 cyI 21 (f3 fk uk ((blow phm psm n th tg tf tk w).2.2.1)), ai m5 cyI 3 (t3 vs us ts), ai m6 cyI 3 (t3 vb ub (tb + (blow phm psm n th tg tf tk w).2.2.2)), ai m7 cyI 3 (t3 vd ud td), ai m8 cyI 3 (nF ct), ai m9 cyI 36 (q12 kd), ai m10 cyI 36 (q12 vl), ai m11 cyI 7 fr, ai m12 cyI 3 fp, ai m13 cyI 3 bp])) 0 0 (va_A [ob m0 4 [.int (nI n), .int kn, .int fz, .ref m1, .ref m2, .ref m3, .ref m4, .ref m5, .ref m6, .ref m7, .ref m8, .ref m9, .ref m10, .ref m11, .ref m12, .ref m13], ai m1 cyI 21 (f3 fh uh th), ai m2 cyI 21 (f3 fg ug tg), ai m3 cyI 21 (f3 ff uf tf), ai m4 cyI 21 (f3 fk uk tk), ai m5 cyI 3 (t3 vs us ts), ai m6 cyI 3 (t3 vb ub tb), ai m7 cyI 3 (t3 vd ud td), ai m8 cyI 3 (nF ct), ai m9 cyI 36 (q12 kd), ai m10 cyI 36 (q12 vl), ai m11 cyI 7 fr, ai m12 cyI 3 fp, ai m13 cyI 3 bp] sz) := by
  refine ra_metW (cc := cX4_blow) (maxL := 8) (Qc := fun A => qI dC dI cyI cyA (fun (r : Int32) (_ : Unit) => r = (blow phm psm n th tg tf tk w).2.2.2) A (fun _ => [ob m0 4 [.int (nI n), .int kn, .int fz, .ref m1, .ref m2, .ref m3, .ref m4, .ref m5, .ref m6, .ref m7, .ref m8, .ref m9, .ref m10, .ref m11, .ref m12, .ref m13], ai m1 cyI 21 (f3 fh uh ((blow phm psm n th tg tf tk w).1)), ai m2 cyI 21 (f3 fg ug tg), ai m3 cyI 21 (f3 ff uf ((blow phm psm n th tg tf tk w).2.1)), ai m4 cyI 21 (f3 fk uk ((blow phm psm n th tg tf tk w).2.2.1)), ai m5 cyI 3 (t3 vs us ts), ai m6 cyI 3 (t3 vb ub (tb + (blow phm psm n th tg tf tk w).2.2.2)), ai m7 cyI 3 (t3 vd ud td), ai m8 cyI 3 (nF ct), ai m9 cyI 36 (q12 kd), ai m10 cyI 36 (q12 vl), ai m11 cyI 7 fr, ai m12 cyI 3 fp, ai m13 cyI 3 bp])) (by decide) rfl (Nat.le_of_ble_eq_true rfl) ?_
  intro p e s m below meth c A args Q hQ hx hb hr hlocks hml hts hown hnm hK hN hP hD hA hS ls hl
  have hl : lv_has ls 8 [(0, .ref m0), (1, .int 2), (2, .int w)] := hl
  have hown : s.vm.findClass RX4 = some m.cls := hown
  have hw_1 := hts (.fieldLink RX4 7 "DuneBenchModel" "n" "I") (by decide +kernel)
  have hin_X4 : ∀ w ∈ u_ws RX4 TX4 16, w ∈ wsX4_blow := by decide +kernel
  have hw_3 := hts (.fieldLink RX4 32 "DuneBenchModel" "behind" "[I") (by decide +kernel)
  have hw_4 := hts (.fieldLink RX4 20 "DuneBenchModel" "grass" "[I") (by decide +kernel)
  have hw_5 := hts (.fieldLink RX4 16 "DuneBenchModel" "height" "[I") (by decide +kernel)
  obtain ⟨H, hHe⟩ : ∃ H, H = s.heap := ⟨_, rfl⟩
  obtain ⟨locs, hLe⟩ : ∃ locs : List Loc, locs = [] := ⟨_, rfl⟩
  have hP : va_P (dC, dI) vwCl [ob m0 4 [.int (nI n), .int kn, .int fz, .ref m1, .ref m2, .ref m3, .ref m4, .ref m5, .ref m6, .ref m7, .ref m8, .ref m9, .ref m10, .ref m11, .ref m12, .ref m13], ai m1 cyI 21 (f3 fh uh th), ai m2 cyI 21 (f3 fg ug tg), ai m3 cyI 21 (f3 ff uf tf), ai m4 cyI 21 (f3 fk uk tk), ai m5 cyI 3 (t3 vs us ts), ai m6 cyI 3 (t3 vb ub tb), ai m7 cyI 3 (t3 vd ud td), ai m8 cyI 3 (nF ct), ai m9 cyI 36 (q12 kd), ai m10 cyI 36 (q12 vl), ai m11 cyI 7 fr, ai m12 cyI 3 fp, ai m13 cyI 3 bp] H := by rw [hHe]; exact hP
  have hS : va_S A s.heap H locs := by rw [hHe, hLe]; exact hS
  suffices hgo : W p l e (rm 1) s m args below meth c H locs 0 0 Q (F0 m 0 ls []) by rw [hHe, hLe] at hgo; exact hgo
  refine lv_iconst (v := 0) hx hb dX4_blow_0 (by decide) ?_
  refine lv_istore_n (lv' := [(3, .int 0), (0, .ref m0), (1, .int 2), (2, .int w)]) hx hb dX4_blow_1 rfl hl (by decide) rfl (fun ls hl => ?_)
  refine lv_aload_n hx hb dX4_blow_2 rfl (lv_at hl 1 rfl) ?_
  refine va_get (D := (dC, dI)) (ci := 4) (v := .int (nI n)) (C := RX4) (T := TX4) (N := 16) hx hb hts hin_X4 hown hK hP 0 rfl rfl 0 (by decide) hw_1 (fun _ h9 => h9) rfl dX4_blow_3 ?_
  refine lv_iconst (v := 1) hx hb dX4_blow_6 (by decide) ?_
  refine lv_isub hx hb dX4_blow_7 ?_
  refine lv_istore (lv' := [(4, .int ((nI n) - 1)), (3, .int 0), (0, .ref m0), (1, .int 2), (2, .int w)]) hx hb dX4_blow_8 hl (by decide) rfl (fun ls hl => ?_)
  have L_10 : ∀ (n9 : Nat) (q : Nat) (xh0 : FN) (xf0 : FN) (xk0 : FN) (x : Int32), (q ≤ n) → (bOut phm psm n tg w q xh0 xf0 xk0 x = blow phm psm n th tg tf tk w) → q < n9 → ∀ (H : Heap) (locs : List Loc), va_P (dC, dI) vwCl [ob m0 4 [.int (nI n), .int kn, .int fz, .ref m1, .ref m2, .ref m3, .ref m4, .ref m5, .ref m6, .ref m7, .ref m8, .ref m9, .ref m10, .ref m11, .ref m12, .ref m13], ai m1 cyI 21 (f3 fh uh xh0), ai m2 cyI 21 (f3 fg ug tg), ai m3 cyI 21 (f3 ff uf xf0), ai m4 cyI 21 (f3 fk uk xk0), ai m5 cyI 3 (t3 vs us ts), ai m6 cyI 3 (t3 vb ub tb), ai m7 cyI 3 (t3 vd ud td), ai m8 cyI 3 (nF ct), ai m9 cyI 36 (q12 kd), ai m10 cyI 36 (q12 vl), ai m11 cyI 7 fr, ai m12 cyI 3 fp, ai m13 cyI 3 bp] H → va_D A [ob m0 4 [.int (nI n), .int kn, .int fz, .ref m1, .ref m2, .ref m3, .ref m4, .ref m5, .ref m6, .ref m7, .ref m8, .ref m9, .ref m10, .ref m11, .ref m12, .ref m13], ai m1 cyI 21 (f3 fh uh xh0), ai m2 cyI 21 (f3 fg ug tg), ai m3 cyI 21 (f3 ff uf xf0), ai m4 cyI 21 (f3 fk uk xk0), ai m5 cyI 3 (t3 vs us ts), ai m6 cyI 3 (t3 vb ub tb), ai m7 cyI 3 (t3 vd ud td), ai m8 cyI 3 (nF ct), ai m9 cyI 36 (q12 kd), ai m10 cyI 36 (q12 vl), ai m11 cyI 7 fr, ai m12 cyI 3 fp, ai m13 cyI 3 bp] → va_S A s.heap H locs → ∀ ls : Array Slot, lv_has ls 8 [(0, .ref m0), (1, .int 2), (2, .int w), (3, .int x), (4, .int (nI q - 1))] → W p l e (rm 1) s m args below meth c H locs 0 0 Q (F0 m 10 ls []) := by
    intro n9
    induction n9 with
    | zero =>
      intro q xh0 xf0 xk0 x hq he hm9
      exact absurd hm9 (Nat.not_lt_zero _)
    | succ n9 ih_10 =>
      intro q xh0 xf0 xk0 x hq he hm9 H locs hP hD hS ls hl
      rcases q with _ | j
      ·
        have hl : lv_has ls 8 [(0, .ref m0), (1, .int 2), (2, .int w), (3, .int x), (4, .int (-1))] := by rw [show nI 0 - 1 = (-1 : Int32) by decide] at hl; exact hl
        refine lv_iload hx hb dX4_blow_10 (lv_at hl 4 rfl) ?_
        refine lv_if_lt (tgt := 138) hx hb dX4_blow_12 (by decide) (fun c_12 => ?_) (fun c_12 => ?_)
        · ---- to 138
          have he : (xh0, xf0, xk0, x) = blow phm psm n th tg tf tk w := he
          refine lv_aload_n hx hb dX4_blow_138 rfl (lv_at hl 0 rfl) ?_
          refine va_get (D := (dC, dI)) (ci := 4) (v := .ref m6) (C := RX4) (T := TX4) (N := 16) hx hb hts hin_X4 hown hK hP 0 rfl rfl 8 (by decide) hw_3 (fun _ h9 => h9) rfl dX4_blow_139 ?_
          refine lv_iload_n hx hb dX4_blow_142 rfl (lv_at hl 1 rfl) ?_
          refine lv_dup2_11 hx hb dX4_blow_143 rfl rfl ?_
          refine ra_iald hx hb hK hP 6 rfl 2 rfl (by omega) (Nat.le_of_ble_eq_true rfl) dX4_blow_144 ?_
          refine ra_top tb rfl ?_
          refine lv_iload_n hx hb dX4_blow_145 rfl (lv_at hl 3 rfl) ?_
          refine lv_iadd hx hb dX4_blow_146 ?_
          refine ra_iast hx hb hK hP hD hS 6 rfl 2 rfl (by omega) (Nat.le_of_ble_eq_true rfl) dX4_blow_147 (fun H locs hP hD hS => ?_)
          rw [t3_w2] at hP hD
          have hP : va_P (dC, dI) vwCl [ob m0 4 [.int (nI n), .int kn, .int fz, .ref m1, .ref m2, .ref m3, .ref m4, .ref m5, .ref m6, .ref m7, .ref m8, .ref m9, .ref m10, .ref m11, .ref m12, .ref m13], ai m1 cyI 21 (f3 fh uh xh0), ai m2 cyI 21 (f3 fg ug tg), ai m3 cyI 21 (f3 ff uf xf0), ai m4 cyI 21 (f3 fk uk xk0), ai m5 cyI 3 (t3 vs us ts), ai m6 cyI 3 (t3 vb ub (tb + x)), ai m7 cyI 3 (t3 vd ud td), ai m8 cyI 3 (nF ct), ai m9 cyI 36 (q12 kd), ai m10 cyI 36 (q12 vl), ai m11 cyI 7 fr, ai m12 cyI 3 fp, ai m13 cyI 3 bp] H := hP
          have hD : va_D A [ob m0 4 [.int (nI n), .int kn, .int fz, .ref m1, .ref m2, .ref m3, .ref m4, .ref m5, .ref m6, .ref m7, .ref m8, .ref m9, .ref m10, .ref m11, .ref m12, .ref m13], ai m1 cyI 21 (f3 fh uh xh0), ai m2 cyI 21 (f3 fg ug tg), ai m3 cyI 21 (f3 ff uf xf0), ai m4 cyI 21 (f3 fk uk xk0), ai m5 cyI 3 (t3 vs us ts), ai m6 cyI 3 (t3 vb ub (tb + x)), ai m7 cyI 3 (t3 vd ud td), ai m8 cyI 3 (nF ct), ai m9 cyI 36 (q12 kd), ai m10 cyI 36 (q12 vl), ai m11 cyI 7 fr, ai m12 cyI 3 fp, ai m13 cyI 3 bp] := hD
          refine lv_iload_n hx hb dX4_blow_148 rfl (lv_at hl 3 rfl) ?_
          rw [hQ]
          rw [← he]
          exact ra_iretW () hx hb hr hlocks rfl hK hP hD hS rfl dX4_blow_149
        · ---- on
          exact absurd c_12 (by decide)
      ·
        have hl : lv_has ls 8 [(0, .ref m0), (1, .int 2), (2, .int w), (3, .int x), (4, .int (nI j))] := by rw [nI_pred] at hl; exact hl
        refine lv_iload hx hb dX4_blow_10 (lv_at hl 4 rfl) ?_
        refine lv_if_lt (tgt := 138) hx hb dX4_blow_12 (by decide) (fun c_12 => ?_) (fun c_12 => ?_)
        · ---- to 138
          exact absurd c_12 (nI_pos (by omega))
        · ---- on
          have n_12 := (nq_lt_n j 0 (by omega) (by omega)).mp c_12
          refine lv_bipush (v := 7) hx hb dX4_blow_15 (by decide) ?_
          refine lv_iload_n hx hb dX4_blow_17 rfl (lv_at hl 1 rfl) ?_
          refine lv_imul hx hb dX4_blow_18 ?_
          refine ra_top (14) (by decide) ?_
          refine lv_iload hx hb dX4_blow_19 (lv_at hl 4 rfl) ?_
          refine lv_iadd hx hb dX4_blow_21 ?_
          refine ra_top (nI (14 + j)) (nI_add 14 j) ?_
          refine lv_istore (lv' := [(5, .int (nI (14 + j))), (0, .ref m0), (1, .int 2), (2, .int w), (3, .int x), (4, .int (nI j))]) hx hb dX4_blow_22 hl (by decide) rfl (fun ls hl => ?_)
          refine lv_iload_n hx hb dX4_blow_24 rfl (lv_at hl 3 rfl) ?_
          refine lv_aload_n hx hb dX4_blow_25 rfl (lv_at hl 1 rfl) ?_
          refine va_get (D := (dC, dI)) (ci := 4) (v := .ref m2) (C := RX4) (T := TX4) (N := 16) hx hb hts hin_X4 hown hK hP 0 rfl rfl 4 (by decide) hw_4 (fun _ h9 => h9) rfl dX4_blow_26 ?_
          refine lv_iload hx hb dX4_blow_29 (lv_at hl 0 rfl) ?_
          refine ra_iald hx hb hK hP 2 rfl (14 + j) rfl (by omega) (Nat.le_of_ble_eq_true rfl) dX4_blow_31 ?_
          refine ra_top (tg j) (f3_r2 _ _ _ _) ?_
          have J_48_1 : ∀ v_48_1 : Int32, v_48_1 = (psm w (tg j)) → W p l e (rm 1) s m args below meth c H locs 0 0 Q (F0 m 48 ls [.int v_48_1]) := by
            intro v_48_1 ev_48_1
            subst ev_48_1
            refine lv_istore (lv' := [(6, .int (psm w (tg j))), (5, .int (nI (14 + j))), (0, .ref m0), (1, .int 2), (2, .int w), (3, .int x), (4, .int (nI j))]) hx hb dX4_blow_48 hl (by decide) rfl (fun ls hl => ?_)
            refine lv_iload hx hb dX4_blow_50 (lv_at hl 0 rfl) ?_
            refine lv_aload_n hx hb dX4_blow_52 rfl (lv_at hl 2 rfl) ?_
            refine va_get (D := (dC, dI)) (ci := 4) (v := .ref m1) (C := RX4) (T := TX4) (N := 16) hx hb hts hin_X4 hown hK hP 0 rfl rfl 3 (by decide) hw_5 (fun _ h9 => h9) rfl dX4_blow_53 ?_
            refine lv_iload hx hb dX4_blow_56 (lv_at hl 1 rfl) ?_
            refine ra_iald hx hb hK hP 1 rfl (14 + j) rfl (by omega) (Nat.le_of_ble_eq_true rfl) dX4_blow_58 ?_
            refine ra_top (xh0 j) (f3_r2 _ _ _ _) ?_
            have J_74_2 : ∀ v_74_2 : Int32, v_74_2 = (jmin (xh0 j) (psm w (tg j))) → W p l e (rm 1) s m args below meth c H locs 0 0 Q (F0 m 74 ls [.int v_74_2]) := by
              intro v_74_2 ev_74_2
              subst ev_74_2
              refine lv_istore (lv' := [(6, .int (jmin (xh0 j) (psm w (tg j)))), (5, .int (nI (14 + j))), (0, .ref m0), (1, .int 2), (2, .int w), (3, .int x), (4, .int (nI j))]) hx hb dX4_blow_74 hl (by decide) rfl (fun ls hl => ?_)
              refine lv_aload_n hx hb dX4_blow_76 rfl (lv_at hl 2 rfl) ?_
              refine va_get (D := (dC, dI)) (ci := 4) (v := .ref m1) (C := RX4) (T := TX4) (N := 16) hx hb hts hin_X4 hown hK hP 0 rfl rfl 3 (by decide) hw_5 (fun _ h9 => h9) rfl dX4_blow_77 ?_
              refine lv_iload hx hb dX4_blow_80 (lv_at hl 1 rfl) ?_
              refine lv_dup2_11 hx hb dX4_blow_82 rfl rfl ?_
              refine ra_iald hx hb hK hP 1 rfl (14 + j) rfl (by omega) (Nat.le_of_ble_eq_true rfl) dX4_blow_83 ?_
              refine ra_top (xh0 j) (f3_r2 _ _ _ _) ?_
              refine lv_iload hx hb dX4_blow_84 (lv_at hl 0 rfl) ?_
              refine lv_isub hx hb dX4_blow_86 ?_
              refine ra_iast hx hb hK hP hD hS 1 rfl (14 + j) rfl (by omega) (Nat.le_of_ble_eq_true rfl) dX4_blow_87 (fun H locs hP hD hS => ?_)
              rw [f3_w2] at hP hD
              have hP : va_P (dC, dI) vwCl [ob m0 4 [.int (nI n), .int kn, .int fz, .ref m1, .ref m2, .ref m3, .ref m4, .ref m5, .ref m6, .ref m7, .ref m8, .ref m9, .ref m10, .ref m11, .ref m12, .ref m13], ai m1 cyI 21 (f3 fh uh (upd xh0 j ((xh0 j) - (jmin (xh0 j) (psm w (tg j)))))), ai m2 cyI 21 (f3 fg ug tg), ai m3 cyI 21 (f3 ff uf xf0), ai m4 cyI 21 (f3 fk uk xk0), ai m5 cyI 3 (t3 vs us ts), ai m6 cyI 3 (t3 vb ub tb), ai m7 cyI 3 (t3 vd ud td), ai m8 cyI 3 (nF ct), ai m9 cyI 36 (q12 kd), ai m10 cyI 36 (q12 vl), ai m11 cyI 7 fr, ai m12 cyI 3 fp, ai m13 cyI 3 bp] H := hP
              have hD : va_D A [ob m0 4 [.int (nI n), .int kn, .int fz, .ref m1, .ref m2, .ref m3, .ref m4, .ref m5, .ref m6, .ref m7, .ref m8, .ref m9, .ref m10, .ref m11, .ref m12, .ref m13], ai m1 cyI 21 (f3 fh uh (upd xh0 j ((xh0 j) - (jmin (xh0 j) (psm w (tg j)))))), ai m2 cyI 21 (f3 fg ug tg), ai m3 cyI 21 (f3 ff uf xf0), ai m4 cyI 21 (f3 fk uk xk0), ai m5 cyI 3 (t3 vs us ts), ai m6 cyI 3 (t3 vb ub tb), ai m7 cyI 3 (t3 vd ud td), ai m8 cyI 3 (nF ct), ai m9 cyI 36 (q12 kd), ai m10 cyI 36 (q12 vl), ai m11 cyI 7 fr, ai m12 cyI 3 fp, ai m13 cyI 3 bp] := hD
              refine lv_iload hx hb dX4_blow_88 (lv_at hl 6 rfl) ?_
              refine lv_iconst (v := 1) hx hb dX4_blow_90 (by decide) ?_
              refine lv_iadd hx hb dX4_blow_91 ?_
              refine ra_top (nI (j + 1)) (nI_add j 1) ?_
              refine lv_istore (lv' := [(7, .int (nI (j + 1))), (6, .int (jmin (xh0 j) (psm w (tg j)))), (5, .int (nI (14 + j))), (0, .ref m0), (1, .int 2), (2, .int w), (3, .int x), (4, .int (nI j))]) hx hb dX4_blow_92 hl (by decide) rfl (fun ls hl => ?_)
              have L_94 : ∀ (n9 : Nat) (j2 : Nat) (xh1 : FN) (xf1 : FN) (xk1 : FN) (z : Int32), (j2 ≤ n) → (bIn phm tg (n - j2) j2 xh1 xf1 xk1 z = bIn phm tg (n - (j + 1)) (j + 1) (upd xh0 j (xh0 j - jmin (xh0 j) (psm w (tg j)))) xf0 xk0 (jmin (xh0 j) (psm w (tg j)))) → (n - j2) < n9 → ∀ (H : Heap) (locs : List Loc), va_P (dC, dI) vwCl [ob m0 4 [.int (nI n), .int kn, .int fz, .ref m1, .ref m2, .ref m3, .ref m4, .ref m5, .ref m6, .ref m7, .ref m8, .ref m9, .ref m10, .ref m11, .ref m12, .ref m13], ai m1 cyI 21 (f3 fh uh xh1), ai m2 cyI 21 (f3 fg ug tg), ai m3 cyI 21 (f3 ff uf xf1), ai m4 cyI 21 (f3 fk uk xk1), ai m5 cyI 3 (t3 vs us ts), ai m6 cyI 3 (t3 vb ub tb), ai m7 cyI 3 (t3 vd ud td), ai m8 cyI 3 (nF ct), ai m9 cyI 36 (q12 kd), ai m10 cyI 36 (q12 vl), ai m11 cyI 7 fr, ai m12 cyI 3 fp, ai m13 cyI 3 bp] H → va_D A [ob m0 4 [.int (nI n), .int kn, .int fz, .ref m1, .ref m2, .ref m3, .ref m4, .ref m5, .ref m6, .ref m7, .ref m8, .ref m9, .ref m10, .ref m11, .ref m12, .ref m13], ai m1 cyI 21 (f3 fh uh xh1), ai m2 cyI 21 (f3 fg ug tg), ai m3 cyI 21 (f3 ff uf xf1), ai m4 cyI 21 (f3 fk uk xk1), ai m5 cyI 3 (t3 vs us ts), ai m6 cyI 3 (t3 vb ub tb), ai m7 cyI 3 (t3 vd ud td), ai m8 cyI 3 (nF ct), ai m9 cyI 36 (q12 kd), ai m10 cyI 36 (q12 vl), ai m11 cyI 7 fr, ai m12 cyI 3 fp, ai m13 cyI 3 bp] → va_S A s.heap H locs → ∀ ls : Array Slot, lv_has ls 8 [(0, .ref m0), (1, .int 2), (2, .int w), (3, .int x), (4, .int (nI j)), (6, .int z), (7, .int (nI j2))] → W p l e (rm 1) s m args below meth c H locs 0 0 Q (F0 m 94 ls []) := by
                intro n9
                induction n9 with
                | zero =>
                  intro j2 xh1 xf1 xk1 z hj2 he2 hm9
                  exact absurd hm9 (Nat.not_lt_zero _)
                | succ n9 ih_94 =>
                  intro j2 xh1 xf1 xk1 z hj2 he2 hm9 H locs hP hD hS ls hl
                  refine lv_iload hx hb dX4_blow_94 (lv_at hl 6 rfl) ?_
                  refine lv_aload_n hx hb dX4_blow_96 rfl (lv_at hl 0 rfl) ?_
                  refine va_get (D := (dC, dI)) (ci := 4) (v := .int (nI n)) (C := RX4) (T := TX4) (N := 16) hx hb hts hin_X4 hown hK hP 0 rfl rfl 0 (by decide) hw_1 (fun _ h9 => h9) rfl dX4_blow_97 ?_
                  refine lv_icmp_ge (tgt := 127) hx hb dX4_blow_100 (by decide) (fun c_100 => ?_) (fun c_100 => ?_)
                  · ---- to 127
                    have n_100 := (nq_le n j2 (by omega) (by omega)).mp c_100
                    have he2 : (xh1, xf1, xk1, z) = bIn phm tg (n - (j + 1)) (j + 1) (upd xh0 j (xh0 j - jmin (xh0 j) (psm w (tg j)))) xf0 xk0 (jmin (xh0 j) (psm w (tg j))) := by rw [← he2, show n - j2 = 0 by omega]; rfl
                    refine lv_iload_n hx hb dX4_blow_127 rfl (lv_at hl 3 rfl) ?_
                    refine lv_iload hx hb dX4_blow_128 (lv_at hl 5 rfl) ?_
                    refine lv_iadd hx hb dX4_blow_130 ?_
                    refine lv_istore_n (lv' := [(3, .int (x + z)), (0, .ref m0), (1, .int 2), (2, .int w), (4, .int (nI j)), (6, .int z), (7, .int (nI j2))]) hx hb dX4_blow_131 rfl hl (by decide) rfl (fun ls hl => ?_)
                    refine lv_iinc (v := nI j - 1) (lv' := [(4, .int (nI j - 1)), (3, .int (x + z)), (0, .ref m0), (1, .int 2), (2, .int w), (6, .int z), (7, .int (nI j2))]) hx hb dX4_blow_132 hl (k := 4) rfl (ra_dec _) (by decide) rfl (fun ls hl => ?_)
                    refine lv_goto (tgt := 10) hx hb dX4_blow_135 (by decide) ?_
                    exact ih_10 j xh1 xf1 xk1 (x + z) (by omega) (by rw [← he]; show _ = bOut phm psm n tg w j (bIn phm tg (n - (j + 1)) (j + 1) (upd xh0 j (xh0 j - jmin (xh0 j) (psm w (tg j)))) xf0 xk0 (jmin (xh0 j) (psm w (tg j)))).1 (bIn phm tg (n - (j + 1)) (j + 1) (upd xh0 j (xh0 j - jmin (xh0 j) (psm w (tg j)))) xf0 xk0 (jmin (xh0 j) (psm w (tg j)))).2.1 (bIn phm tg (n - (j + 1)) (j + 1) (upd xh0 j (xh0 j - jmin (xh0 j) (psm w (tg j)))) xf0 xk0 (jmin (xh0 j) (psm w (tg j)))).2.2.1 (x + (bIn phm tg (n - (j + 1)) (j + 1) (upd xh0 j (xh0 j - jmin (xh0 j) (psm w (tg j)))) xf0 xk0 (jmin (xh0 j) (psm w (tg j)))).2.2.2); rw [← he2]) (by omega) H locs hP hD hS ls (lv_sub hl [2, 3, 4, 1, 0] rfl)
                  · ---- on
                    have n_100 := (nq_le_n n j2 (by omega) (by omega)).mp c_100
                    refine lv_iload hx hb dX4_blow_103 (lv_at hl 5 rfl) ?_
                    refine lv_aload_n hx hb dX4_blow_105 rfl (lv_at hl 0 rfl) ?_
                    refine lv_bipush (v := 7) hx hb dX4_blow_106 (by decide) ?_
                    refine lv_iload_n hx hb dX4_blow_108 rfl (lv_at hl 1 rfl) ?_
                    refine lv_imul hx hb dX4_blow_109 ?_
                    refine ra_top (14) (by decide) ?_
                    refine lv_iload hx hb dX4_blow_110 (lv_at hl 6 rfl) ?_
                    refine lv_iadd hx hb dX4_blow_112 ?_
                    refine ra_top (nI (14 + j2)) (nI_add 14 j2) ?_
                    refine lv_iload hx hb dX4_blow_113 (lv_at hl 5 rfl) ?_
                    refine ra_cI (q := (RX4, TX4, 16)) (ci := 4) (As := [.int (nI (14 + j2)), .int z]) (rest := [.int z]) (wc := [ob m0 4 [.int (nI n), .int kn, .int fz, .ref m1, .ref m2, .ref m3, .ref m4, .ref m5, .ref m6, .ref m7, .ref m8, .ref m9, .ref m10, .ref m11, .ref m12, .ref m13], ai m1 cyI 21 (f3 fh uh xh1), ai m2 cyI 21 (f3 fg ug tg), ai m3 cyI 21 (f3 ff uf xf1), ai m4 cyI 21 (f3 fk uk xk1), ai m5 cyI 3 (t3 vs us ts), ai m6 cyI 3 (t3 vb ub tb), ai m7 cyI 3 (t3 vd ud td), ai m8 cyI 3 (nF ct), ai m9 cyI 36 (q12 kd), ai m10 cyI 36 (q12 vl), ai m11 cyI 7 fr, ai m12 cyI 3 fp, ai m13 cyI 3 bp]) (wr := []) ⟨hx, hb, hml, hown, hts⟩ (c_X4_keeps2 l dC dI cyI cyA m0 m1 m2 m3 m4 m5 m6 m7 m8 m9 m10 m11 m12 m13 n kn fz fh fg ff fk uh ug uf uk xh1 tg xf1 xk1 vs vb vd us ub ud ts tb td ct kd vl fr fp bp j2 z (by omega) H.size) (cwV 2 hts gX4_blow_X4_keeps rfl rfl rfl (by decide +kernel) ⟨Nat.le_of_ble_eq_true rfl, Nat.le_of_ble_eq_true rfl⟩) hK hN hP hD hA hS [0, 1, 2, 3, 4, 5, 6, 7, 8, 9, 10, 11, 12, 13] [] rfl rfl (by decide) (by decide) (by decide) rfl rfl rfl hl.1 rfl (Nat.le_of_ble_eq_true rfl) dX4_blow_115 ⟨Nat.le_of_ble_eq_true rfl, Nat.le_of_ble_eq_true rfl⟩ (fun r_1 u_1 hw_c1 H locs hP hD hS => ?_)
                    subst hw_c1
                    have hP : va_P (dC, dI) vwCl [ob m0 4 [.int (nI n), .int kn, .int fz, .ref m1, .ref m2, .ref m3, .ref m4, .ref m5, .ref m6, .ref m7, .ref m8, .ref m9, .ref m10, .ref m11, .ref m12, .ref m13], ai m1 cyI 21 (f3 fh uh (upd xh1 j2 (xh1 j2 + heldv xh1 tg xf1 j2 z))), ai m2 cyI 21 (f3 fg ug tg), ai m3 cyI 21 (f3 ff uf (upd xf1 j2 (xf1 j2 - phm (heldv xh1 tg xf1 j2 z) (1 + 2 * tg j2)))), ai m4 cyI 21 (f3 fk uk (upd xk1 j2 (xk1 j2 + heldv xh1 tg xf1 j2 z))), ai m5 cyI 3 (t3 vs us ts), ai m6 cyI 3 (t3 vb ub tb), ai m7 cyI 3 (t3 vd ud td), ai m8 cyI 3 (nF ct), ai m9 cyI 36 (q12 kd), ai m10 cyI 36 (q12 vl), ai m11 cyI 7 fr, ai m12 cyI 3 fp, ai m13 cyI 3 bp] H := hP
                    have hD : va_D A [ob m0 4 [.int (nI n), .int kn, .int fz, .ref m1, .ref m2, .ref m3, .ref m4, .ref m5, .ref m6, .ref m7, .ref m8, .ref m9, .ref m10, .ref m11, .ref m12, .ref m13], ai m1 cyI 21 (f3 fh uh (upd xh1 j2 (xh1 j2 + heldv xh1 tg xf1 j2 z))), ai m2 cyI 21 (f3 fg ug tg), ai m3 cyI 21 (f3 ff uf (upd xf1 j2 (xf1 j2 - phm (heldv xh1 tg xf1 j2 z) (1 + 2 * tg j2)))), ai m4 cyI 21 (f3 fk uk (upd xk1 j2 (xk1 j2 + heldv xh1 tg xf1 j2 z))), ai m5 cyI 3 (t3 vs us ts), ai m6 cyI 3 (t3 vb ub tb), ai m7 cyI 3 (t3 vd ud td), ai m8 cyI 3 (nF ct), ai m9 cyI 36 (q12 kd), ai m10 cyI 36 (q12 vl), ai m11 cyI 7 fr, ai m12 cyI 3 fp, ai m13 cyI 3 bp] := hD
                    refine lv_isub hx hb dX4_blow_118 ?_
                    refine lv_istore (lv' := [(6, .int (z - (heldv xh1 tg xf1 j2 z))), (0, .ref m0), (1, .int 2), (2, .int w), (3, .int x), (4, .int (nI j)), (7, .int (nI j2))]) hx hb dX4_blow_119 hl (by decide) rfl (fun ls hl => ?_)
                    refine lv_iinc (v := nI (j2 + 1)) (lv' := [(7, .int (nI (j2 + 1))), (6, .int (z - (heldv xh1 tg xf1 j2 z))), (0, .ref m0), (1, .int 2), (2, .int w), (3, .int x), (4, .int (nI j))]) hx hb dX4_blow_121 hl (k := 6) rfl (ra_inc1 _) (by decide) rfl (fun ls hl => ?_)
                    refine lv_goto (tgt := 94) hx hb dX4_blow_124 (by decide) ?_
                    exact ih_94 (j2 + 1) (upd xh1 j2 (xh1 j2 + heldv xh1 tg xf1 j2 z)) (upd xf1 j2 (xf1 j2 - phm (heldv xh1 tg xf1 j2 z) (1 + 2 * tg j2))) (upd xk1 j2 (xk1 j2 + heldv xh1 tg xf1 j2 z)) (z - (heldv xh1 tg xf1 j2 z)) (by omega) (by rw [← he2, show n - j2 = n - (j2 + 1) + 1 by omega]; exact (bIn_m _ _ _ _ _ _ _).symm) (by omega) H locs hP hD hS ls (lv_sub hl [2, 3, 4, 5, 6, 1, 0] rfl)
              exact L_94 _ (j + 1) (upd xh0 j ((xh0 j) - (jmin (xh0 j) (psm w (tg j))))) xf0 xk0 (jmin (xh0 j) (psm w (tg j))) (by omega) rfl (Nat.lt_succ_self _) H locs hP hD hS ls (lv_sub hl [3, 4, 5, 6, 7, 1, 0] rfl)
            refine lv_icmp_ge (tgt := 67) hx hb dX4_blow_59 (by decide) (fun c_59 => ?_) (fun c_59 => ?_)
            · ---- to 67
              refine lv_aload_n hx hb dX4_blow_67 rfl (lv_at hl 2 rfl) ?_
              refine va_get (D := (dC, dI)) (ci := 4) (v := .ref m1) (C := RX4) (T := TX4) (N := 16) hx hb hts hin_X4 hown hK hP 0 rfl rfl 3 (by decide) hw_5 (fun _ h9 => h9) rfl dX4_blow_68 ?_
              refine lv_iload hx hb dX4_blow_71 (lv_at hl 1 rfl) ?_
              refine ra_iald hx hb hK hP 1 rfl (14 + j) rfl (by omega) (Nat.le_of_ble_eq_true rfl) dX4_blow_73 ?_
              refine ra_top (xh0 j) (f3_r2 _ _ _ _) ?_
              exact J_74_2 _ (by unfold jmin; first | (rw [if_neg (Int32.not_lt.mpr c_59)]; done) | (rw [if_pos (Int32.not_le.mp c_59)]; done))
            · ---- on
              refine lv_iload hx hb dX4_blow_62 (lv_at hl 0 rfl) ?_
              refine lv_goto (tgt := 74) hx hb dX4_blow_64 (by decide) ?_
              exact J_74_2 _ (by unfold jmin; first | (rw [if_neg (Int32.not_lt.mpr c_59)]; done) | (rw [if_pos (Int32.not_le.mp c_59)]; done))
          refine lv_icmp_le (tgt := 47) hx hb dX4_blow_32 (by decide) (fun c_32 => ?_) (fun c_32 => ?_)
          · ---- to 47
            refine lv_iconst (v := 0) hx hb dX4_blow_47 (by decide) ?_
            exact J_48_1 _ (by unfold psm; first | (rw [if_neg (Int32.not_lt.mpr c_32)]; done) | (rw [if_pos (Int32.not_le.mp c_32)]; done))
          · ---- on
            refine lv_iload_n hx hb dX4_blow_35 rfl (lv_at hl 3 rfl) ?_
            refine lv_aload_n hx hb dX4_blow_36 rfl (lv_at hl 1 rfl) ?_
            refine va_get (D := (dC, dI)) (ci := 4) (v := .ref m2) (C := RX4) (T := TX4) (N := 16) hx hb hts hin_X4 hown hK hP 0 rfl rfl 4 (by decide) hw_4 (fun _ h9 => h9) rfl dX4_blow_37 ?_
            refine lv_iload hx hb dX4_blow_40 (lv_at hl 0 rfl) ?_
            refine ra_iald hx hb hK hP 2 rfl (14 + j) rfl (by omega) (Nat.le_of_ble_eq_true rfl) dX4_blow_42 ?_
            refine ra_top (tg j) (f3_r2 _ _ _ _) ?_
            refine lv_isub hx hb dX4_blow_43 ?_
            refine lv_goto (tgt := 48) hx hb dX4_blow_44 (by decide) ?_
            exact J_48_1 _ (by unfold psm; first | (rw [if_neg (Int32.not_lt.mpr c_32)]; done) | (rw [if_pos (Int32.not_le.mp c_32)]; done))
  exact L_10 _ n th tf tk 0 (Nat.le_refl _) rfl (Nat.lt_succ_self _) H locs hP hD hS ls (lv_sub hl [2, 3, 4, 1, 0] rfl)

set_option maxHeartbeats 4000000 in
set_option maxRecDepth 100000 in
theorem c_X4_flood2 (l : Launch) (dC : Nat → ClassId) (dI : Nat → Nat → Nat) (cyI cyA : ClassId) (m0 m1 m2 m3 m4 m5 m6 m7 m8 m9 m10 m11 m12 m13 n : Nat) (kn fz : Int32) (fh fg ff fk uh ug uf uk th tg tf tk : FN) (vs vb vd us ub ud ts tb td : Int32) (ct : Nat → Nat) (kd vl : Nat → FN) (fr fp bp : FN) (w : Int32) (hn : n ≤ 7) (sz : Nat) : Met l yX4_flood wsX4_flood (rm 0) (kW dC dI cyI cyA [.ref m0, .int 2, .int w] sz [ob m0 4 [.int (nI n), .int kn, .int fz, .ref m1, .ref m2, .ref m3, .ref m4, .ref m5, .ref m6, .ref m7, .ref m8, .ref m9, .ref m10, .ref m11, .ref m12, .ref m13], ai m1 cyI 21 (f3 fh uh th), ai m2 cyI 21 (f3 fg ug tg), ai m3 cyI 21 (f3 ff uf tf), ai m4 cyI 21 (f3 fk uk tk), ai m5 cyI 3 (t3 vs us ts), ai m6 cyI 3 (t3 vb ub tb), ai m7 cyI 3 (t3 vd ud td), ai m8 cyI 3 (nF ct), ai m9 cyI 36 (q12 kd), ai m10 cyI 36 (q12 vl), ai m11 cyI 7 fr, ai m12 cyI 3 fp, ai m13 cyI 3 bp]) (qI dC dI cyI cyA (fun (r : Int32) (_ : Unit) => r = (srg w n 0 th tg tf ts td).1) (va_A [ob m0 4 [.int (nI n), .int kn, .int fz, .ref m1, .ref m2, .ref m3, .ref m4, .ref m5, .ref m6, .ref m7, .ref m8, .ref m9, .ref m10, .ref m11, .ref m12, .ref m13], ai m1 cyI 21 (f3 fh uh th), ai m2 cyI 21 (f3 fg ug tg), ai m3 cyI 21 (f3 ff uf tf), ai m4 cyI 21 (f3 fk uk tk), ai m5 cyI 3 (t3 vs us ts), ai m6 cyI 3 (t3 vb ub tb), ai m7 cyI 3 (t3 vd ud td), ai m8 cyI 3 (nF ct), ai m9 cyI 36 (q12 kd), ai m10 cyI 36 (q12 vl), ai m11 cyI 7 fr, ai m12 cyI 3 fp, ai m13 cyI 3 bp] sz) (fun _ => [ob m0 4 [.int (nI n), .int kn, .int fz, .ref m1, .ref m2, .ref m3, .ref m4, .ref m5, .ref m6, .ref m7, .ref m8, .ref m9, .ref m10, .ref m11, .ref m12, .ref m13], ai m1 cyI 21 (f3 fh uh ((srg w n 0 th tg tf ts td).2.1)), ai m2 cyI 21 (f3 fg ug ((srg w n 0 th tg tf ts td).2.2.1)), ai m3 cyI 21 (f3 ff uf ((srg w n 0 th tg tf ts td).2.2.2.1)), ai m4 cyI 21 (f3 fk uk tk), ai m5 cyI 3 (t3 vs us ((srg w n 0 th tg tf ts td).2.2.2.2.1)), ai m6 cyI 3 (t3 vb ub tb), ai m7 cyI 3 (t3 vd ud ((srg w n 0 th tg tf ts td).2.2.2.2.2)), ai m8 cyI 3 (nF ct), ai m9 cyI 36 (q12 kd), ai m10 cyI 36 (q12 vl), ai m11 cyI 7 fr, ai m12 cyI 3 fp, ai m13 cyI 3 bp])) 0 0 (va_A [ob m0 4 [.int (nI n), .int kn, .int fz, .ref m1, .ref m2, .ref m3, .ref m4, .ref m5, .ref m6, .ref m7, .ref m8, .ref m9, .ref m10, .ref m11, .ref m12, .ref m13], ai m1 cyI 21 (f3 fh uh th), ai m2 cyI 21 (f3 fg ug tg), ai m3 cyI 21 (f3 ff uf tf), ai m4 cyI 21 (f3 fk uk tk), ai m5 cyI 3 (t3 vs us ts), ai m6 cyI 3 (t3 vb ub tb), ai m7 cyI 3 (t3 vd ud td), ai m8 cyI 3 (nF ct), ai m9 cyI 36 (q12 kd), ai m10 cyI 36 (q12 vl), ai m11 cyI 7 fr, ai m12 cyI 3 fp, ai m13 cyI 3 bp] sz) := by
  refine ra_metW (cc := cX4_flood) (maxL := 6) (Qc := fun A => qI dC dI cyI cyA (fun (r : Int32) (_ : Unit) => r = (srg w n 0 th tg tf ts td).1) A (fun _ => [ob m0 4 [.int (nI n), .int kn, .int fz, .ref m1, .ref m2, .ref m3, .ref m4, .ref m5, .ref m6, .ref m7, .ref m8, .ref m9, .ref m10, .ref m11, .ref m12, .ref m13], ai m1 cyI 21 (f3 fh uh ((srg w n 0 th tg tf ts td).2.1)), ai m2 cyI 21 (f3 fg ug ((srg w n 0 th tg tf ts td).2.2.1)), ai m3 cyI 21 (f3 ff uf ((srg w n 0 th tg tf ts td).2.2.2.1)), ai m4 cyI 21 (f3 fk uk tk), ai m5 cyI 3 (t3 vs us ((srg w n 0 th tg tf ts td).2.2.2.2.1)), ai m6 cyI 3 (t3 vb ub tb), ai m7 cyI 3 (t3 vd ud ((srg w n 0 th tg tf ts td).2.2.2.2.2)), ai m8 cyI 3 (nF ct), ai m9 cyI 36 (q12 kd), ai m10 cyI 36 (q12 vl), ai m11 cyI 7 fr, ai m12 cyI 3 fp, ai m13 cyI 3 bp])) (by decide) rfl (Nat.le_of_ble_eq_true rfl) ?_
  intro p e s m below meth c A args Q hQ hx hb hr hlocks hml hts hown hnm hK hN hP hD hA hS ls hl
  have hl : lv_has ls 6 [(0, .ref m0), (1, .int 2), (2, .int w)] := hl
  have hown : s.vm.findClass RX4 = some m.cls := hown
  have hw_1 := hts (.fieldLink RX4 7 "DuneBenchModel" "n" "I") (by decide +kernel)
  have hin_X4 : ∀ w ∈ u_ws RX4 TX4 16, w ∈ wsX4_flood := by decide +kernel
  have hw_3 := hts (.fieldLink RX4 35 "DuneBenchModel" "flooded" "[I") (by decide +kernel)
  have hw_4 := hts (.fieldLink RX4 16 "DuneBenchModel" "height" "[I") (by decide +kernel)
  have hw_5 := hts (.fieldLink RX4 29 "DuneBenchModel" "sea" "[I") (by decide +kernel)
  have hw_6 := hts (.fieldLink RX4 20 "DuneBenchModel" "grass" "[I") (by decide +kernel)
  have hw_7 := hts (.fieldLink RX4 23 "DuneBenchModel" "fence" "[I") (by decide +kernel)
  obtain ⟨H, hHe⟩ : ∃ H, H = s.heap := ⟨_, rfl⟩
  obtain ⟨locs, hLe⟩ : ∃ locs : List Loc, locs = [] := ⟨_, rfl⟩
  have hP : va_P (dC, dI) vwCl [ob m0 4 [.int (nI n), .int kn, .int fz, .ref m1, .ref m2, .ref m3, .ref m4, .ref m5, .ref m6, .ref m7, .ref m8, .ref m9, .ref m10, .ref m11, .ref m12, .ref m13], ai m1 cyI 21 (f3 fh uh th), ai m2 cyI 21 (f3 fg ug tg), ai m3 cyI 21 (f3 ff uf tf), ai m4 cyI 21 (f3 fk uk tk), ai m5 cyI 3 (t3 vs us ts), ai m6 cyI 3 (t3 vb ub tb), ai m7 cyI 3 (t3 vd ud td), ai m8 cyI 3 (nF ct), ai m9 cyI 36 (q12 kd), ai m10 cyI 36 (q12 vl), ai m11 cyI 7 fr, ai m12 cyI 3 fp, ai m13 cyI 3 bp] H := by rw [hHe]; exact hP
  have hS : va_S A s.heap H locs := by rw [hHe, hLe]; exact hS
  suffices hgo : W p l e (rm 0) s m args below meth c H locs 0 0 Q (F0 m 0 ls []) by rw [hHe, hLe] at hgo; exact hgo
  refine lv_iconst (v := 0) hx hb dX4_flood_0 (by decide) ?_
  refine lv_istore_n (lv' := [(3, .int 0), (0, .ref m0), (1, .int 2), (2, .int w)]) hx hb dX4_flood_1 rfl hl (by decide) rfl (fun ls hl => ?_)
  have L_2 : ∀ (n9 : Nat) (i : Nat) (xh0 : FN) (xg0 : FN) (xf0 : FN) (xs0 : Int32), (i ≤ n) → (srg w (n - i) i xh0 xg0 xf0 xs0 td = srg w n 0 th tg tf ts td) → (n - i) < n9 → ∀ (H : Heap) (locs : List Loc), va_P (dC, dI) vwCl [ob m0 4 [.int (nI n), .int kn, .int fz, .ref m1, .ref m2, .ref m3, .ref m4, .ref m5, .ref m6, .ref m7, .ref m8, .ref m9, .ref m10, .ref m11, .ref m12, .ref m13], ai m1 cyI 21 (f3 fh uh xh0), ai m2 cyI 21 (f3 fg ug xg0), ai m3 cyI 21 (f3 ff uf xf0), ai m4 cyI 21 (f3 fk uk tk), ai m5 cyI 3 (t3 vs us xs0), ai m6 cyI 3 (t3 vb ub tb), ai m7 cyI 3 (t3 vd ud td), ai m8 cyI 3 (nF ct), ai m9 cyI 36 (q12 kd), ai m10 cyI 36 (q12 vl), ai m11 cyI 7 fr, ai m12 cyI 3 fp, ai m13 cyI 3 bp] H → va_D A [ob m0 4 [.int (nI n), .int kn, .int fz, .ref m1, .ref m2, .ref m3, .ref m4, .ref m5, .ref m6, .ref m7, .ref m8, .ref m9, .ref m10, .ref m11, .ref m12, .ref m13], ai m1 cyI 21 (f3 fh uh xh0), ai m2 cyI 21 (f3 fg ug xg0), ai m3 cyI 21 (f3 ff uf xf0), ai m4 cyI 21 (f3 fk uk tk), ai m5 cyI 3 (t3 vs us xs0), ai m6 cyI 3 (t3 vb ub tb), ai m7 cyI 3 (t3 vd ud td), ai m8 cyI 3 (nF ct), ai m9 cyI 36 (q12 kd), ai m10 cyI 36 (q12 vl), ai m11 cyI 7 fr, ai m12 cyI 3 fp, ai m13 cyI 3 bp] → va_S A s.heap H locs → ∀ ls : Array Slot, lv_has ls 6 [(0, .ref m0), (1, .int 2), (2, .int w), (3, .int (nI i))] → W p l e (rm 0) s m args below meth c H locs 0 0 Q (F0 m 2 ls []) := by
    intro n9
    induction n9 with
    | zero =>
      intro i xh0 xg0 xf0 xs0 hi he hm9
      exact absurd hm9 (Nat.not_lt_zero _)
    | succ n9 ih_2 =>
      intro i xh0 xg0 xf0 xs0 hi he hm9 H locs hP hD hS ls hl
      refine lv_iload_n hx hb dX4_flood_2 rfl (lv_at hl 3 rfl) ?_
      refine lv_aload_n hx hb dX4_flood_3 rfl (lv_at hl 0 rfl) ?_
      refine va_get (D := (dC, dI)) (ci := 4) (v := .int (nI n)) (C := RX4) (T := TX4) (N := 16) hx hb hts hin_X4 hown hK hP 0 rfl rfl 0 (by decide) hw_1 (fun _ h9 => h9) rfl dX4_flood_4 ?_
      refine lv_icmp_ge (tgt := 89) hx hb dX4_flood_7 (by decide) (fun c_7 => ?_) (fun c_7 => ?_)
      · ---- to 89
        have n_7 := (nq_le n i (by omega) (by omega)).mp c_7
        have he : (nI i, xh0, xg0, xf0, xs0, td + 1) = srg w n 0 th tg tf ts td := by rw [← he, show n - i = 0 by omega]; rfl
        refine lv_iload_n hx hb dX4_flood_89 rfl (lv_at hl 3 rfl) ?_
        refine lv_aload_n hx hb dX4_flood_90 rfl (lv_at hl 0 rfl) ?_
        refine va_get (D := (dC, dI)) (ci := 4) (v := .int (nI n)) (C := RX4) (T := TX4) (N := 16) hx hb hts hin_X4 hown hK hP 0 rfl rfl 0 (by decide) hw_1 (fun _ h9 => h9) rfl dX4_flood_91 ?_
        refine lv_icmp_ne (tgt := 110) hx hb dX4_flood_94 (by decide) (fun c_94 => ?_) (fun c_94 => ?_)
        · ---- to 110
          have n_94 := (nq_eq_n i n (by omega) (by omega)).mp c_94
          exfalso; omega
        · ---- on
          have n_94 := (nq_eq i n (by omega) (by omega)).mp c_94
          refine lv_aload_n hx hb dX4_flood_97 rfl (lv_at hl 0 rfl) ?_
          refine va_get (D := (dC, dI)) (ci := 4) (v := .ref m7) (C := RX4) (T := TX4) (N := 16) hx hb hts hin_X4 hown hK hP 0 rfl rfl 9 (by decide) hw_3 (fun _ h9 => h9) rfl dX4_flood_98 ?_
          refine lv_iload_n hx hb dX4_flood_101 rfl (lv_at hl 1 rfl) ?_
          refine lv_dup2_11 hx hb dX4_flood_102 rfl rfl ?_
          refine ra_iald hx hb hK hP 7 rfl 2 rfl (by omega) (Nat.le_of_ble_eq_true rfl) dX4_flood_103 ?_
          refine ra_top td rfl ?_
          refine lv_iconst (v := 1) hx hb dX4_flood_104 (by decide) ?_
          refine lv_iadd hx hb dX4_flood_105 ?_
          refine ra_iast hx hb hK hP hD hS 7 rfl 2 rfl (by omega) (Nat.le_of_ble_eq_true rfl) dX4_flood_106 (fun H locs hP hD hS => ?_)
          rw [t3_w2] at hP hD
          have hP : va_P (dC, dI) vwCl [ob m0 4 [.int (nI n), .int kn, .int fz, .ref m1, .ref m2, .ref m3, .ref m4, .ref m5, .ref m6, .ref m7, .ref m8, .ref m9, .ref m10, .ref m11, .ref m12, .ref m13], ai m1 cyI 21 (f3 fh uh xh0), ai m2 cyI 21 (f3 fg ug xg0), ai m3 cyI 21 (f3 ff uf xf0), ai m4 cyI 21 (f3 fk uk tk), ai m5 cyI 3 (t3 vs us xs0), ai m6 cyI 3 (t3 vb ub tb), ai m7 cyI 3 (t3 vd ud (td + 1)), ai m8 cyI 3 (nF ct), ai m9 cyI 36 (q12 kd), ai m10 cyI 36 (q12 vl), ai m11 cyI 7 fr, ai m12 cyI 3 fp, ai m13 cyI 3 bp] H := hP
          have hD : va_D A [ob m0 4 [.int (nI n), .int kn, .int fz, .ref m1, .ref m2, .ref m3, .ref m4, .ref m5, .ref m6, .ref m7, .ref m8, .ref m9, .ref m10, .ref m11, .ref m12, .ref m13], ai m1 cyI 21 (f3 fh uh xh0), ai m2 cyI 21 (f3 fg ug xg0), ai m3 cyI 21 (f3 ff uf xf0), ai m4 cyI 21 (f3 fk uk tk), ai m5 cyI 3 (t3 vs us xs0), ai m6 cyI 3 (t3 vb ub tb), ai m7 cyI 3 (t3 vd ud (td + 1)), ai m8 cyI 3 (nF ct), ai m9 cyI 36 (q12 kd), ai m10 cyI 36 (q12 vl), ai m11 cyI 7 fr, ai m12 cyI 3 fp, ai m13 cyI 3 bp] := hD
          refine lv_goto (tgt := 139) hx hb dX4_flood_107 (by decide) ?_
          refine lv_iload_n hx hb dX4_flood_139 rfl (lv_at hl 3 rfl) ?_
          rw [hQ]
          rw [← he]
          exact ra_iretW () hx hb hr hlocks rfl hK hP hD hS rfl dX4_flood_140
      · ---- on
        have n_7 := (nq_le_n n i (by omega) (by omega)).mp c_7
        refine lv_aload_n hx hb dX4_flood_10 rfl (lv_at hl 0 rfl) ?_
        refine va_get (D := (dC, dI)) (ci := 4) (v := .ref m1) (C := RX4) (T := TX4) (N := 16) hx hb hts hin_X4 hown hK hP 0 rfl rfl 3 (by decide) hw_4 (fun _ h9 => h9) rfl dX4_flood_11 ?_
        refine lv_bipush (v := 7) hx hb dX4_flood_14 (by decide) ?_
        refine lv_iload_n hx hb dX4_flood_16 rfl (lv_at hl 1 rfl) ?_
        refine lv_imul hx hb dX4_flood_17 ?_
        refine ra_top (14) (by decide) ?_
        refine lv_iload_n hx hb dX4_flood_18 rfl (lv_at hl 3 rfl) ?_
        refine lv_iadd hx hb dX4_flood_19 ?_
        refine ra_top (nI (14 + i)) (nI_add 14 i) ?_
        refine ra_iald hx hb hK hP 1 rfl (14 + i) rfl (by omega) (Nat.le_of_ble_eq_true rfl) dX4_flood_20 ?_
        refine ra_top (xh0 i) (f3_r2 _ _ _ _) ?_
        refine lv_iload_n hx hb dX4_flood_21 rfl (lv_at hl 2 rfl) ?_
        refine lv_icmp_ge (tgt := 89) hx hb dX4_flood_22 (by decide) (fun c_22 => ?_) (fun c_22 => ?_)
        · ---- to 89
          have he : (nI i, upd xh0 i (xh0 i - w / 4), xg0, xf0, xs0 + w / 4, td) = srg w n 0 th tg tf ts td := by rw [← he, show n - i = n - (i + 1) + 1 by omega]; exact (if_neg (Int32.not_lt.mpr c_22)).symm
          refine lv_iload_n hx hb dX4_flood_89 rfl (lv_at hl 3 rfl) ?_
          refine lv_aload_n hx hb dX4_flood_90 rfl (lv_at hl 0 rfl) ?_
          refine va_get (D := (dC, dI)) (ci := 4) (v := .int (nI n)) (C := RX4) (T := TX4) (N := 16) hx hb hts hin_X4 hown hK hP 0 rfl rfl 0 (by decide) hw_1 (fun _ h9 => h9) rfl dX4_flood_91 ?_
          refine lv_icmp_ne (tgt := 110) hx hb dX4_flood_94 (by decide) (fun c_94 => ?_) (fun c_94 => ?_)
          · ---- to 110
            have n_94 := (nq_eq_n i n (by omega) (by omega)).mp c_94
            refine lv_aload_n hx hb dX4_flood_110 rfl (lv_at hl 0 rfl) ?_
            refine va_get (D := (dC, dI)) (ci := 4) (v := .ref m1) (C := RX4) (T := TX4) (N := 16) hx hb hts hin_X4 hown hK hP 0 rfl rfl 3 (by decide) hw_4 (fun _ h9 => h9) rfl dX4_flood_111 ?_
            refine lv_bipush (v := 7) hx hb dX4_flood_114 (by decide) ?_
            refine lv_iload_n hx hb dX4_flood_116 rfl (lv_at hl 1 rfl) ?_
            refine lv_imul hx hb dX4_flood_117 ?_
            refine ra_top (14) (by decide) ?_
            refine lv_iload_n hx hb dX4_flood_118 rfl (lv_at hl 3 rfl) ?_
            refine lv_iadd hx hb dX4_flood_119 ?_
            refine ra_top (nI (14 + i)) (nI_add 14 i) ?_
            refine lv_dup2_11 hx hb dX4_flood_120 rfl rfl ?_
            refine ra_iald hx hb hK hP 1 rfl (14 + i) rfl (by omega) (Nat.le_of_ble_eq_true rfl) dX4_flood_121 ?_
            refine ra_top (xh0 i) (f3_r2 _ _ _ _) ?_
            refine lv_iload_n hx hb dX4_flood_122 rfl (lv_at hl 2 rfl) ?_
            refine lv_iconst (v := 4) hx hb dX4_flood_123 (by decide) ?_
            refine lv_idiv hx hb dX4_flood_124 (by decide) ?_
            refine lv_isub hx hb dX4_flood_125 ?_
            refine ra_iast hx hb hK hP hD hS 1 rfl (14 + i) rfl (by omega) (Nat.le_of_ble_eq_true rfl) dX4_flood_126 (fun H locs hP hD hS => ?_)
            rw [f3_w2] at hP hD
            have hP : va_P (dC, dI) vwCl [ob m0 4 [.int (nI n), .int kn, .int fz, .ref m1, .ref m2, .ref m3, .ref m4, .ref m5, .ref m6, .ref m7, .ref m8, .ref m9, .ref m10, .ref m11, .ref m12, .ref m13], ai m1 cyI 21 (f3 fh uh (upd xh0 i ((xh0 i) - (w / 4)))), ai m2 cyI 21 (f3 fg ug xg0), ai m3 cyI 21 (f3 ff uf xf0), ai m4 cyI 21 (f3 fk uk tk), ai m5 cyI 3 (t3 vs us xs0), ai m6 cyI 3 (t3 vb ub tb), ai m7 cyI 3 (t3 vd ud td), ai m8 cyI 3 (nF ct), ai m9 cyI 36 (q12 kd), ai m10 cyI 36 (q12 vl), ai m11 cyI 7 fr, ai m12 cyI 3 fp, ai m13 cyI 3 bp] H := hP
            have hD : va_D A [ob m0 4 [.int (nI n), .int kn, .int fz, .ref m1, .ref m2, .ref m3, .ref m4, .ref m5, .ref m6, .ref m7, .ref m8, .ref m9, .ref m10, .ref m11, .ref m12, .ref m13], ai m1 cyI 21 (f3 fh uh (upd xh0 i ((xh0 i) - (w / 4)))), ai m2 cyI 21 (f3 fg ug xg0), ai m3 cyI 21 (f3 ff uf xf0), ai m4 cyI 21 (f3 fk uk tk), ai m5 cyI 3 (t3 vs us xs0), ai m6 cyI 3 (t3 vb ub tb), ai m7 cyI 3 (t3 vd ud td), ai m8 cyI 3 (nF ct), ai m9 cyI 36 (q12 kd), ai m10 cyI 36 (q12 vl), ai m11 cyI 7 fr, ai m12 cyI 3 fp, ai m13 cyI 3 bp] := hD
            refine lv_aload_n hx hb dX4_flood_127 rfl (lv_at hl 0 rfl) ?_
            refine va_get (D := (dC, dI)) (ci := 4) (v := .ref m5) (C := RX4) (T := TX4) (N := 16) hx hb hts hin_X4 hown hK hP 0 rfl rfl 7 (by decide) hw_5 (fun _ h9 => h9) rfl dX4_flood_128 ?_
            refine lv_iload_n hx hb dX4_flood_131 rfl (lv_at hl 1 rfl) ?_
            refine lv_dup2_11 hx hb dX4_flood_132 rfl rfl ?_
            refine ra_iald hx hb hK hP 5 rfl 2 rfl (by omega) (Nat.le_of_ble_eq_true rfl) dX4_flood_133 ?_
            refine ra_top xs0 rfl ?_
            refine lv_iload_n hx hb dX4_flood_134 rfl (lv_at hl 2 rfl) ?_
            refine lv_iconst (v := 4) hx hb dX4_flood_135 (by decide) ?_
            refine lv_idiv hx hb dX4_flood_136 (by decide) ?_
            refine lv_iadd hx hb dX4_flood_137 ?_
            refine ra_iast hx hb hK hP hD hS 5 rfl 2 rfl (by omega) (Nat.le_of_ble_eq_true rfl) dX4_flood_138 (fun H locs hP hD hS => ?_)
            rw [t3_w2] at hP hD
            have hP : va_P (dC, dI) vwCl [ob m0 4 [.int (nI n), .int kn, .int fz, .ref m1, .ref m2, .ref m3, .ref m4, .ref m5, .ref m6, .ref m7, .ref m8, .ref m9, .ref m10, .ref m11, .ref m12, .ref m13], ai m1 cyI 21 (f3 fh uh (upd xh0 i ((xh0 i) - (w / 4)))), ai m2 cyI 21 (f3 fg ug xg0), ai m3 cyI 21 (f3 ff uf xf0), ai m4 cyI 21 (f3 fk uk tk), ai m5 cyI 3 (t3 vs us (xs0 + (w / 4))), ai m6 cyI 3 (t3 vb ub tb), ai m7 cyI 3 (t3 vd ud td), ai m8 cyI 3 (nF ct), ai m9 cyI 36 (q12 kd), ai m10 cyI 36 (q12 vl), ai m11 cyI 7 fr, ai m12 cyI 3 fp, ai m13 cyI 3 bp] H := hP
            have hD : va_D A [ob m0 4 [.int (nI n), .int kn, .int fz, .ref m1, .ref m2, .ref m3, .ref m4, .ref m5, .ref m6, .ref m7, .ref m8, .ref m9, .ref m10, .ref m11, .ref m12, .ref m13], ai m1 cyI 21 (f3 fh uh (upd xh0 i ((xh0 i) - (w / 4)))), ai m2 cyI 21 (f3 fg ug xg0), ai m3 cyI 21 (f3 ff uf xf0), ai m4 cyI 21 (f3 fk uk tk), ai m5 cyI 3 (t3 vs us (xs0 + (w / 4))), ai m6 cyI 3 (t3 vb ub tb), ai m7 cyI 3 (t3 vd ud td), ai m8 cyI 3 (nF ct), ai m9 cyI 36 (q12 kd), ai m10 cyI 36 (q12 vl), ai m11 cyI 7 fr, ai m12 cyI 3 fp, ai m13 cyI 3 bp] := hD
            refine lv_iload_n hx hb dX4_flood_139 rfl (lv_at hl 3 rfl) ?_
            rw [hQ]
            rw [← he]
            exact ra_iretW () hx hb hr hlocks rfl hK hP hD hS rfl dX4_flood_140
          · ---- on
            have n_94 := (nq_eq i n (by omega) (by omega)).mp c_94
            exfalso; omega
        · ---- on
          refine lv_bipush (v := 7) hx hb dX4_flood_25 (by decide) ?_
          refine lv_iload_n hx hb dX4_flood_27 rfl (lv_at hl 1 rfl) ?_
          refine lv_imul hx hb dX4_flood_28 ?_
          refine ra_top (14) (by decide) ?_
          refine lv_iload_n hx hb dX4_flood_29 rfl (lv_at hl 3 rfl) ?_
          refine lv_iadd hx hb dX4_flood_30 ?_
          refine ra_top (nI (14 + i)) (nI_add 14 i) ?_
          refine lv_istore (lv' := [(4, .int (nI (14 + i))), (0, .ref m0), (1, .int 2), (2, .int w), (3, .int (nI i))]) hx hb dX4_flood_31 hl (by decide) rfl (fun ls hl => ?_)
          refine lv_aload_n hx hb dX4_flood_33 rfl (lv_at hl 1 rfl) ?_
          refine va_get (D := (dC, dI)) (ci := 4) (v := .ref m1) (C := RX4) (T := TX4) (N := 16) hx hb hts hin_X4 hown hK hP 0 rfl rfl 3 (by decide) hw_4 (fun _ h9 => h9) rfl dX4_flood_34 ?_
          refine lv_iload hx hb dX4_flood_37 (lv_at hl 0 rfl) ?_
          refine ra_iald hx hb hK hP 1 rfl (14 + i) rfl (by omega) (Nat.le_of_ble_eq_true rfl) dX4_flood_39 ?_
          refine ra_top (xh0 i) (f3_r2 _ _ _ _) ?_
          refine lv_iconst (v := 2) hx hb dX4_flood_40 (by decide) ?_
          refine lv_idiv hx hb dX4_flood_41 (by decide) ?_
          refine lv_istore (lv' := [(5, .int ((xh0 i) / 2)), (4, .int (nI (14 + i))), (0, .ref m0), (1, .int 2), (2, .int w), (3, .int (nI i))]) hx hb dX4_flood_42 hl (by decide) rfl (fun ls hl => ?_)
          refine lv_aload_n hx hb dX4_flood_44 rfl (lv_at hl 2 rfl) ?_
          refine va_get (D := (dC, dI)) (ci := 4) (v := .ref m1) (C := RX4) (T := TX4) (N := 16) hx hb hts hin_X4 hown hK hP 0 rfl rfl 3 (by decide) hw_4 (fun _ h9 => h9) rfl dX4_flood_45 ?_
          refine lv_iload hx hb dX4_flood_48 (lv_at hl 1 rfl) ?_
          refine lv_dup2_11 hx hb dX4_flood_50 rfl rfl ?_
          refine ra_iald hx hb hK hP 1 rfl (14 + i) rfl (by omega) (Nat.le_of_ble_eq_true rfl) dX4_flood_51 ?_
          refine ra_top (xh0 i) (f3_r2 _ _ _ _) ?_
          refine lv_iload hx hb dX4_flood_52 (lv_at hl 0 rfl) ?_
          refine lv_isub hx hb dX4_flood_54 ?_
          refine ra_iast hx hb hK hP hD hS 1 rfl (14 + i) rfl (by omega) (Nat.le_of_ble_eq_true rfl) dX4_flood_55 (fun H locs hP hD hS => ?_)
          rw [f3_w2] at hP hD
          have hP : va_P (dC, dI) vwCl [ob m0 4 [.int (nI n), .int kn, .int fz, .ref m1, .ref m2, .ref m3, .ref m4, .ref m5, .ref m6, .ref m7, .ref m8, .ref m9, .ref m10, .ref m11, .ref m12, .ref m13], ai m1 cyI 21 (f3 fh uh (upd xh0 i ((xh0 i) - ((xh0 i) / 2)))), ai m2 cyI 21 (f3 fg ug xg0), ai m3 cyI 21 (f3 ff uf xf0), ai m4 cyI 21 (f3 fk uk tk), ai m5 cyI 3 (t3 vs us xs0), ai m6 cyI 3 (t3 vb ub tb), ai m7 cyI 3 (t3 vd ud td), ai m8 cyI 3 (nF ct), ai m9 cyI 36 (q12 kd), ai m10 cyI 36 (q12 vl), ai m11 cyI 7 fr, ai m12 cyI 3 fp, ai m13 cyI 3 bp] H := hP
          have hD : va_D A [ob m0 4 [.int (nI n), .int kn, .int fz, .ref m1, .ref m2, .ref m3, .ref m4, .ref m5, .ref m6, .ref m7, .ref m8, .ref m9, .ref m10, .ref m11, .ref m12, .ref m13], ai m1 cyI 21 (f3 fh uh (upd xh0 i ((xh0 i) - ((xh0 i) / 2)))), ai m2 cyI 21 (f3 fg ug xg0), ai m3 cyI 21 (f3 ff uf xf0), ai m4 cyI 21 (f3 fk uk tk), ai m5 cyI 3 (t3 vs us xs0), ai m6 cyI 3 (t3 vb ub tb), ai m7 cyI 3 (t3 vd ud td), ai m8 cyI 3 (nF ct), ai m9 cyI 36 (q12 kd), ai m10 cyI 36 (q12 vl), ai m11 cyI 7 fr, ai m12 cyI 3 fp, ai m13 cyI 3 bp] := hD
          refine lv_aload_n hx hb dX4_flood_56 rfl (lv_at hl 2 rfl) ?_
          refine va_get (D := (dC, dI)) (ci := 4) (v := .ref m5) (C := RX4) (T := TX4) (N := 16) hx hb hts hin_X4 hown hK hP 0 rfl rfl 7 (by decide) hw_5 (fun _ h9 => h9) rfl dX4_flood_57 ?_
          refine lv_iload_n hx hb dX4_flood_60 rfl (lv_at hl 3 rfl) ?_
          refine lv_dup2_11 hx hb dX4_flood_61 rfl rfl ?_
          refine ra_iald hx hb hK hP 5 rfl 2 rfl (by omega) (Nat.le_of_ble_eq_true rfl) dX4_flood_62 ?_
          refine ra_top xs0 rfl ?_
          refine lv_iload hx hb dX4_flood_63 (lv_at hl 0 rfl) ?_
          refine lv_iadd hx hb dX4_flood_65 ?_
          refine ra_iast hx hb hK hP hD hS 5 rfl 2 rfl (by omega) (Nat.le_of_ble_eq_true rfl) dX4_flood_66 (fun H locs hP hD hS => ?_)
          rw [t3_w2] at hP hD
          have hP : va_P (dC, dI) vwCl [ob m0 4 [.int (nI n), .int kn, .int fz, .ref m1, .ref m2, .ref m3, .ref m4, .ref m5, .ref m6, .ref m7, .ref m8, .ref m9, .ref m10, .ref m11, .ref m12, .ref m13], ai m1 cyI 21 (f3 fh uh (upd xh0 i ((xh0 i) - ((xh0 i) / 2)))), ai m2 cyI 21 (f3 fg ug xg0), ai m3 cyI 21 (f3 ff uf xf0), ai m4 cyI 21 (f3 fk uk tk), ai m5 cyI 3 (t3 vs us (xs0 + ((xh0 i) / 2))), ai m6 cyI 3 (t3 vb ub tb), ai m7 cyI 3 (t3 vd ud td), ai m8 cyI 3 (nF ct), ai m9 cyI 36 (q12 kd), ai m10 cyI 36 (q12 vl), ai m11 cyI 7 fr, ai m12 cyI 3 fp, ai m13 cyI 3 bp] H := hP
          have hD : va_D A [ob m0 4 [.int (nI n), .int kn, .int fz, .ref m1, .ref m2, .ref m3, .ref m4, .ref m5, .ref m6, .ref m7, .ref m8, .ref m9, .ref m10, .ref m11, .ref m12, .ref m13], ai m1 cyI 21 (f3 fh uh (upd xh0 i ((xh0 i) - ((xh0 i) / 2)))), ai m2 cyI 21 (f3 fg ug xg0), ai m3 cyI 21 (f3 ff uf xf0), ai m4 cyI 21 (f3 fk uk tk), ai m5 cyI 3 (t3 vs us (xs0 + ((xh0 i) / 2))), ai m6 cyI 3 (t3 vb ub tb), ai m7 cyI 3 (t3 vd ud td), ai m8 cyI 3 (nF ct), ai m9 cyI 36 (q12 kd), ai m10 cyI 36 (q12 vl), ai m11 cyI 7 fr, ai m12 cyI 3 fp, ai m13 cyI 3 bp] := hD
          refine lv_aload_n hx hb dX4_flood_67 rfl (lv_at hl 2 rfl) ?_
          refine va_get (D := (dC, dI)) (ci := 4) (v := .ref m2) (C := RX4) (T := TX4) (N := 16) hx hb hts hin_X4 hown hK hP 0 rfl rfl 4 (by decide) hw_6 (fun _ h9 => h9) rfl dX4_flood_68 ?_
          refine lv_iload hx hb dX4_flood_71 (lv_at hl 1 rfl) ?_
          refine lv_iconst (v := 0) hx hb dX4_flood_73 (by decide) ?_
          refine ra_iast hx hb hK hP hD hS 2 rfl (14 + i) rfl (by omega) (Nat.le_of_ble_eq_true rfl) dX4_flood_74 (fun H locs hP hD hS => ?_)
          rw [f3_w2] at hP hD
          have hP : va_P (dC, dI) vwCl [ob m0 4 [.int (nI n), .int kn, .int fz, .ref m1, .ref m2, .ref m3, .ref m4, .ref m5, .ref m6, .ref m7, .ref m8, .ref m9, .ref m10, .ref m11, .ref m12, .ref m13], ai m1 cyI 21 (f3 fh uh (upd xh0 i ((xh0 i) - ((xh0 i) / 2)))), ai m2 cyI 21 (f3 fg ug (upd xg0 i 0)), ai m3 cyI 21 (f3 ff uf xf0), ai m4 cyI 21 (f3 fk uk tk), ai m5 cyI 3 (t3 vs us (xs0 + ((xh0 i) / 2))), ai m6 cyI 3 (t3 vb ub tb), ai m7 cyI 3 (t3 vd ud td), ai m8 cyI 3 (nF ct), ai m9 cyI 36 (q12 kd), ai m10 cyI 36 (q12 vl), ai m11 cyI 7 fr, ai m12 cyI 3 fp, ai m13 cyI 3 bp] H := hP
          have hD : va_D A [ob m0 4 [.int (nI n), .int kn, .int fz, .ref m1, .ref m2, .ref m3, .ref m4, .ref m5, .ref m6, .ref m7, .ref m8, .ref m9, .ref m10, .ref m11, .ref m12, .ref m13], ai m1 cyI 21 (f3 fh uh (upd xh0 i ((xh0 i) - ((xh0 i) / 2)))), ai m2 cyI 21 (f3 fg ug (upd xg0 i 0)), ai m3 cyI 21 (f3 ff uf xf0), ai m4 cyI 21 (f3 fk uk tk), ai m5 cyI 3 (t3 vs us (xs0 + ((xh0 i) / 2))), ai m6 cyI 3 (t3 vb ub tb), ai m7 cyI 3 (t3 vd ud td), ai m8 cyI 3 (nF ct), ai m9 cyI 36 (q12 kd), ai m10 cyI 36 (q12 vl), ai m11 cyI 7 fr, ai m12 cyI 3 fp, ai m13 cyI 3 bp] := hD
          refine lv_aload_n hx hb dX4_flood_75 rfl (lv_at hl 2 rfl) ?_
          refine va_get (D := (dC, dI)) (ci := 4) (v := .ref m3) (C := RX4) (T := TX4) (N := 16) hx hb hts hin_X4 hown hK hP 0 rfl rfl 5 (by decide) hw_7 (fun _ h9 => h9) rfl dX4_flood_76 ?_
          refine lv_iload hx hb dX4_flood_79 (lv_at hl 1 rfl) ?_
          refine lv_iconst (v := 0) hx hb dX4_flood_81 (by decide) ?_
          refine ra_iast hx hb hK hP hD hS 3 rfl (14 + i) rfl (by omega) (Nat.le_of_ble_eq_true rfl) dX4_flood_82 (fun H locs hP hD hS => ?_)
          rw [f3_w2] at hP hD
          have hP : va_P (dC, dI) vwCl [ob m0 4 [.int (nI n), .int kn, .int fz, .ref m1, .ref m2, .ref m3, .ref m4, .ref m5, .ref m6, .ref m7, .ref m8, .ref m9, .ref m10, .ref m11, .ref m12, .ref m13], ai m1 cyI 21 (f3 fh uh (upd xh0 i ((xh0 i) - ((xh0 i) / 2)))), ai m2 cyI 21 (f3 fg ug (upd xg0 i 0)), ai m3 cyI 21 (f3 ff uf (upd xf0 i 0)), ai m4 cyI 21 (f3 fk uk tk), ai m5 cyI 3 (t3 vs us (xs0 + ((xh0 i) / 2))), ai m6 cyI 3 (t3 vb ub tb), ai m7 cyI 3 (t3 vd ud td), ai m8 cyI 3 (nF ct), ai m9 cyI 36 (q12 kd), ai m10 cyI 36 (q12 vl), ai m11 cyI 7 fr, ai m12 cyI 3 fp, ai m13 cyI 3 bp] H := hP
          have hD : va_D A [ob m0 4 [.int (nI n), .int kn, .int fz, .ref m1, .ref m2, .ref m3, .ref m4, .ref m5, .ref m6, .ref m7, .ref m8, .ref m9, .ref m10, .ref m11, .ref m12, .ref m13], ai m1 cyI 21 (f3 fh uh (upd xh0 i ((xh0 i) - ((xh0 i) / 2)))), ai m2 cyI 21 (f3 fg ug (upd xg0 i 0)), ai m3 cyI 21 (f3 ff uf (upd xf0 i 0)), ai m4 cyI 21 (f3 fk uk tk), ai m5 cyI 3 (t3 vs us (xs0 + ((xh0 i) / 2))), ai m6 cyI 3 (t3 vb ub tb), ai m7 cyI 3 (t3 vd ud td), ai m8 cyI 3 (nF ct), ai m9 cyI 36 (q12 kd), ai m10 cyI 36 (q12 vl), ai m11 cyI 7 fr, ai m12 cyI 3 fp, ai m13 cyI 3 bp] := hD
          refine lv_iinc (v := nI (i + 1)) (lv' := [(3, .int (nI (i + 1))), (5, .int ((xh0 i) / 2)), (4, .int (nI (14 + i))), (0, .ref m0), (1, .int 2), (2, .int w)]) hx hb dX4_flood_83 hl (k := 5) rfl (ra_inc1 _) (by decide) rfl (fun ls hl => ?_)
          refine lv_goto (tgt := 2) hx hb dX4_flood_86 (by decide) ?_
          exact ih_2 (i + 1) (upd xh0 i ((xh0 i) - ((xh0 i) / 2))) (upd xg0 i 0) (upd xf0 i 0) (xs0 + ((xh0 i) / 2)) (by omega) (by rw [← he, show n - i = n - (i + 1) + 1 by omega]; exact (if_pos (Int32.not_le.mp c_22)).symm) (by omega) H locs hP hD hS ls (lv_sub hl [3, 4, 5, 0] rfl)
  exact L_2 _ 0 th tg tf ts (by omega) rfl (Nat.lt_succ_self _) H locs hP hD hS ls (lv_sub hl [1, 2, 3, 0] rfl)

set_option maxHeartbeats 4000000 in
set_option maxRecDepth 100000 in
theorem c_X4_endYear2 (l : Launch) (dC : Nat → ClassId) (dI : Nat → Nat → Nat) (cyI cyA : ClassId) (m0 m1 m2 m3 m4 m5 m6 m7 m8 m9 m10 m11 m12 m13 n : Nat) (kn fz : Int32) (fh fg ff fk uh ug uf uk th tg tf tk : FN) (vs vb vd us ub ud ts tb td : Int32) (ct : Nat → Nat) (kd vl : Nat → FN) (fr fp bp : FN) (hn : n ≤ 7) (sz : Nat) : Met l yX4_endYear wsX4_endYear (rm 1) (kW dC dI cyI cyA [.ref m0, .int 2] sz [ob m0 4 [.int (nI n), .int kn, .int fz, .ref m1, .ref m2, .ref m3, .ref m4, .ref m5, .ref m6, .ref m7, .ref m8, .ref m9, .ref m10, .ref m11, .ref m12, .ref m13], ai m1 cyI 21 (f3 fh uh th), ai m2 cyI 21 (f3 fg ug tg), ai m3 cyI 21 (f3 ff uf tf), ai m4 cyI 21 (f3 fk uk tk), ai m5 cyI 3 (t3 vs us ts), ai m6 cyI 3 (t3 vb ub tb), ai m7 cyI 3 (t3 vd ud td), ai m8 cyI 3 (nF ct), ai m9 cyI 36 (q12 kd), ai m10 cyI 36 (q12 vl), ai m11 cyI 7 fr, ai m12 cyI 3 fp, ai m13 cyI 3 bp]) (qI dC dI cyI cyA (fun (r : Int32) (_ : Unit) => r = (yE num n 0 tg tk 0).1) (va_A [ob m0 4 [.int (nI n), .int kn, .int fz, .ref m1, .ref m2, .ref m3, .ref m4, .ref m5, .ref m6, .ref m7, .ref m8, .ref m9, .ref m10, .ref m11, .ref m12, .ref m13], ai m1 cyI 21 (f3 fh uh th), ai m2 cyI 21 (f3 fg ug tg), ai m3 cyI 21 (f3 ff uf tf), ai m4 cyI 21 (f3 fk uk tk), ai m5 cyI 3 (t3 vs us ts), ai m6 cyI 3 (t3 vb ub tb), ai m7 cyI 3 (t3 vd ud td), ai m8 cyI 3 (nF ct), ai m9 cyI 36 (q12 kd), ai m10 cyI 36 (q12 vl), ai m11 cyI 7 fr, ai m12 cyI 3 fp, ai m13 cyI 3 bp] sz) (fun _ => [ob m0 4 [.int (nI n), .int kn, .int fz, .ref m1, .ref m2, .ref m3, .ref m4, .ref m5, .ref m6, .ref m7, .ref m8, .ref m9, .ref m10, .ref m11, .ref m12, .ref m13], ai m1 cyI 21 (f3 fh uh th), ai m2 cyI 21 (f3 fg ug ((yE num n 0 tg tk 0).2.1)), ai m3 cyI 21 (f3 ff uf tf), ai m4 cyI 21 (f3 fk uk ((yE num n 0 tg tk 0).2.2)), ai m5 cyI 3 (t3 vs us ts), ai m6 cyI 3 (t3 vb ub tb), ai m7 cyI 3 (t3 vd ud td), ai m8 cyI 3 (nF ct), ai m9 cyI 36 (q12 kd), ai m10 cyI 36 (q12 vl), ai m11 cyI 7 fr, ai m12 cyI 3 fp, ai m13 cyI 3 bp])) 0 0 (va_A [ob m0 4 [.int (nI n), .int kn, .int fz, .ref m1, .ref m2, .ref m3, .ref m4, .ref m5, .ref m6, .ref m7, .ref m8, .ref m9, .ref m10, .ref m11, .ref m12, .ref m13], ai m1 cyI 21 (f3 fh uh th), ai m2 cyI 21 (f3 fg ug tg), ai m3 cyI 21 (f3 ff uf tf), ai m4 cyI 21 (f3 fk uk tk), ai m5 cyI 3 (t3 vs us ts), ai m6 cyI 3 (t3 vb ub tb), ai m7 cyI 3 (t3 vd ud td), ai m8 cyI 3 (nF ct), ai m9 cyI 36 (q12 kd), ai m10 cyI 36 (q12 vl), ai m11 cyI 7 fr, ai m12 cyI 3 fp, ai m13 cyI 3 bp] sz) := by
  refine ra_metW (cc := cX4_endYear) (maxL := 5) (Qc := fun A => qI dC dI cyI cyA (fun (r : Int32) (_ : Unit) => r = (yE num n 0 tg tk 0).1) A (fun _ => [ob m0 4 [.int (nI n), .int kn, .int fz, .ref m1, .ref m2, .ref m3, .ref m4, .ref m5, .ref m6, .ref m7, .ref m8, .ref m9, .ref m10, .ref m11, .ref m12, .ref m13], ai m1 cyI 21 (f3 fh uh th), ai m2 cyI 21 (f3 fg ug ((yE num n 0 tg tk 0).2.1)), ai m3 cyI 21 (f3 ff uf tf), ai m4 cyI 21 (f3 fk uk ((yE num n 0 tg tk 0).2.2)), ai m5 cyI 3 (t3 vs us ts), ai m6 cyI 3 (t3 vb ub tb), ai m7 cyI 3 (t3 vd ud td), ai m8 cyI 3 (nF ct), ai m9 cyI 36 (q12 kd), ai m10 cyI 36 (q12 vl), ai m11 cyI 7 fr, ai m12 cyI 3 fp, ai m13 cyI 3 bp])) (by decide) rfl (Nat.le_of_ble_eq_true rfl) ?_
  intro p e s m below meth c A args Q hQ hx hb hr hlocks hml hts hown hnm hK hN hP hD hA hS ls hl
  have hl : lv_has ls 5 [(0, .ref m0), (1, .int 2)] := hl
  have hown : s.vm.findClass RX4 = some m.cls := hown
  have hw_1 := hts (.fieldLink RX4 7 "DuneBenchModel" "n" "I") (by decide +kernel)
  have hin_X4 : ∀ w ∈ u_ws RX4 TX4 16, w ∈ wsX4_endYear := by decide +kernel
  have hw_3 := hts (.fieldLink RX4 20 "DuneBenchModel" "grass" "[I") (by decide +kernel)
  have hw_4 := hts (.fieldLink RX4 26 "DuneBenchModel" "gained" "[I") (by decide +kernel)
  obtain ⟨H, hHe⟩ : ∃ H, H = s.heap := ⟨_, rfl⟩
  obtain ⟨locs, hLe⟩ : ∃ locs : List Loc, locs = [] := ⟨_, rfl⟩
  have hP : va_P (dC, dI) vwCl [ob m0 4 [.int (nI n), .int kn, .int fz, .ref m1, .ref m2, .ref m3, .ref m4, .ref m5, .ref m6, .ref m7, .ref m8, .ref m9, .ref m10, .ref m11, .ref m12, .ref m13], ai m1 cyI 21 (f3 fh uh th), ai m2 cyI 21 (f3 fg ug tg), ai m3 cyI 21 (f3 ff uf tf), ai m4 cyI 21 (f3 fk uk tk), ai m5 cyI 3 (t3 vs us ts), ai m6 cyI 3 (t3 vb ub tb), ai m7 cyI 3 (t3 vd ud td), ai m8 cyI 3 (nF ct), ai m9 cyI 36 (q12 kd), ai m10 cyI 36 (q12 vl), ai m11 cyI 7 fr, ai m12 cyI 3 fp, ai m13 cyI 3 bp] H := by rw [hHe]; exact hP
  have hS : va_S A s.heap H locs := by rw [hHe, hLe]; exact hS
  suffices hgo : W p l e (rm 1) s m args below meth c H locs 0 0 Q (F0 m 0 ls []) by rw [hHe, hLe] at hgo; exact hgo
  refine lv_iconst (v := 0) hx hb dX4_endYear_0 (by decide) ?_
  refine lv_istore_n (lv' := [(2, .int 0), (0, .ref m0), (1, .int 2)]) hx hb dX4_endYear_1 rfl hl (by decide) rfl (fun ls hl => ?_)
  refine lv_bipush (v := 7) hx hb dX4_endYear_2 (by decide) ?_
  refine lv_iload_n hx hb dX4_endYear_4 rfl (lv_at hl 2 rfl) ?_
  refine lv_imul hx hb dX4_endYear_5 ?_
  refine ra_top (14) (by decide) ?_
  refine lv_istore_n (lv' := [(3, .int 14), (2, .int 0), (0, .ref m0), (1, .int 2)]) hx hb dX4_endYear_6 rfl hl (by decide) rfl (fun ls hl => ?_)
  have L_7 : ∀ (n9 : Nat) (i : Nat) (xg0 : FN) (xk0 : FN) (x : Int32), (i ≤ n) → (yE num (n - i) i xg0 xk0 x = yE num n 0 tg tk 0) → (n - i) < n9 → ∀ (H : Heap) (locs : List Loc), va_P (dC, dI) vwCl [ob m0 4 [.int (nI n), .int kn, .int fz, .ref m1, .ref m2, .ref m3, .ref m4, .ref m5, .ref m6, .ref m7, .ref m8, .ref m9, .ref m10, .ref m11, .ref m12, .ref m13], ai m1 cyI 21 (f3 fh uh th), ai m2 cyI 21 (f3 fg ug xg0), ai m3 cyI 21 (f3 ff uf tf), ai m4 cyI 21 (f3 fk uk xk0), ai m5 cyI 3 (t3 vs us ts), ai m6 cyI 3 (t3 vb ub tb), ai m7 cyI 3 (t3 vd ud td), ai m8 cyI 3 (nF ct), ai m9 cyI 36 (q12 kd), ai m10 cyI 36 (q12 vl), ai m11 cyI 7 fr, ai m12 cyI 3 fp, ai m13 cyI 3 bp] H → va_D A [ob m0 4 [.int (nI n), .int kn, .int fz, .ref m1, .ref m2, .ref m3, .ref m4, .ref m5, .ref m6, .ref m7, .ref m8, .ref m9, .ref m10, .ref m11, .ref m12, .ref m13], ai m1 cyI 21 (f3 fh uh th), ai m2 cyI 21 (f3 fg ug xg0), ai m3 cyI 21 (f3 ff uf tf), ai m4 cyI 21 (f3 fk uk xk0), ai m5 cyI 3 (t3 vs us ts), ai m6 cyI 3 (t3 vb ub tb), ai m7 cyI 3 (t3 vd ud td), ai m8 cyI 3 (nF ct), ai m9 cyI 36 (q12 kd), ai m10 cyI 36 (q12 vl), ai m11 cyI 7 fr, ai m12 cyI 3 fp, ai m13 cyI 3 bp] → va_S A s.heap H locs → ∀ ls : Array Slot, lv_has ls 5 [(0, .ref m0), (1, .int 2), (2, .int x), (3, .int (nI (14 + i)))] → W p l e (rm 1) s m args below meth c H locs 0 0 Q (F0 m 7 ls []) := by
    intro n9
    induction n9 with
    | zero =>
      intro i xg0 xk0 x hi he hm9
      exact absurd hm9 (Nat.not_lt_zero _)
    | succ n9 ih_7 =>
      intro i xg0 xk0 x hi he hm9 H locs hP hD hS ls hl
      refine lv_iload_n hx hb dX4_endYear_7 rfl (lv_at hl 3 rfl) ?_
      refine lv_bipush (v := 7) hx hb dX4_endYear_8 (by decide) ?_
      refine lv_iload_n hx hb dX4_endYear_10 rfl (lv_at hl 1 rfl) ?_
      refine lv_imul hx hb dX4_endYear_11 ?_
      refine ra_top (14) (by decide) ?_
      refine lv_aload_n hx hb dX4_endYear_12 rfl (lv_at hl 0 rfl) ?_
      refine va_get (D := (dC, dI)) (ci := 4) (v := .int (nI n)) (C := RX4) (T := TX4) (N := 16) hx hb hts hin_X4 hown hK hP 0 rfl rfl 0 (by decide) hw_1 (fun _ h9 => h9) rfl dX4_endYear_13 ?_
      refine lv_iadd hx hb dX4_endYear_16 ?_
      refine ra_top (nI (14 + n)) (nI_add 14 n) ?_
      refine lv_icmp_ge (tgt := 115) hx hb dX4_endYear_17 (by decide) (fun c_17 => ?_) (fun c_17 => ?_)
      · ---- to 115
        have n_17 := (nq_le (14 + n) (14 + i) (by omega) (by omega)).mp c_17
        have he : (x, xg0, xk0) = yE num n 0 tg tk 0 := by rw [← he, show n - i = 0 by omega]; rfl
        refine lv_iload_n hx hb dX4_endYear_115 rfl (lv_at hl 2 rfl) ?_
        rw [hQ]
        rw [← he]
        exact ra_iretW () hx hb hr hlocks rfl hK hP hD hS rfl dX4_endYear_116
      · ---- on
        have n_17 := (nq_le_n (14 + n) (14 + i) (by omega) (by omega)).mp c_17
        refine lv_aload_n hx hb dX4_endYear_20 rfl (lv_at hl 0 rfl) ?_
        refine va_get (D := (dC, dI)) (ci := 4) (v := .ref m2) (C := RX4) (T := TX4) (N := 16) hx hb hts hin_X4 hown hK hP 0 rfl rfl 4 (by decide) hw_3 (fun _ h9 => h9) rfl dX4_endYear_21 ?_
        refine lv_iload_n hx hb dX4_endYear_24 rfl (lv_at hl 3 rfl) ?_
        refine ra_iald hx hb hK hP 2 rfl (14 + i) rfl (by omega) (Nat.le_of_ble_eq_true rfl) dX4_endYear_25 ?_
        refine ra_top (xg0 i) (f3_r2 _ _ _ _) ?_
        refine lv_istore (lv' := [(4, .int (xg0 i)), (0, .ref m0), (1, .int 2), (2, .int x), (3, .int (nI (14 + i)))]) hx hb dX4_endYear_26 hl (by decide) rfl (fun ls hl => ?_)
        refine lv_iload hx hb dX4_endYear_28 (lv_at hl 0 rfl) ?_
        refine lv_if_le (tgt := 65) hx hb dX4_endYear_30 (by decide) (fun c_30 => ?_) (fun c_30 => ?_)
        · ---- to 65
          refine lv_aload_n hx hb dX4_endYear_65 rfl (lv_at hl 1 rfl) ?_
          refine va_get (D := (dC, dI)) (ci := 4) (v := .ref m4) (C := RX4) (T := TX4) (N := 16) hx hb hts hin_X4 hown hK hP 0 rfl rfl 6 (by decide) hw_4 (fun _ h9 => h9) rfl dX4_endYear_66 ?_
          refine lv_iload_n hx hb dX4_endYear_69 rfl (lv_at hl 4 rfl) ?_
          refine ra_iald hx hb hK hP 4 rfl (14 + i) rfl (by omega) (Nat.le_of_ble_eq_true rfl) dX4_endYear_70 ?_
          refine ra_top (xk0 i) (f3_r2 _ _ _ _) ?_
          refine lv_bipush (v := 30) hx hb dX4_endYear_71 (by decide) ?_
          refine lv_icmp_le (tgt := 83) hx hb dX4_endYear_73 (by decide) (fun c_73 => ?_) (fun c_73 => ?_)
          · ---- to 83
            have hnu : num (xg0 i) (xk0 i) = xg0 i := ((if_neg (Int32.not_lt.mpr c_73)).trans (if_neg (fun q => absurd q.1 (Int32.not_lt.mpr c_30))))
            have hP : va_P (dC, dI) vwCl [ob m0 4 [.int (nI n), .int kn, .int fz, .ref m1, .ref m2, .ref m3, .ref m4, .ref m5, .ref m6, .ref m7, .ref m8, .ref m9, .ref m10, .ref m11, .ref m12, .ref m13], ai m1 cyI 21 (f3 fh uh th), ai m2 cyI 21 (f3 fg ug (upd xg0 i (num (xg0 i) (xk0 i)))), ai m3 cyI 21 (f3 ff uf tf), ai m4 cyI 21 (f3 fk uk xk0), ai m5 cyI 3 (t3 vs us ts), ai m6 cyI 3 (t3 vb ub tb), ai m7 cyI 3 (t3 vd ud td), ai m8 cyI 3 (nF ct), ai m9 cyI 36 (q12 kd), ai m10 cyI 36 (q12 vl), ai m11 cyI 7 fr, ai m12 cyI 3 fp, ai m13 cyI 3 bp] H := by rw [hnu, upd_self]; exact hP
            have hD : va_D A [ob m0 4 [.int (nI n), .int kn, .int fz, .ref m1, .ref m2, .ref m3, .ref m4, .ref m5, .ref m6, .ref m7, .ref m8, .ref m9, .ref m10, .ref m11, .ref m12, .ref m13], ai m1 cyI 21 (f3 fh uh th), ai m2 cyI 21 (f3 fg ug (upd xg0 i (num (xg0 i) (xk0 i)))), ai m3 cyI 21 (f3 ff uf tf), ai m4 cyI 21 (f3 fk uk xk0), ai m5 cyI 3 (t3 vs us ts), ai m6 cyI 3 (t3 vb ub tb), ai m7 cyI 3 (t3 vd ud td), ai m8 cyI 3 (nF ct), ai m9 cyI 36 (q12 kd), ai m10 cyI 36 (q12 vl), ai m11 cyI 7 fr, ai m12 cyI 3 fp, ai m13 cyI 3 bp] := by rw [hnu, upd_self]; exact hD
            refine lv_iload_n hx hb dX4_endYear_83 rfl (lv_at hl 3 rfl) ?_
            refine lv_aload_n hx hb dX4_endYear_84 rfl (lv_at hl 1 rfl) ?_
            refine va_get (D := (dC, dI)) (ci := 4) (v := .ref m2) (C := RX4) (T := TX4) (N := 16) hx hb hts hin_X4 hown hK hP 0 rfl rfl 4 (by decide) hw_3 (fun _ h9 => h9) rfl dX4_endYear_85 ?_
            refine lv_iload_n hx hb dX4_endYear_88 rfl (lv_at hl 4 rfl) ?_
            refine ra_iald hx hb hK hP 2 rfl (14 + i) rfl (by omega) (Nat.le_of_ble_eq_true rfl) dX4_endYear_89 ?_
            refine ra_top (num (xg0 i) (xk0 i)) (by first | exact (f3_r2 _ _ _ _).trans pk_us | exact (f3_r0 _ _ _ (by omega)).trans pk_us) ?_
            refine lv_iload hx hb dX4_endYear_90 (lv_at hl 0 rfl) ?_
            refine lv_icmp_eq (tgt := 99) hx hb dX4_endYear_92 (by decide) (fun c_92 => ?_) (fun c_92 => ?_)
            · ---- to 99
              refine lv_iconst (v := 0) hx hb dX4_endYear_99 (by decide) ?_
              refine lv_iadd hx hb dX4_endYear_100 ?_
              refine lv_istore_n (lv' := [(2, .int (x + 0)), (4, .int (xg0 i)), (0, .ref m0), (1, .int 2), (3, .int (nI (14 + i)))]) hx hb dX4_endYear_101 rfl hl (by decide) rfl (fun ls hl => ?_)
              refine lv_aload_n hx hb dX4_endYear_102 rfl (lv_at hl 2 rfl) ?_
              refine va_get (D := (dC, dI)) (ci := 4) (v := .ref m4) (C := RX4) (T := TX4) (N := 16) hx hb hts hin_X4 hown hK hP 0 rfl rfl 6 (by decide) hw_4 (fun _ h9 => h9) rfl dX4_endYear_103 ?_
              refine lv_iload_n hx hb dX4_endYear_106 rfl (lv_at hl 4 rfl) ?_
              refine lv_iconst (v := 0) hx hb dX4_endYear_107 (by decide) ?_
              refine ra_iast hx hb hK hP hD hS 4 rfl (14 + i) rfl (by omega) (Nat.le_of_ble_eq_true rfl) dX4_endYear_108 (fun H locs hP hD hS => ?_)
              rw [f3_w2] at hP hD
              have hP : va_P (dC, dI) vwCl [ob m0 4 [.int (nI n), .int kn, .int fz, .ref m1, .ref m2, .ref m3, .ref m4, .ref m5, .ref m6, .ref m7, .ref m8, .ref m9, .ref m10, .ref m11, .ref m12, .ref m13], ai m1 cyI 21 (f3 fh uh th), ai m2 cyI 21 (f3 fg ug (upd xg0 i (num (xg0 i) (xk0 i)))), ai m3 cyI 21 (f3 ff uf tf), ai m4 cyI 21 (f3 fk uk (upd xk0 i 0)), ai m5 cyI 3 (t3 vs us ts), ai m6 cyI 3 (t3 vb ub tb), ai m7 cyI 3 (t3 vd ud td), ai m8 cyI 3 (nF ct), ai m9 cyI 36 (q12 kd), ai m10 cyI 36 (q12 vl), ai m11 cyI 7 fr, ai m12 cyI 3 fp, ai m13 cyI 3 bp] H := hP
              have hD : va_D A [ob m0 4 [.int (nI n), .int kn, .int fz, .ref m1, .ref m2, .ref m3, .ref m4, .ref m5, .ref m6, .ref m7, .ref m8, .ref m9, .ref m10, .ref m11, .ref m12, .ref m13], ai m1 cyI 21 (f3 fh uh th), ai m2 cyI 21 (f3 fg ug (upd xg0 i (num (xg0 i) (xk0 i)))), ai m3 cyI 21 (f3 ff uf tf), ai m4 cyI 21 (f3 fk uk (upd xk0 i 0)), ai m5 cyI 3 (t3 vs us ts), ai m6 cyI 3 (t3 vb ub tb), ai m7 cyI 3 (t3 vd ud td), ai m8 cyI 3 (nF ct), ai m9 cyI 36 (q12 kd), ai m10 cyI 36 (q12 vl), ai m11 cyI 7 fr, ai m12 cyI 3 fp, ai m13 cyI 3 bp] := hD
              refine lv_iinc (v := nI (14 + (i + 1))) (lv' := [(3, .int (nI (14 + (i + 1)))), (2, .int (x + 0)), (4, .int (xg0 i)), (0, .ref m0), (1, .int 2)]) hx hb dX4_endYear_109 hl (k := 4) rfl (ra_inc1 _) (by decide) rfl (fun ls hl => ?_)
              refine lv_goto (tgt := 7) hx hb dX4_endYear_112 (by decide) ?_
              exact ih_7 (i + 1) (upd xg0 i (num (xg0 i) (xk0 i))) (upd xk0 i 0) (x + 0) (by omega) (by rw [← he, show n - i = n - (i + 1) + 1 by omega]; show _ = yE num _ _ _ _ (if _ then _ else _); first | (rw [if_pos c_92, Int32.add_zero]; done) | (rw [if_neg c_92]; done)) (by omega) H locs hP hD hS ls (lv_sub hl [3, 4, 1, 0] rfl)
            · ---- on
              refine lv_iconst (v := 1) hx hb dX4_endYear_95 (by decide) ?_
              refine lv_goto (tgt := 100) hx hb dX4_endYear_96 (by decide) ?_
              refine lv_iadd hx hb dX4_endYear_100 ?_
              refine lv_istore_n (lv' := [(2, .int (x + 1)), (4, .int (xg0 i)), (0, .ref m0), (1, .int 2), (3, .int (nI (14 + i)))]) hx hb dX4_endYear_101 rfl hl (by decide) rfl (fun ls hl => ?_)
              refine lv_aload_n hx hb dX4_endYear_102 rfl (lv_at hl 2 rfl) ?_
              refine va_get (D := (dC, dI)) (ci := 4) (v := .ref m4) (C := RX4) (T := TX4) (N := 16) hx hb hts hin_X4 hown hK hP 0 rfl rfl 6 (by decide) hw_4 (fun _ h9 => h9) rfl dX4_endYear_103 ?_
              refine lv_iload_n hx hb dX4_endYear_106 rfl (lv_at hl 4 rfl) ?_
              refine lv_iconst (v := 0) hx hb dX4_endYear_107 (by decide) ?_
              refine ra_iast hx hb hK hP hD hS 4 rfl (14 + i) rfl (by omega) (Nat.le_of_ble_eq_true rfl) dX4_endYear_108 (fun H locs hP hD hS => ?_)
              rw [f3_w2] at hP hD
              have hP : va_P (dC, dI) vwCl [ob m0 4 [.int (nI n), .int kn, .int fz, .ref m1, .ref m2, .ref m3, .ref m4, .ref m5, .ref m6, .ref m7, .ref m8, .ref m9, .ref m10, .ref m11, .ref m12, .ref m13], ai m1 cyI 21 (f3 fh uh th), ai m2 cyI 21 (f3 fg ug (upd xg0 i (num (xg0 i) (xk0 i)))), ai m3 cyI 21 (f3 ff uf tf), ai m4 cyI 21 (f3 fk uk (upd xk0 i 0)), ai m5 cyI 3 (t3 vs us ts), ai m6 cyI 3 (t3 vb ub tb), ai m7 cyI 3 (t3 vd ud td), ai m8 cyI 3 (nF ct), ai m9 cyI 36 (q12 kd), ai m10 cyI 36 (q12 vl), ai m11 cyI 7 fr, ai m12 cyI 3 fp, ai m13 cyI 3 bp] H := hP
              have hD : va_D A [ob m0 4 [.int (nI n), .int kn, .int fz, .ref m1, .ref m2, .ref m3, .ref m4, .ref m5, .ref m6, .ref m7, .ref m8, .ref m9, .ref m10, .ref m11, .ref m12, .ref m13], ai m1 cyI 21 (f3 fh uh th), ai m2 cyI 21 (f3 fg ug (upd xg0 i (num (xg0 i) (xk0 i)))), ai m3 cyI 21 (f3 ff uf tf), ai m4 cyI 21 (f3 fk uk (upd xk0 i 0)), ai m5 cyI 3 (t3 vs us ts), ai m6 cyI 3 (t3 vb ub tb), ai m7 cyI 3 (t3 vd ud td), ai m8 cyI 3 (nF ct), ai m9 cyI 36 (q12 kd), ai m10 cyI 36 (q12 vl), ai m11 cyI 7 fr, ai m12 cyI 3 fp, ai m13 cyI 3 bp] := hD
              refine lv_iinc (v := nI (14 + (i + 1))) (lv' := [(3, .int (nI (14 + (i + 1)))), (2, .int (x + 1)), (4, .int (xg0 i)), (0, .ref m0), (1, .int 2)]) hx hb dX4_endYear_109 hl (k := 4) rfl (ra_inc1 _) (by decide) rfl (fun ls hl => ?_)
              refine lv_goto (tgt := 7) hx hb dX4_endYear_112 (by decide) ?_
              exact ih_7 (i + 1) (upd xg0 i (num (xg0 i) (xk0 i))) (upd xk0 i 0) (x + 1) (by omega) (by rw [← he, show n - i = n - (i + 1) + 1 by omega]; show _ = yE num _ _ _ _ (if _ then _ else _); first | (rw [if_pos c_92, Int32.add_zero]; done) | (rw [if_neg c_92]; done)) (by omega) H locs hP hD hS ls (lv_sub hl [3, 4, 1, 0] rfl)
          · ---- on
            refine lv_aload_n hx hb dX4_endYear_76 rfl (lv_at hl 1 rfl) ?_
            refine va_get (D := (dC, dI)) (ci := 4) (v := .ref m2) (C := RX4) (T := TX4) (N := 16) hx hb hts hin_X4 hown hK hP 0 rfl rfl 4 (by decide) hw_3 (fun _ h9 => h9) rfl dX4_endYear_77 ?_
            refine lv_iload_n hx hb dX4_endYear_80 rfl (lv_at hl 4 rfl) ?_
            refine lv_iconst (v := 0) hx hb dX4_endYear_81 (by decide) ?_
            refine ra_iast hx hb hK hP hD hS 2 rfl (14 + i) rfl (by omega) (Nat.le_of_ble_eq_true rfl) dX4_endYear_82 (fun H locs hP hD hS => ?_)
            rw [f3_w2] at hP hD
            have hP : va_P (dC, dI) vwCl [ob m0 4 [.int (nI n), .int kn, .int fz, .ref m1, .ref m2, .ref m3, .ref m4, .ref m5, .ref m6, .ref m7, .ref m8, .ref m9, .ref m10, .ref m11, .ref m12, .ref m13], ai m1 cyI 21 (f3 fh uh th), ai m2 cyI 21 (f3 fg ug (upd xg0 i 0)), ai m3 cyI 21 (f3 ff uf tf), ai m4 cyI 21 (f3 fk uk xk0), ai m5 cyI 3 (t3 vs us ts), ai m6 cyI 3 (t3 vb ub tb), ai m7 cyI 3 (t3 vd ud td), ai m8 cyI 3 (nF ct), ai m9 cyI 36 (q12 kd), ai m10 cyI 36 (q12 vl), ai m11 cyI 7 fr, ai m12 cyI 3 fp, ai m13 cyI 3 bp] H := hP
            have hD : va_D A [ob m0 4 [.int (nI n), .int kn, .int fz, .ref m1, .ref m2, .ref m3, .ref m4, .ref m5, .ref m6, .ref m7, .ref m8, .ref m9, .ref m10, .ref m11, .ref m12, .ref m13], ai m1 cyI 21 (f3 fh uh th), ai m2 cyI 21 (f3 fg ug (upd xg0 i 0)), ai m3 cyI 21 (f3 ff uf tf), ai m4 cyI 21 (f3 fk uk xk0), ai m5 cyI 3 (t3 vs us ts), ai m6 cyI 3 (t3 vb ub tb), ai m7 cyI 3 (t3 vd ud td), ai m8 cyI 3 (nF ct), ai m9 cyI 36 (q12 kd), ai m10 cyI 36 (q12 vl), ai m11 cyI 7 fr, ai m12 cyI 3 fp, ai m13 cyI 3 bp] := hD
            have hnu : num (xg0 i) (xk0 i) = 0 := (if_pos (Int32.not_le.mp c_73))
            have hP : va_P (dC, dI) vwCl [ob m0 4 [.int (nI n), .int kn, .int fz, .ref m1, .ref m2, .ref m3, .ref m4, .ref m5, .ref m6, .ref m7, .ref m8, .ref m9, .ref m10, .ref m11, .ref m12, .ref m13], ai m1 cyI 21 (f3 fh uh th), ai m2 cyI 21 (f3 fg ug (upd xg0 i (num (xg0 i) (xk0 i)))), ai m3 cyI 21 (f3 ff uf tf), ai m4 cyI 21 (f3 fk uk xk0), ai m5 cyI 3 (t3 vs us ts), ai m6 cyI 3 (t3 vb ub tb), ai m7 cyI 3 (t3 vd ud td), ai m8 cyI 3 (nF ct), ai m9 cyI 36 (q12 kd), ai m10 cyI 36 (q12 vl), ai m11 cyI 7 fr, ai m12 cyI 3 fp, ai m13 cyI 3 bp] H := by rw [hnu]; exact hP
            have hD : va_D A [ob m0 4 [.int (nI n), .int kn, .int fz, .ref m1, .ref m2, .ref m3, .ref m4, .ref m5, .ref m6, .ref m7, .ref m8, .ref m9, .ref m10, .ref m11, .ref m12, .ref m13], ai m1 cyI 21 (f3 fh uh th), ai m2 cyI 21 (f3 fg ug (upd xg0 i (num (xg0 i) (xk0 i)))), ai m3 cyI 21 (f3 ff uf tf), ai m4 cyI 21 (f3 fk uk xk0), ai m5 cyI 3 (t3 vs us ts), ai m6 cyI 3 (t3 vb ub tb), ai m7 cyI 3 (t3 vd ud td), ai m8 cyI 3 (nF ct), ai m9 cyI 36 (q12 kd), ai m10 cyI 36 (q12 vl), ai m11 cyI 7 fr, ai m12 cyI 3 fp, ai m13 cyI 3 bp] := by rw [hnu]; exact hD
            refine lv_iload_n hx hb dX4_endYear_83 rfl (lv_at hl 3 rfl) ?_
            refine lv_aload_n hx hb dX4_endYear_84 rfl (lv_at hl 1 rfl) ?_
            refine va_get (D := (dC, dI)) (ci := 4) (v := .ref m2) (C := RX4) (T := TX4) (N := 16) hx hb hts hin_X4 hown hK hP 0 rfl rfl 4 (by decide) hw_3 (fun _ h9 => h9) rfl dX4_endYear_85 ?_
            refine lv_iload_n hx hb dX4_endYear_88 rfl (lv_at hl 4 rfl) ?_
            refine ra_iald hx hb hK hP 2 rfl (14 + i) rfl (by omega) (Nat.le_of_ble_eq_true rfl) dX4_endYear_89 ?_
            refine ra_top (num (xg0 i) (xk0 i)) (by first | exact (f3_r2 _ _ _ _).trans pk_us | exact (f3_r0 _ _ _ (by omega)).trans pk_us) ?_
            refine lv_iload hx hb dX4_endYear_90 (lv_at hl 0 rfl) ?_
            refine lv_icmp_eq (tgt := 99) hx hb dX4_endYear_92 (by decide) (fun c_92 => ?_) (fun c_92 => ?_)
            · ---- to 99
              refine lv_iconst (v := 0) hx hb dX4_endYear_99 (by decide) ?_
              refine lv_iadd hx hb dX4_endYear_100 ?_
              refine lv_istore_n (lv' := [(2, .int (x + 0)), (4, .int (xg0 i)), (0, .ref m0), (1, .int 2), (3, .int (nI (14 + i)))]) hx hb dX4_endYear_101 rfl hl (by decide) rfl (fun ls hl => ?_)
              refine lv_aload_n hx hb dX4_endYear_102 rfl (lv_at hl 2 rfl) ?_
              refine va_get (D := (dC, dI)) (ci := 4) (v := .ref m4) (C := RX4) (T := TX4) (N := 16) hx hb hts hin_X4 hown hK hP 0 rfl rfl 6 (by decide) hw_4 (fun _ h9 => h9) rfl dX4_endYear_103 ?_
              refine lv_iload_n hx hb dX4_endYear_106 rfl (lv_at hl 4 rfl) ?_
              refine lv_iconst (v := 0) hx hb dX4_endYear_107 (by decide) ?_
              refine ra_iast hx hb hK hP hD hS 4 rfl (14 + i) rfl (by omega) (Nat.le_of_ble_eq_true rfl) dX4_endYear_108 (fun H locs hP hD hS => ?_)
              rw [f3_w2] at hP hD
              have hP : va_P (dC, dI) vwCl [ob m0 4 [.int (nI n), .int kn, .int fz, .ref m1, .ref m2, .ref m3, .ref m4, .ref m5, .ref m6, .ref m7, .ref m8, .ref m9, .ref m10, .ref m11, .ref m12, .ref m13], ai m1 cyI 21 (f3 fh uh th), ai m2 cyI 21 (f3 fg ug (upd xg0 i (num (xg0 i) (xk0 i)))), ai m3 cyI 21 (f3 ff uf tf), ai m4 cyI 21 (f3 fk uk (upd xk0 i 0)), ai m5 cyI 3 (t3 vs us ts), ai m6 cyI 3 (t3 vb ub tb), ai m7 cyI 3 (t3 vd ud td), ai m8 cyI 3 (nF ct), ai m9 cyI 36 (q12 kd), ai m10 cyI 36 (q12 vl), ai m11 cyI 7 fr, ai m12 cyI 3 fp, ai m13 cyI 3 bp] H := hP
              have hD : va_D A [ob m0 4 [.int (nI n), .int kn, .int fz, .ref m1, .ref m2, .ref m3, .ref m4, .ref m5, .ref m6, .ref m7, .ref m8, .ref m9, .ref m10, .ref m11, .ref m12, .ref m13], ai m1 cyI 21 (f3 fh uh th), ai m2 cyI 21 (f3 fg ug (upd xg0 i (num (xg0 i) (xk0 i)))), ai m3 cyI 21 (f3 ff uf tf), ai m4 cyI 21 (f3 fk uk (upd xk0 i 0)), ai m5 cyI 3 (t3 vs us ts), ai m6 cyI 3 (t3 vb ub tb), ai m7 cyI 3 (t3 vd ud td), ai m8 cyI 3 (nF ct), ai m9 cyI 36 (q12 kd), ai m10 cyI 36 (q12 vl), ai m11 cyI 7 fr, ai m12 cyI 3 fp, ai m13 cyI 3 bp] := hD
              refine lv_iinc (v := nI (14 + (i + 1))) (lv' := [(3, .int (nI (14 + (i + 1)))), (2, .int (x + 0)), (4, .int (xg0 i)), (0, .ref m0), (1, .int 2)]) hx hb dX4_endYear_109 hl (k := 4) rfl (ra_inc1 _) (by decide) rfl (fun ls hl => ?_)
              refine lv_goto (tgt := 7) hx hb dX4_endYear_112 (by decide) ?_
              exact ih_7 (i + 1) (upd xg0 i (num (xg0 i) (xk0 i))) (upd xk0 i 0) (x + 0) (by omega) (by rw [← he, show n - i = n - (i + 1) + 1 by omega]; show _ = yE num _ _ _ _ (if _ then _ else _); first | (rw [if_pos c_92, Int32.add_zero]; done) | (rw [if_neg c_92]; done)) (by omega) H locs hP hD hS ls (lv_sub hl [3, 4, 1, 0] rfl)
            · ---- on
              refine lv_iconst (v := 1) hx hb dX4_endYear_95 (by decide) ?_
              refine lv_goto (tgt := 100) hx hb dX4_endYear_96 (by decide) ?_
              refine lv_iadd hx hb dX4_endYear_100 ?_
              refine lv_istore_n (lv' := [(2, .int (x + 1)), (4, .int (xg0 i)), (0, .ref m0), (1, .int 2), (3, .int (nI (14 + i)))]) hx hb dX4_endYear_101 rfl hl (by decide) rfl (fun ls hl => ?_)
              refine lv_aload_n hx hb dX4_endYear_102 rfl (lv_at hl 2 rfl) ?_
              refine va_get (D := (dC, dI)) (ci := 4) (v := .ref m4) (C := RX4) (T := TX4) (N := 16) hx hb hts hin_X4 hown hK hP 0 rfl rfl 6 (by decide) hw_4 (fun _ h9 => h9) rfl dX4_endYear_103 ?_
              refine lv_iload_n hx hb dX4_endYear_106 rfl (lv_at hl 4 rfl) ?_
              refine lv_iconst (v := 0) hx hb dX4_endYear_107 (by decide) ?_
              refine ra_iast hx hb hK hP hD hS 4 rfl (14 + i) rfl (by omega) (Nat.le_of_ble_eq_true rfl) dX4_endYear_108 (fun H locs hP hD hS => ?_)
              rw [f3_w2] at hP hD
              have hP : va_P (dC, dI) vwCl [ob m0 4 [.int (nI n), .int kn, .int fz, .ref m1, .ref m2, .ref m3, .ref m4, .ref m5, .ref m6, .ref m7, .ref m8, .ref m9, .ref m10, .ref m11, .ref m12, .ref m13], ai m1 cyI 21 (f3 fh uh th), ai m2 cyI 21 (f3 fg ug (upd xg0 i (num (xg0 i) (xk0 i)))), ai m3 cyI 21 (f3 ff uf tf), ai m4 cyI 21 (f3 fk uk (upd xk0 i 0)), ai m5 cyI 3 (t3 vs us ts), ai m6 cyI 3 (t3 vb ub tb), ai m7 cyI 3 (t3 vd ud td), ai m8 cyI 3 (nF ct), ai m9 cyI 36 (q12 kd), ai m10 cyI 36 (q12 vl), ai m11 cyI 7 fr, ai m12 cyI 3 fp, ai m13 cyI 3 bp] H := hP
              have hD : va_D A [ob m0 4 [.int (nI n), .int kn, .int fz, .ref m1, .ref m2, .ref m3, .ref m4, .ref m5, .ref m6, .ref m7, .ref m8, .ref m9, .ref m10, .ref m11, .ref m12, .ref m13], ai m1 cyI 21 (f3 fh uh th), ai m2 cyI 21 (f3 fg ug (upd xg0 i (num (xg0 i) (xk0 i)))), ai m3 cyI 21 (f3 ff uf tf), ai m4 cyI 21 (f3 fk uk (upd xk0 i 0)), ai m5 cyI 3 (t3 vs us ts), ai m6 cyI 3 (t3 vb ub tb), ai m7 cyI 3 (t3 vd ud td), ai m8 cyI 3 (nF ct), ai m9 cyI 36 (q12 kd), ai m10 cyI 36 (q12 vl), ai m11 cyI 7 fr, ai m12 cyI 3 fp, ai m13 cyI 3 bp] := hD
              refine lv_iinc (v := nI (14 + (i + 1))) (lv' := [(3, .int (nI (14 + (i + 1)))), (2, .int (x + 1)), (4, .int (xg0 i)), (0, .ref m0), (1, .int 2)]) hx hb dX4_endYear_109 hl (k := 4) rfl (ra_inc1 _) (by decide) rfl (fun ls hl => ?_)
              refine lv_goto (tgt := 7) hx hb dX4_endYear_112 (by decide) ?_
              exact ih_7 (i + 1) (upd xg0 i (num (xg0 i) (xk0 i))) (upd xk0 i 0) (x + 1) (by omega) (by rw [← he, show n - i = n - (i + 1) + 1 by omega]; show _ = yE num _ _ _ _ (if _ then _ else _); first | (rw [if_pos c_92, Int32.add_zero]; done) | (rw [if_neg c_92]; done)) (by omega) H locs hP hD hS ls (lv_sub hl [3, 4, 1, 0] rfl)
        · ---- on
          refine lv_aload_n hx hb dX4_endYear_33 rfl (lv_at hl 1 rfl) ?_
          refine va_get (D := (dC, dI)) (ci := 4) (v := .ref m4) (C := RX4) (T := TX4) (N := 16) hx hb hts hin_X4 hown hK hP 0 rfl rfl 6 (by decide) hw_4 (fun _ h9 => h9) rfl dX4_endYear_34 ?_
          refine lv_iload_n hx hb dX4_endYear_37 rfl (lv_at hl 4 rfl) ?_
          refine ra_iald hx hb hK hP 4 rfl (14 + i) rfl (by omega) (Nat.le_of_ble_eq_true rfl) dX4_endYear_38 ?_
          refine ra_top (xk0 i) (f3_r2 _ _ _ _) ?_
          refine lv_iconst (v := 1) hx hb dX4_endYear_39 (by decide) ?_
          refine lv_bipush (v := 9) hx hb dX4_endYear_40 (by decide) ?_
          refine ra_cS (As := [.int (xk0 i), .int 1, .int 9]) (rest := []) ⟨hx, hb, hml, hown, hts⟩ (c_X4_in l (xk0 i) 1 9 ) (va_cwS 3 hts gX4_endYear_X4_in rfl rfl rfl (by decide +kernel) ⟨Nat.le_of_ble_eq_true rfl, Nat.le_of_ble_eq_true rfl⟩) hN rfl hl.1 rfl (Nat.le_of_ble_eq_true rfl) dX4_endYear_42 ⟨Nat.le_of_ble_eq_true rfl, Nat.le_of_ble_eq_true rfl⟩ ?_
          refine lv_if_eq (tgt := 65) hx hb dX4_endYear_45 (by decide) (fun c_45 => ?_) (fun c_45 => ?_)
          · ---- to 65
            have c_45 := bi_0 c_45
            refine lv_aload_n hx hb dX4_endYear_65 rfl (lv_at hl 1 rfl) ?_
            refine va_get (D := (dC, dI)) (ci := 4) (v := .ref m4) (C := RX4) (T := TX4) (N := 16) hx hb hts hin_X4 hown hK hP 0 rfl rfl 6 (by decide) hw_4 (fun _ h9 => h9) rfl dX4_endYear_66 ?_
            refine lv_iload_n hx hb dX4_endYear_69 rfl (lv_at hl 4 rfl) ?_
            refine ra_iald hx hb hK hP 4 rfl (14 + i) rfl (by omega) (Nat.le_of_ble_eq_true rfl) dX4_endYear_70 ?_
            refine ra_top (xk0 i) (f3_r2 _ _ _ _) ?_
            refine lv_bipush (v := 30) hx hb dX4_endYear_71 (by decide) ?_
            refine lv_icmp_le (tgt := 83) hx hb dX4_endYear_73 (by decide) (fun c_73 => ?_) (fun c_73 => ?_)
            · ---- to 83
              have hnu : num (xg0 i) (xk0 i) = xg0 i := ((if_neg (Int32.not_lt.mpr c_73)).trans (if_neg (fun q => c_45 q.2.1)))
              have hP : va_P (dC, dI) vwCl [ob m0 4 [.int (nI n), .int kn, .int fz, .ref m1, .ref m2, .ref m3, .ref m4, .ref m5, .ref m6, .ref m7, .ref m8, .ref m9, .ref m10, .ref m11, .ref m12, .ref m13], ai m1 cyI 21 (f3 fh uh th), ai m2 cyI 21 (f3 fg ug (upd xg0 i (num (xg0 i) (xk0 i)))), ai m3 cyI 21 (f3 ff uf tf), ai m4 cyI 21 (f3 fk uk xk0), ai m5 cyI 3 (t3 vs us ts), ai m6 cyI 3 (t3 vb ub tb), ai m7 cyI 3 (t3 vd ud td), ai m8 cyI 3 (nF ct), ai m9 cyI 36 (q12 kd), ai m10 cyI 36 (q12 vl), ai m11 cyI 7 fr, ai m12 cyI 3 fp, ai m13 cyI 3 bp] H := by rw [hnu, upd_self]; exact hP
              have hD : va_D A [ob m0 4 [.int (nI n), .int kn, .int fz, .ref m1, .ref m2, .ref m3, .ref m4, .ref m5, .ref m6, .ref m7, .ref m8, .ref m9, .ref m10, .ref m11, .ref m12, .ref m13], ai m1 cyI 21 (f3 fh uh th), ai m2 cyI 21 (f3 fg ug (upd xg0 i (num (xg0 i) (xk0 i)))), ai m3 cyI 21 (f3 ff uf tf), ai m4 cyI 21 (f3 fk uk xk0), ai m5 cyI 3 (t3 vs us ts), ai m6 cyI 3 (t3 vb ub tb), ai m7 cyI 3 (t3 vd ud td), ai m8 cyI 3 (nF ct), ai m9 cyI 36 (q12 kd), ai m10 cyI 36 (q12 vl), ai m11 cyI 7 fr, ai m12 cyI 3 fp, ai m13 cyI 3 bp] := by rw [hnu, upd_self]; exact hD
              refine lv_iload_n hx hb dX4_endYear_83 rfl (lv_at hl 3 rfl) ?_
              refine lv_aload_n hx hb dX4_endYear_84 rfl (lv_at hl 1 rfl) ?_
              refine va_get (D := (dC, dI)) (ci := 4) (v := .ref m2) (C := RX4) (T := TX4) (N := 16) hx hb hts hin_X4 hown hK hP 0 rfl rfl 4 (by decide) hw_3 (fun _ h9 => h9) rfl dX4_endYear_85 ?_
              refine lv_iload_n hx hb dX4_endYear_88 rfl (lv_at hl 4 rfl) ?_
              refine ra_iald hx hb hK hP 2 rfl (14 + i) rfl (by omega) (Nat.le_of_ble_eq_true rfl) dX4_endYear_89 ?_
              refine ra_top (num (xg0 i) (xk0 i)) (by first | exact (f3_r2 _ _ _ _).trans pk_us | exact (f3_r0 _ _ _ (by omega)).trans pk_us) ?_
              refine lv_iload hx hb dX4_endYear_90 (lv_at hl 0 rfl) ?_
              refine lv_icmp_eq (tgt := 99) hx hb dX4_endYear_92 (by decide) (fun c_92 => ?_) (fun c_92 => ?_)
              · ---- to 99
                refine lv_iconst (v := 0) hx hb dX4_endYear_99 (by decide) ?_
                refine lv_iadd hx hb dX4_endYear_100 ?_
                refine lv_istore_n (lv' := [(2, .int (x + 0)), (4, .int (xg0 i)), (0, .ref m0), (1, .int 2), (3, .int (nI (14 + i)))]) hx hb dX4_endYear_101 rfl hl (by decide) rfl (fun ls hl => ?_)
                refine lv_aload_n hx hb dX4_endYear_102 rfl (lv_at hl 2 rfl) ?_
                refine va_get (D := (dC, dI)) (ci := 4) (v := .ref m4) (C := RX4) (T := TX4) (N := 16) hx hb hts hin_X4 hown hK hP 0 rfl rfl 6 (by decide) hw_4 (fun _ h9 => h9) rfl dX4_endYear_103 ?_
                refine lv_iload_n hx hb dX4_endYear_106 rfl (lv_at hl 4 rfl) ?_
                refine lv_iconst (v := 0) hx hb dX4_endYear_107 (by decide) ?_
                refine ra_iast hx hb hK hP hD hS 4 rfl (14 + i) rfl (by omega) (Nat.le_of_ble_eq_true rfl) dX4_endYear_108 (fun H locs hP hD hS => ?_)
                rw [f3_w2] at hP hD
                have hP : va_P (dC, dI) vwCl [ob m0 4 [.int (nI n), .int kn, .int fz, .ref m1, .ref m2, .ref m3, .ref m4, .ref m5, .ref m6, .ref m7, .ref m8, .ref m9, .ref m10, .ref m11, .ref m12, .ref m13], ai m1 cyI 21 (f3 fh uh th), ai m2 cyI 21 (f3 fg ug (upd xg0 i (num (xg0 i) (xk0 i)))), ai m3 cyI 21 (f3 ff uf tf), ai m4 cyI 21 (f3 fk uk (upd xk0 i 0)), ai m5 cyI 3 (t3 vs us ts), ai m6 cyI 3 (t3 vb ub tb), ai m7 cyI 3 (t3 vd ud td), ai m8 cyI 3 (nF ct), ai m9 cyI 36 (q12 kd), ai m10 cyI 36 (q12 vl), ai m11 cyI 7 fr, ai m12 cyI 3 fp, ai m13 cyI 3 bp] H := hP
                have hD : va_D A [ob m0 4 [.int (nI n), .int kn, .int fz, .ref m1, .ref m2, .ref m3, .ref m4, .ref m5, .ref m6, .ref m7, .ref m8, .ref m9, .ref m10, .ref m11, .ref m12, .ref m13], ai m1 cyI 21 (f3 fh uh th), ai m2 cyI 21 (f3 fg ug (upd xg0 i (num (xg0 i) (xk0 i)))), ai m3 cyI 21 (f3 ff uf tf), ai m4 cyI 21 (f3 fk uk (upd xk0 i 0)), ai m5 cyI 3 (t3 vs us ts), ai m6 cyI 3 (t3 vb ub tb), ai m7 cyI 3 (t3 vd ud td), ai m8 cyI 3 (nF ct), ai m9 cyI 36 (q12 kd), ai m10 cyI 36 (q12 vl), ai m11 cyI 7 fr, ai m12 cyI 3 fp, ai m13 cyI 3 bp] := hD
                refine lv_iinc (v := nI (14 + (i + 1))) (lv' := [(3, .int (nI (14 + (i + 1)))), (2, .int (x + 0)), (4, .int (xg0 i)), (0, .ref m0), (1, .int 2)]) hx hb dX4_endYear_109 hl (k := 4) rfl (ra_inc1 _) (by decide) rfl (fun ls hl => ?_)
                refine lv_goto (tgt := 7) hx hb dX4_endYear_112 (by decide) ?_
                exact ih_7 (i + 1) (upd xg0 i (num (xg0 i) (xk0 i))) (upd xk0 i 0) (x + 0) (by omega) (by rw [← he, show n - i = n - (i + 1) + 1 by omega]; show _ = yE num _ _ _ _ (if _ then _ else _); first | (rw [if_pos c_92, Int32.add_zero]; done) | (rw [if_neg c_92]; done)) (by omega) H locs hP hD hS ls (lv_sub hl [3, 4, 1, 0] rfl)
              · ---- on
                refine lv_iconst (v := 1) hx hb dX4_endYear_95 (by decide) ?_
                refine lv_goto (tgt := 100) hx hb dX4_endYear_96 (by decide) ?_
                refine lv_iadd hx hb dX4_endYear_100 ?_
                refine lv_istore_n (lv' := [(2, .int (x + 1)), (4, .int (xg0 i)), (0, .ref m0), (1, .int 2), (3, .int (nI (14 + i)))]) hx hb dX4_endYear_101 rfl hl (by decide) rfl (fun ls hl => ?_)
                refine lv_aload_n hx hb dX4_endYear_102 rfl (lv_at hl 2 rfl) ?_
                refine va_get (D := (dC, dI)) (ci := 4) (v := .ref m4) (C := RX4) (T := TX4) (N := 16) hx hb hts hin_X4 hown hK hP 0 rfl rfl 6 (by decide) hw_4 (fun _ h9 => h9) rfl dX4_endYear_103 ?_
                refine lv_iload_n hx hb dX4_endYear_106 rfl (lv_at hl 4 rfl) ?_
                refine lv_iconst (v := 0) hx hb dX4_endYear_107 (by decide) ?_
                refine ra_iast hx hb hK hP hD hS 4 rfl (14 + i) rfl (by omega) (Nat.le_of_ble_eq_true rfl) dX4_endYear_108 (fun H locs hP hD hS => ?_)
                rw [f3_w2] at hP hD
                have hP : va_P (dC, dI) vwCl [ob m0 4 [.int (nI n), .int kn, .int fz, .ref m1, .ref m2, .ref m3, .ref m4, .ref m5, .ref m6, .ref m7, .ref m8, .ref m9, .ref m10, .ref m11, .ref m12, .ref m13], ai m1 cyI 21 (f3 fh uh th), ai m2 cyI 21 (f3 fg ug (upd xg0 i (num (xg0 i) (xk0 i)))), ai m3 cyI 21 (f3 ff uf tf), ai m4 cyI 21 (f3 fk uk (upd xk0 i 0)), ai m5 cyI 3 (t3 vs us ts), ai m6 cyI 3 (t3 vb ub tb), ai m7 cyI 3 (t3 vd ud td), ai m8 cyI 3 (nF ct), ai m9 cyI 36 (q12 kd), ai m10 cyI 36 (q12 vl), ai m11 cyI 7 fr, ai m12 cyI 3 fp, ai m13 cyI 3 bp] H := hP
                have hD : va_D A [ob m0 4 [.int (nI n), .int kn, .int fz, .ref m1, .ref m2, .ref m3, .ref m4, .ref m5, .ref m6, .ref m7, .ref m8, .ref m9, .ref m10, .ref m11, .ref m12, .ref m13], ai m1 cyI 21 (f3 fh uh th), ai m2 cyI 21 (f3 fg ug (upd xg0 i (num (xg0 i) (xk0 i)))), ai m3 cyI 21 (f3 ff uf tf), ai m4 cyI 21 (f3 fk uk (upd xk0 i 0)), ai m5 cyI 3 (t3 vs us ts), ai m6 cyI 3 (t3 vb ub tb), ai m7 cyI 3 (t3 vd ud td), ai m8 cyI 3 (nF ct), ai m9 cyI 36 (q12 kd), ai m10 cyI 36 (q12 vl), ai m11 cyI 7 fr, ai m12 cyI 3 fp, ai m13 cyI 3 bp] := hD
                refine lv_iinc (v := nI (14 + (i + 1))) (lv' := [(3, .int (nI (14 + (i + 1)))), (2, .int (x + 1)), (4, .int (xg0 i)), (0, .ref m0), (1, .int 2)]) hx hb dX4_endYear_109 hl (k := 4) rfl (ra_inc1 _) (by decide) rfl (fun ls hl => ?_)
                refine lv_goto (tgt := 7) hx hb dX4_endYear_112 (by decide) ?_
                exact ih_7 (i + 1) (upd xg0 i (num (xg0 i) (xk0 i))) (upd xk0 i 0) (x + 1) (by omega) (by rw [← he, show n - i = n - (i + 1) + 1 by omega]; show _ = yE num _ _ _ _ (if _ then _ else _); first | (rw [if_pos c_92, Int32.add_zero]; done) | (rw [if_neg c_92]; done)) (by omega) H locs hP hD hS ls (lv_sub hl [3, 4, 1, 0] rfl)
            · ---- on
              refine lv_aload_n hx hb dX4_endYear_76 rfl (lv_at hl 1 rfl) ?_
              refine va_get (D := (dC, dI)) (ci := 4) (v := .ref m2) (C := RX4) (T := TX4) (N := 16) hx hb hts hin_X4 hown hK hP 0 rfl rfl 4 (by decide) hw_3 (fun _ h9 => h9) rfl dX4_endYear_77 ?_
              refine lv_iload_n hx hb dX4_endYear_80 rfl (lv_at hl 4 rfl) ?_
              refine lv_iconst (v := 0) hx hb dX4_endYear_81 (by decide) ?_
              refine ra_iast hx hb hK hP hD hS 2 rfl (14 + i) rfl (by omega) (Nat.le_of_ble_eq_true rfl) dX4_endYear_82 (fun H locs hP hD hS => ?_)
              rw [f3_w2] at hP hD
              have hP : va_P (dC, dI) vwCl [ob m0 4 [.int (nI n), .int kn, .int fz, .ref m1, .ref m2, .ref m3, .ref m4, .ref m5, .ref m6, .ref m7, .ref m8, .ref m9, .ref m10, .ref m11, .ref m12, .ref m13], ai m1 cyI 21 (f3 fh uh th), ai m2 cyI 21 (f3 fg ug (upd xg0 i 0)), ai m3 cyI 21 (f3 ff uf tf), ai m4 cyI 21 (f3 fk uk xk0), ai m5 cyI 3 (t3 vs us ts), ai m6 cyI 3 (t3 vb ub tb), ai m7 cyI 3 (t3 vd ud td), ai m8 cyI 3 (nF ct), ai m9 cyI 36 (q12 kd), ai m10 cyI 36 (q12 vl), ai m11 cyI 7 fr, ai m12 cyI 3 fp, ai m13 cyI 3 bp] H := hP
              have hD : va_D A [ob m0 4 [.int (nI n), .int kn, .int fz, .ref m1, .ref m2, .ref m3, .ref m4, .ref m5, .ref m6, .ref m7, .ref m8, .ref m9, .ref m10, .ref m11, .ref m12, .ref m13], ai m1 cyI 21 (f3 fh uh th), ai m2 cyI 21 (f3 fg ug (upd xg0 i 0)), ai m3 cyI 21 (f3 ff uf tf), ai m4 cyI 21 (f3 fk uk xk0), ai m5 cyI 3 (t3 vs us ts), ai m6 cyI 3 (t3 vb ub tb), ai m7 cyI 3 (t3 vd ud td), ai m8 cyI 3 (nF ct), ai m9 cyI 36 (q12 kd), ai m10 cyI 36 (q12 vl), ai m11 cyI 7 fr, ai m12 cyI 3 fp, ai m13 cyI 3 bp] := hD
              have hnu : num (xg0 i) (xk0 i) = 0 := (if_pos (Int32.not_le.mp c_73))
              have hP : va_P (dC, dI) vwCl [ob m0 4 [.int (nI n), .int kn, .int fz, .ref m1, .ref m2, .ref m3, .ref m4, .ref m5, .ref m6, .ref m7, .ref m8, .ref m9, .ref m10, .ref m11, .ref m12, .ref m13], ai m1 cyI 21 (f3 fh uh th), ai m2 cyI 21 (f3 fg ug (upd xg0 i (num (xg0 i) (xk0 i)))), ai m3 cyI 21 (f3 ff uf tf), ai m4 cyI 21 (f3 fk uk xk0), ai m5 cyI 3 (t3 vs us ts), ai m6 cyI 3 (t3 vb ub tb), ai m7 cyI 3 (t3 vd ud td), ai m8 cyI 3 (nF ct), ai m9 cyI 36 (q12 kd), ai m10 cyI 36 (q12 vl), ai m11 cyI 7 fr, ai m12 cyI 3 fp, ai m13 cyI 3 bp] H := by rw [hnu]; exact hP
              have hD : va_D A [ob m0 4 [.int (nI n), .int kn, .int fz, .ref m1, .ref m2, .ref m3, .ref m4, .ref m5, .ref m6, .ref m7, .ref m8, .ref m9, .ref m10, .ref m11, .ref m12, .ref m13], ai m1 cyI 21 (f3 fh uh th), ai m2 cyI 21 (f3 fg ug (upd xg0 i (num (xg0 i) (xk0 i)))), ai m3 cyI 21 (f3 ff uf tf), ai m4 cyI 21 (f3 fk uk xk0), ai m5 cyI 3 (t3 vs us ts), ai m6 cyI 3 (t3 vb ub tb), ai m7 cyI 3 (t3 vd ud td), ai m8 cyI 3 (nF ct), ai m9 cyI 36 (q12 kd), ai m10 cyI 36 (q12 vl), ai m11 cyI 7 fr, ai m12 cyI 3 fp, ai m13 cyI 3 bp] := by rw [hnu]; exact hD
              refine lv_iload_n hx hb dX4_endYear_83 rfl (lv_at hl 3 rfl) ?_
              refine lv_aload_n hx hb dX4_endYear_84 rfl (lv_at hl 1 rfl) ?_
              refine va_get (D := (dC, dI)) (ci := 4) (v := .ref m2) (C := RX4) (T := TX4) (N := 16) hx hb hts hin_X4 hown hK hP 0 rfl rfl 4 (by decide) hw_3 (fun _ h9 => h9) rfl dX4_endYear_85 ?_
              refine lv_iload_n hx hb dX4_endYear_88 rfl (lv_at hl 4 rfl) ?_
              refine ra_iald hx hb hK hP 2 rfl (14 + i) rfl (by omega) (Nat.le_of_ble_eq_true rfl) dX4_endYear_89 ?_
              refine ra_top (num (xg0 i) (xk0 i)) (by first | exact (f3_r2 _ _ _ _).trans pk_us | exact (f3_r0 _ _ _ (by omega)).trans pk_us) ?_
              refine lv_iload hx hb dX4_endYear_90 (lv_at hl 0 rfl) ?_
              refine lv_icmp_eq (tgt := 99) hx hb dX4_endYear_92 (by decide) (fun c_92 => ?_) (fun c_92 => ?_)
              · ---- to 99
                refine lv_iconst (v := 0) hx hb dX4_endYear_99 (by decide) ?_
                refine lv_iadd hx hb dX4_endYear_100 ?_
                refine lv_istore_n (lv' := [(2, .int (x + 0)), (4, .int (xg0 i)), (0, .ref m0), (1, .int 2), (3, .int (nI (14 + i)))]) hx hb dX4_endYear_101 rfl hl (by decide) rfl (fun ls hl => ?_)
                refine lv_aload_n hx hb dX4_endYear_102 rfl (lv_at hl 2 rfl) ?_
                refine va_get (D := (dC, dI)) (ci := 4) (v := .ref m4) (C := RX4) (T := TX4) (N := 16) hx hb hts hin_X4 hown hK hP 0 rfl rfl 6 (by decide) hw_4 (fun _ h9 => h9) rfl dX4_endYear_103 ?_
                refine lv_iload_n hx hb dX4_endYear_106 rfl (lv_at hl 4 rfl) ?_
                refine lv_iconst (v := 0) hx hb dX4_endYear_107 (by decide) ?_
                refine ra_iast hx hb hK hP hD hS 4 rfl (14 + i) rfl (by omega) (Nat.le_of_ble_eq_true rfl) dX4_endYear_108 (fun H locs hP hD hS => ?_)
                rw [f3_w2] at hP hD
                have hP : va_P (dC, dI) vwCl [ob m0 4 [.int (nI n), .int kn, .int fz, .ref m1, .ref m2, .ref m3, .ref m4, .ref m5, .ref m6, .ref m7, .ref m8, .ref m9, .ref m10, .ref m11, .ref m12, .ref m13], ai m1 cyI 21 (f3 fh uh th), ai m2 cyI 21 (f3 fg ug (upd xg0 i (num (xg0 i) (xk0 i)))), ai m3 cyI 21 (f3 ff uf tf), ai m4 cyI 21 (f3 fk uk (upd xk0 i 0)), ai m5 cyI 3 (t3 vs us ts), ai m6 cyI 3 (t3 vb ub tb), ai m7 cyI 3 (t3 vd ud td), ai m8 cyI 3 (nF ct), ai m9 cyI 36 (q12 kd), ai m10 cyI 36 (q12 vl), ai m11 cyI 7 fr, ai m12 cyI 3 fp, ai m13 cyI 3 bp] H := hP
                have hD : va_D A [ob m0 4 [.int (nI n), .int kn, .int fz, .ref m1, .ref m2, .ref m3, .ref m4, .ref m5, .ref m6, .ref m7, .ref m8, .ref m9, .ref m10, .ref m11, .ref m12, .ref m13], ai m1 cyI 21 (f3 fh uh th), ai m2 cyI 21 (f3 fg ug (upd xg0 i (num (xg0 i) (xk0 i)))), ai m3 cyI 21 (f3 ff uf tf), ai m4 cyI 21 (f3 fk uk (upd xk0 i 0)), ai m5 cyI 3 (t3 vs us ts), ai m6 cyI 3 (t3 vb ub tb), ai m7 cyI 3 (t3 vd ud td), ai m8 cyI 3 (nF ct), ai m9 cyI 36 (q12 kd), ai m10 cyI 36 (q12 vl), ai m11 cyI 7 fr, ai m12 cyI 3 fp, ai m13 cyI 3 bp] := hD
                refine lv_iinc (v := nI (14 + (i + 1))) (lv' := [(3, .int (nI (14 + (i + 1)))), (2, .int (x + 0)), (4, .int (xg0 i)), (0, .ref m0), (1, .int 2)]) hx hb dX4_endYear_109 hl (k := 4) rfl (ra_inc1 _) (by decide) rfl (fun ls hl => ?_)
                refine lv_goto (tgt := 7) hx hb dX4_endYear_112 (by decide) ?_
                exact ih_7 (i + 1) (upd xg0 i (num (xg0 i) (xk0 i))) (upd xk0 i 0) (x + 0) (by omega) (by rw [← he, show n - i = n - (i + 1) + 1 by omega]; show _ = yE num _ _ _ _ (if _ then _ else _); first | (rw [if_pos c_92, Int32.add_zero]; done) | (rw [if_neg c_92]; done)) (by omega) H locs hP hD hS ls (lv_sub hl [3, 4, 1, 0] rfl)
              · ---- on
                refine lv_iconst (v := 1) hx hb dX4_endYear_95 (by decide) ?_
                refine lv_goto (tgt := 100) hx hb dX4_endYear_96 (by decide) ?_
                refine lv_iadd hx hb dX4_endYear_100 ?_
                refine lv_istore_n (lv' := [(2, .int (x + 1)), (4, .int (xg0 i)), (0, .ref m0), (1, .int 2), (3, .int (nI (14 + i)))]) hx hb dX4_endYear_101 rfl hl (by decide) rfl (fun ls hl => ?_)
                refine lv_aload_n hx hb dX4_endYear_102 rfl (lv_at hl 2 rfl) ?_
                refine va_get (D := (dC, dI)) (ci := 4) (v := .ref m4) (C := RX4) (T := TX4) (N := 16) hx hb hts hin_X4 hown hK hP 0 rfl rfl 6 (by decide) hw_4 (fun _ h9 => h9) rfl dX4_endYear_103 ?_
                refine lv_iload_n hx hb dX4_endYear_106 rfl (lv_at hl 4 rfl) ?_
                refine lv_iconst (v := 0) hx hb dX4_endYear_107 (by decide) ?_
                refine ra_iast hx hb hK hP hD hS 4 rfl (14 + i) rfl (by omega) (Nat.le_of_ble_eq_true rfl) dX4_endYear_108 (fun H locs hP hD hS => ?_)
                rw [f3_w2] at hP hD
                have hP : va_P (dC, dI) vwCl [ob m0 4 [.int (nI n), .int kn, .int fz, .ref m1, .ref m2, .ref m3, .ref m4, .ref m5, .ref m6, .ref m7, .ref m8, .ref m9, .ref m10, .ref m11, .ref m12, .ref m13], ai m1 cyI 21 (f3 fh uh th), ai m2 cyI 21 (f3 fg ug (upd xg0 i (num (xg0 i) (xk0 i)))), ai m3 cyI 21 (f3 ff uf tf), ai m4 cyI 21 (f3 fk uk (upd xk0 i 0)), ai m5 cyI 3 (t3 vs us ts), ai m6 cyI 3 (t3 vb ub tb), ai m7 cyI 3 (t3 vd ud td), ai m8 cyI 3 (nF ct), ai m9 cyI 36 (q12 kd), ai m10 cyI 36 (q12 vl), ai m11 cyI 7 fr, ai m12 cyI 3 fp, ai m13 cyI 3 bp] H := hP
                have hD : va_D A [ob m0 4 [.int (nI n), .int kn, .int fz, .ref m1, .ref m2, .ref m3, .ref m4, .ref m5, .ref m6, .ref m7, .ref m8, .ref m9, .ref m10, .ref m11, .ref m12, .ref m13], ai m1 cyI 21 (f3 fh uh th), ai m2 cyI 21 (f3 fg ug (upd xg0 i (num (xg0 i) (xk0 i)))), ai m3 cyI 21 (f3 ff uf tf), ai m4 cyI 21 (f3 fk uk (upd xk0 i 0)), ai m5 cyI 3 (t3 vs us ts), ai m6 cyI 3 (t3 vb ub tb), ai m7 cyI 3 (t3 vd ud td), ai m8 cyI 3 (nF ct), ai m9 cyI 36 (q12 kd), ai m10 cyI 36 (q12 vl), ai m11 cyI 7 fr, ai m12 cyI 3 fp, ai m13 cyI 3 bp] := hD
                refine lv_iinc (v := nI (14 + (i + 1))) (lv' := [(3, .int (nI (14 + (i + 1)))), (2, .int (x + 1)), (4, .int (xg0 i)), (0, .ref m0), (1, .int 2)]) hx hb dX4_endYear_109 hl (k := 4) rfl (ra_inc1 _) (by decide) rfl (fun ls hl => ?_)
                refine lv_goto (tgt := 7) hx hb dX4_endYear_112 (by decide) ?_
                exact ih_7 (i + 1) (upd xg0 i (num (xg0 i) (xk0 i))) (upd xk0 i 0) (x + 1) (by omega) (by rw [← he, show n - i = n - (i + 1) + 1 by omega]; show _ = yE num _ _ _ _ (if _ then _ else _); first | (rw [if_pos c_92, Int32.add_zero]; done) | (rw [if_neg c_92]; done)) (by omega) H locs hP hD hS ls (lv_sub hl [3, 4, 1, 0] rfl)
          · ---- on
            have c_45 := bi_1 c_45
            refine lv_iload hx hb dX4_endYear_48 (lv_at hl 0 rfl) ?_
            refine lv_bipush (v := 9) hx hb dX4_endYear_50 (by decide) ?_
            refine lv_icmp_ge (tgt := 65) hx hb dX4_endYear_52 (by decide) (fun c_52 => ?_) (fun c_52 => ?_)
            · ---- to 65
              refine lv_aload_n hx hb dX4_endYear_65 rfl (lv_at hl 1 rfl) ?_
              refine va_get (D := (dC, dI)) (ci := 4) (v := .ref m4) (C := RX4) (T := TX4) (N := 16) hx hb hts hin_X4 hown hK hP 0 rfl rfl 6 (by decide) hw_4 (fun _ h9 => h9) rfl dX4_endYear_66 ?_
              refine lv_iload_n hx hb dX4_endYear_69 rfl (lv_at hl 4 rfl) ?_
              refine ra_iald hx hb hK hP 4 rfl (14 + i) rfl (by omega) (Nat.le_of_ble_eq_true rfl) dX4_endYear_70 ?_
              refine ra_top (xk0 i) (f3_r2 _ _ _ _) ?_
              refine lv_bipush (v := 30) hx hb dX4_endYear_71 (by decide) ?_
              refine lv_icmp_le (tgt := 83) hx hb dX4_endYear_73 (by decide) (fun c_73 => ?_) (fun c_73 => ?_)
              · ---- to 83
                have hnu : num (xg0 i) (xk0 i) = xg0 i := ((if_neg (Int32.not_lt.mpr c_73)).trans (if_neg (fun q => absurd q.2.2 (Int32.not_lt.mpr c_52))))
                have hP : va_P (dC, dI) vwCl [ob m0 4 [.int (nI n), .int kn, .int fz, .ref m1, .ref m2, .ref m3, .ref m4, .ref m5, .ref m6, .ref m7, .ref m8, .ref m9, .ref m10, .ref m11, .ref m12, .ref m13], ai m1 cyI 21 (f3 fh uh th), ai m2 cyI 21 (f3 fg ug (upd xg0 i (num (xg0 i) (xk0 i)))), ai m3 cyI 21 (f3 ff uf tf), ai m4 cyI 21 (f3 fk uk xk0), ai m5 cyI 3 (t3 vs us ts), ai m6 cyI 3 (t3 vb ub tb), ai m7 cyI 3 (t3 vd ud td), ai m8 cyI 3 (nF ct), ai m9 cyI 36 (q12 kd), ai m10 cyI 36 (q12 vl), ai m11 cyI 7 fr, ai m12 cyI 3 fp, ai m13 cyI 3 bp] H := by rw [hnu, upd_self]; exact hP
                have hD : va_D A [ob m0 4 [.int (nI n), .int kn, .int fz, .ref m1, .ref m2, .ref m3, .ref m4, .ref m5, .ref m6, .ref m7, .ref m8, .ref m9, .ref m10, .ref m11, .ref m12, .ref m13], ai m1 cyI 21 (f3 fh uh th), ai m2 cyI 21 (f3 fg ug (upd xg0 i (num (xg0 i) (xk0 i)))), ai m3 cyI 21 (f3 ff uf tf), ai m4 cyI 21 (f3 fk uk xk0), ai m5 cyI 3 (t3 vs us ts), ai m6 cyI 3 (t3 vb ub tb), ai m7 cyI 3 (t3 vd ud td), ai m8 cyI 3 (nF ct), ai m9 cyI 36 (q12 kd), ai m10 cyI 36 (q12 vl), ai m11 cyI 7 fr, ai m12 cyI 3 fp, ai m13 cyI 3 bp] := by rw [hnu, upd_self]; exact hD
                refine lv_iload_n hx hb dX4_endYear_83 rfl (lv_at hl 3 rfl) ?_
                refine lv_aload_n hx hb dX4_endYear_84 rfl (lv_at hl 1 rfl) ?_
                refine va_get (D := (dC, dI)) (ci := 4) (v := .ref m2) (C := RX4) (T := TX4) (N := 16) hx hb hts hin_X4 hown hK hP 0 rfl rfl 4 (by decide) hw_3 (fun _ h9 => h9) rfl dX4_endYear_85 ?_
                refine lv_iload_n hx hb dX4_endYear_88 rfl (lv_at hl 4 rfl) ?_
                refine ra_iald hx hb hK hP 2 rfl (14 + i) rfl (by omega) (Nat.le_of_ble_eq_true rfl) dX4_endYear_89 ?_
                refine ra_top (num (xg0 i) (xk0 i)) (by first | exact (f3_r2 _ _ _ _).trans pk_us | exact (f3_r0 _ _ _ (by omega)).trans pk_us) ?_
                refine lv_iload hx hb dX4_endYear_90 (lv_at hl 0 rfl) ?_
                refine lv_icmp_eq (tgt := 99) hx hb dX4_endYear_92 (by decide) (fun c_92 => ?_) (fun c_92 => ?_)
                · ---- to 99
                  refine lv_iconst (v := 0) hx hb dX4_endYear_99 (by decide) ?_
                  refine lv_iadd hx hb dX4_endYear_100 ?_
                  refine lv_istore_n (lv' := [(2, .int (x + 0)), (4, .int (xg0 i)), (0, .ref m0), (1, .int 2), (3, .int (nI (14 + i)))]) hx hb dX4_endYear_101 rfl hl (by decide) rfl (fun ls hl => ?_)
                  refine lv_aload_n hx hb dX4_endYear_102 rfl (lv_at hl 2 rfl) ?_
                  refine va_get (D := (dC, dI)) (ci := 4) (v := .ref m4) (C := RX4) (T := TX4) (N := 16) hx hb hts hin_X4 hown hK hP 0 rfl rfl 6 (by decide) hw_4 (fun _ h9 => h9) rfl dX4_endYear_103 ?_
                  refine lv_iload_n hx hb dX4_endYear_106 rfl (lv_at hl 4 rfl) ?_
                  refine lv_iconst (v := 0) hx hb dX4_endYear_107 (by decide) ?_
                  refine ra_iast hx hb hK hP hD hS 4 rfl (14 + i) rfl (by omega) (Nat.le_of_ble_eq_true rfl) dX4_endYear_108 (fun H locs hP hD hS => ?_)
                  rw [f3_w2] at hP hD
                  have hP : va_P (dC, dI) vwCl [ob m0 4 [.int (nI n), .int kn, .int fz, .ref m1, .ref m2, .ref m3, .ref m4, .ref m5, .ref m6, .ref m7, .ref m8, .ref m9, .ref m10, .ref m11, .ref m12, .ref m13], ai m1 cyI 21 (f3 fh uh th), ai m2 cyI 21 (f3 fg ug (upd xg0 i (num (xg0 i) (xk0 i)))), ai m3 cyI 21 (f3 ff uf tf), ai m4 cyI 21 (f3 fk uk (upd xk0 i 0)), ai m5 cyI 3 (t3 vs us ts), ai m6 cyI 3 (t3 vb ub tb), ai m7 cyI 3 (t3 vd ud td), ai m8 cyI 3 (nF ct), ai m9 cyI 36 (q12 kd), ai m10 cyI 36 (q12 vl), ai m11 cyI 7 fr, ai m12 cyI 3 fp, ai m13 cyI 3 bp] H := hP
                  have hD : va_D A [ob m0 4 [.int (nI n), .int kn, .int fz, .ref m1, .ref m2, .ref m3, .ref m4, .ref m5, .ref m6, .ref m7, .ref m8, .ref m9, .ref m10, .ref m11, .ref m12, .ref m13], ai m1 cyI 21 (f3 fh uh th), ai m2 cyI 21 (f3 fg ug (upd xg0 i (num (xg0 i) (xk0 i)))), ai m3 cyI 21 (f3 ff uf tf), ai m4 cyI 21 (f3 fk uk (upd xk0 i 0)), ai m5 cyI 3 (t3 vs us ts), ai m6 cyI 3 (t3 vb ub tb), ai m7 cyI 3 (t3 vd ud td), ai m8 cyI 3 (nF ct), ai m9 cyI 36 (q12 kd), ai m10 cyI 36 (q12 vl), ai m11 cyI 7 fr, ai m12 cyI 3 fp, ai m13 cyI 3 bp] := hD
                  refine lv_iinc (v := nI (14 + (i + 1))) (lv' := [(3, .int (nI (14 + (i + 1)))), (2, .int (x + 0)), (4, .int (xg0 i)), (0, .ref m0), (1, .int 2)]) hx hb dX4_endYear_109 hl (k := 4) rfl (ra_inc1 _) (by decide) rfl (fun ls hl => ?_)
                  refine lv_goto (tgt := 7) hx hb dX4_endYear_112 (by decide) ?_
                  exact ih_7 (i + 1) (upd xg0 i (num (xg0 i) (xk0 i))) (upd xk0 i 0) (x + 0) (by omega) (by rw [← he, show n - i = n - (i + 1) + 1 by omega]; show _ = yE num _ _ _ _ (if _ then _ else _); first | (rw [if_pos c_92, Int32.add_zero]; done) | (rw [if_neg c_92]; done)) (by omega) H locs hP hD hS ls (lv_sub hl [3, 4, 1, 0] rfl)
                · ---- on
                  refine lv_iconst (v := 1) hx hb dX4_endYear_95 (by decide) ?_
                  refine lv_goto (tgt := 100) hx hb dX4_endYear_96 (by decide) ?_
                  refine lv_iadd hx hb dX4_endYear_100 ?_
                  refine lv_istore_n (lv' := [(2, .int (x + 1)), (4, .int (xg0 i)), (0, .ref m0), (1, .int 2), (3, .int (nI (14 + i)))]) hx hb dX4_endYear_101 rfl hl (by decide) rfl (fun ls hl => ?_)
                  refine lv_aload_n hx hb dX4_endYear_102 rfl (lv_at hl 2 rfl) ?_
                  refine va_get (D := (dC, dI)) (ci := 4) (v := .ref m4) (C := RX4) (T := TX4) (N := 16) hx hb hts hin_X4 hown hK hP 0 rfl rfl 6 (by decide) hw_4 (fun _ h9 => h9) rfl dX4_endYear_103 ?_
                  refine lv_iload_n hx hb dX4_endYear_106 rfl (lv_at hl 4 rfl) ?_
                  refine lv_iconst (v := 0) hx hb dX4_endYear_107 (by decide) ?_
                  refine ra_iast hx hb hK hP hD hS 4 rfl (14 + i) rfl (by omega) (Nat.le_of_ble_eq_true rfl) dX4_endYear_108 (fun H locs hP hD hS => ?_)
                  rw [f3_w2] at hP hD
                  have hP : va_P (dC, dI) vwCl [ob m0 4 [.int (nI n), .int kn, .int fz, .ref m1, .ref m2, .ref m3, .ref m4, .ref m5, .ref m6, .ref m7, .ref m8, .ref m9, .ref m10, .ref m11, .ref m12, .ref m13], ai m1 cyI 21 (f3 fh uh th), ai m2 cyI 21 (f3 fg ug (upd xg0 i (num (xg0 i) (xk0 i)))), ai m3 cyI 21 (f3 ff uf tf), ai m4 cyI 21 (f3 fk uk (upd xk0 i 0)), ai m5 cyI 3 (t3 vs us ts), ai m6 cyI 3 (t3 vb ub tb), ai m7 cyI 3 (t3 vd ud td), ai m8 cyI 3 (nF ct), ai m9 cyI 36 (q12 kd), ai m10 cyI 36 (q12 vl), ai m11 cyI 7 fr, ai m12 cyI 3 fp, ai m13 cyI 3 bp] H := hP
                  have hD : va_D A [ob m0 4 [.int (nI n), .int kn, .int fz, .ref m1, .ref m2, .ref m3, .ref m4, .ref m5, .ref m6, .ref m7, .ref m8, .ref m9, .ref m10, .ref m11, .ref m12, .ref m13], ai m1 cyI 21 (f3 fh uh th), ai m2 cyI 21 (f3 fg ug (upd xg0 i (num (xg0 i) (xk0 i)))), ai m3 cyI 21 (f3 ff uf tf), ai m4 cyI 21 (f3 fk uk (upd xk0 i 0)), ai m5 cyI 3 (t3 vs us ts), ai m6 cyI 3 (t3 vb ub tb), ai m7 cyI 3 (t3 vd ud td), ai m8 cyI 3 (nF ct), ai m9 cyI 36 (q12 kd), ai m10 cyI 36 (q12 vl), ai m11 cyI 7 fr, ai m12 cyI 3 fp, ai m13 cyI 3 bp] := hD
                  refine lv_iinc (v := nI (14 + (i + 1))) (lv' := [(3, .int (nI (14 + (i + 1)))), (2, .int (x + 1)), (4, .int (xg0 i)), (0, .ref m0), (1, .int 2)]) hx hb dX4_endYear_109 hl (k := 4) rfl (ra_inc1 _) (by decide) rfl (fun ls hl => ?_)
                  refine lv_goto (tgt := 7) hx hb dX4_endYear_112 (by decide) ?_
                  exact ih_7 (i + 1) (upd xg0 i (num (xg0 i) (xk0 i))) (upd xk0 i 0) (x + 1) (by omega) (by rw [← he, show n - i = n - (i + 1) + 1 by omega]; show _ = yE num _ _ _ _ (if _ then _ else _); first | (rw [if_pos c_92, Int32.add_zero]; done) | (rw [if_neg c_92]; done)) (by omega) H locs hP hD hS ls (lv_sub hl [3, 4, 1, 0] rfl)
              · ---- on
                refine lv_aload_n hx hb dX4_endYear_76 rfl (lv_at hl 1 rfl) ?_
                refine va_get (D := (dC, dI)) (ci := 4) (v := .ref m2) (C := RX4) (T := TX4) (N := 16) hx hb hts hin_X4 hown hK hP 0 rfl rfl 4 (by decide) hw_3 (fun _ h9 => h9) rfl dX4_endYear_77 ?_
                refine lv_iload_n hx hb dX4_endYear_80 rfl (lv_at hl 4 rfl) ?_
                refine lv_iconst (v := 0) hx hb dX4_endYear_81 (by decide) ?_
                refine ra_iast hx hb hK hP hD hS 2 rfl (14 + i) rfl (by omega) (Nat.le_of_ble_eq_true rfl) dX4_endYear_82 (fun H locs hP hD hS => ?_)
                rw [f3_w2] at hP hD
                have hP : va_P (dC, dI) vwCl [ob m0 4 [.int (nI n), .int kn, .int fz, .ref m1, .ref m2, .ref m3, .ref m4, .ref m5, .ref m6, .ref m7, .ref m8, .ref m9, .ref m10, .ref m11, .ref m12, .ref m13], ai m1 cyI 21 (f3 fh uh th), ai m2 cyI 21 (f3 fg ug (upd xg0 i 0)), ai m3 cyI 21 (f3 ff uf tf), ai m4 cyI 21 (f3 fk uk xk0), ai m5 cyI 3 (t3 vs us ts), ai m6 cyI 3 (t3 vb ub tb), ai m7 cyI 3 (t3 vd ud td), ai m8 cyI 3 (nF ct), ai m9 cyI 36 (q12 kd), ai m10 cyI 36 (q12 vl), ai m11 cyI 7 fr, ai m12 cyI 3 fp, ai m13 cyI 3 bp] H := hP
                have hD : va_D A [ob m0 4 [.int (nI n), .int kn, .int fz, .ref m1, .ref m2, .ref m3, .ref m4, .ref m5, .ref m6, .ref m7, .ref m8, .ref m9, .ref m10, .ref m11, .ref m12, .ref m13], ai m1 cyI 21 (f3 fh uh th), ai m2 cyI 21 (f3 fg ug (upd xg0 i 0)), ai m3 cyI 21 (f3 ff uf tf), ai m4 cyI 21 (f3 fk uk xk0), ai m5 cyI 3 (t3 vs us ts), ai m6 cyI 3 (t3 vb ub tb), ai m7 cyI 3 (t3 vd ud td), ai m8 cyI 3 (nF ct), ai m9 cyI 36 (q12 kd), ai m10 cyI 36 (q12 vl), ai m11 cyI 7 fr, ai m12 cyI 3 fp, ai m13 cyI 3 bp] := hD
                have hnu : num (xg0 i) (xk0 i) = 0 := (if_pos (Int32.not_le.mp c_73))
                have hP : va_P (dC, dI) vwCl [ob m0 4 [.int (nI n), .int kn, .int fz, .ref m1, .ref m2, .ref m3, .ref m4, .ref m5, .ref m6, .ref m7, .ref m8, .ref m9, .ref m10, .ref m11, .ref m12, .ref m13], ai m1 cyI 21 (f3 fh uh th), ai m2 cyI 21 (f3 fg ug (upd xg0 i (num (xg0 i) (xk0 i)))), ai m3 cyI 21 (f3 ff uf tf), ai m4 cyI 21 (f3 fk uk xk0), ai m5 cyI 3 (t3 vs us ts), ai m6 cyI 3 (t3 vb ub tb), ai m7 cyI 3 (t3 vd ud td), ai m8 cyI 3 (nF ct), ai m9 cyI 36 (q12 kd), ai m10 cyI 36 (q12 vl), ai m11 cyI 7 fr, ai m12 cyI 3 fp, ai m13 cyI 3 bp] H := by rw [hnu]; exact hP
                have hD : va_D A [ob m0 4 [.int (nI n), .int kn, .int fz, .ref m1, .ref m2, .ref m3, .ref m4, .ref m5, .ref m6, .ref m7, .ref m8, .ref m9, .ref m10, .ref m11, .ref m12, .ref m13], ai m1 cyI 21 (f3 fh uh th), ai m2 cyI 21 (f3 fg ug (upd xg0 i (num (xg0 i) (xk0 i)))), ai m3 cyI 21 (f3 ff uf tf), ai m4 cyI 21 (f3 fk uk xk0), ai m5 cyI 3 (t3 vs us ts), ai m6 cyI 3 (t3 vb ub tb), ai m7 cyI 3 (t3 vd ud td), ai m8 cyI 3 (nF ct), ai m9 cyI 36 (q12 kd), ai m10 cyI 36 (q12 vl), ai m11 cyI 7 fr, ai m12 cyI 3 fp, ai m13 cyI 3 bp] := by rw [hnu]; exact hD
                refine lv_iload_n hx hb dX4_endYear_83 rfl (lv_at hl 3 rfl) ?_
                refine lv_aload_n hx hb dX4_endYear_84 rfl (lv_at hl 1 rfl) ?_
                refine va_get (D := (dC, dI)) (ci := 4) (v := .ref m2) (C := RX4) (T := TX4) (N := 16) hx hb hts hin_X4 hown hK hP 0 rfl rfl 4 (by decide) hw_3 (fun _ h9 => h9) rfl dX4_endYear_85 ?_
                refine lv_iload_n hx hb dX4_endYear_88 rfl (lv_at hl 4 rfl) ?_
                refine ra_iald hx hb hK hP 2 rfl (14 + i) rfl (by omega) (Nat.le_of_ble_eq_true rfl) dX4_endYear_89 ?_
                refine ra_top (num (xg0 i) (xk0 i)) (by first | exact (f3_r2 _ _ _ _).trans pk_us | exact (f3_r0 _ _ _ (by omega)).trans pk_us) ?_
                refine lv_iload hx hb dX4_endYear_90 (lv_at hl 0 rfl) ?_
                refine lv_icmp_eq (tgt := 99) hx hb dX4_endYear_92 (by decide) (fun c_92 => ?_) (fun c_92 => ?_)
                · ---- to 99
                  refine lv_iconst (v := 0) hx hb dX4_endYear_99 (by decide) ?_
                  refine lv_iadd hx hb dX4_endYear_100 ?_
                  refine lv_istore_n (lv' := [(2, .int (x + 0)), (4, .int (xg0 i)), (0, .ref m0), (1, .int 2), (3, .int (nI (14 + i)))]) hx hb dX4_endYear_101 rfl hl (by decide) rfl (fun ls hl => ?_)
                  refine lv_aload_n hx hb dX4_endYear_102 rfl (lv_at hl 2 rfl) ?_
                  refine va_get (D := (dC, dI)) (ci := 4) (v := .ref m4) (C := RX4) (T := TX4) (N := 16) hx hb hts hin_X4 hown hK hP 0 rfl rfl 6 (by decide) hw_4 (fun _ h9 => h9) rfl dX4_endYear_103 ?_
                  refine lv_iload_n hx hb dX4_endYear_106 rfl (lv_at hl 4 rfl) ?_
                  refine lv_iconst (v := 0) hx hb dX4_endYear_107 (by decide) ?_
                  refine ra_iast hx hb hK hP hD hS 4 rfl (14 + i) rfl (by omega) (Nat.le_of_ble_eq_true rfl) dX4_endYear_108 (fun H locs hP hD hS => ?_)
                  rw [f3_w2] at hP hD
                  have hP : va_P (dC, dI) vwCl [ob m0 4 [.int (nI n), .int kn, .int fz, .ref m1, .ref m2, .ref m3, .ref m4, .ref m5, .ref m6, .ref m7, .ref m8, .ref m9, .ref m10, .ref m11, .ref m12, .ref m13], ai m1 cyI 21 (f3 fh uh th), ai m2 cyI 21 (f3 fg ug (upd xg0 i (num (xg0 i) (xk0 i)))), ai m3 cyI 21 (f3 ff uf tf), ai m4 cyI 21 (f3 fk uk (upd xk0 i 0)), ai m5 cyI 3 (t3 vs us ts), ai m6 cyI 3 (t3 vb ub tb), ai m7 cyI 3 (t3 vd ud td), ai m8 cyI 3 (nF ct), ai m9 cyI 36 (q12 kd), ai m10 cyI 36 (q12 vl), ai m11 cyI 7 fr, ai m12 cyI 3 fp, ai m13 cyI 3 bp] H := hP
                  have hD : va_D A [ob m0 4 [.int (nI n), .int kn, .int fz, .ref m1, .ref m2, .ref m3, .ref m4, .ref m5, .ref m6, .ref m7, .ref m8, .ref m9, .ref m10, .ref m11, .ref m12, .ref m13], ai m1 cyI 21 (f3 fh uh th), ai m2 cyI 21 (f3 fg ug (upd xg0 i (num (xg0 i) (xk0 i)))), ai m3 cyI 21 (f3 ff uf tf), ai m4 cyI 21 (f3 fk uk (upd xk0 i 0)), ai m5 cyI 3 (t3 vs us ts), ai m6 cyI 3 (t3 vb ub tb), ai m7 cyI 3 (t3 vd ud td), ai m8 cyI 3 (nF ct), ai m9 cyI 36 (q12 kd), ai m10 cyI 36 (q12 vl), ai m11 cyI 7 fr, ai m12 cyI 3 fp, ai m13 cyI 3 bp] := hD
                  refine lv_iinc (v := nI (14 + (i + 1))) (lv' := [(3, .int (nI (14 + (i + 1)))), (2, .int (x + 0)), (4, .int (xg0 i)), (0, .ref m0), (1, .int 2)]) hx hb dX4_endYear_109 hl (k := 4) rfl (ra_inc1 _) (by decide) rfl (fun ls hl => ?_)
                  refine lv_goto (tgt := 7) hx hb dX4_endYear_112 (by decide) ?_
                  exact ih_7 (i + 1) (upd xg0 i (num (xg0 i) (xk0 i))) (upd xk0 i 0) (x + 0) (by omega) (by rw [← he, show n - i = n - (i + 1) + 1 by omega]; show _ = yE num _ _ _ _ (if _ then _ else _); first | (rw [if_pos c_92, Int32.add_zero]; done) | (rw [if_neg c_92]; done)) (by omega) H locs hP hD hS ls (lv_sub hl [3, 4, 1, 0] rfl)
                · ---- on
                  refine lv_iconst (v := 1) hx hb dX4_endYear_95 (by decide) ?_
                  refine lv_goto (tgt := 100) hx hb dX4_endYear_96 (by decide) ?_
                  refine lv_iadd hx hb dX4_endYear_100 ?_
                  refine lv_istore_n (lv' := [(2, .int (x + 1)), (4, .int (xg0 i)), (0, .ref m0), (1, .int 2), (3, .int (nI (14 + i)))]) hx hb dX4_endYear_101 rfl hl (by decide) rfl (fun ls hl => ?_)
                  refine lv_aload_n hx hb dX4_endYear_102 rfl (lv_at hl 2 rfl) ?_
                  refine va_get (D := (dC, dI)) (ci := 4) (v := .ref m4) (C := RX4) (T := TX4) (N := 16) hx hb hts hin_X4 hown hK hP 0 rfl rfl 6 (by decide) hw_4 (fun _ h9 => h9) rfl dX4_endYear_103 ?_
                  refine lv_iload_n hx hb dX4_endYear_106 rfl (lv_at hl 4 rfl) ?_
                  refine lv_iconst (v := 0) hx hb dX4_endYear_107 (by decide) ?_
                  refine ra_iast hx hb hK hP hD hS 4 rfl (14 + i) rfl (by omega) (Nat.le_of_ble_eq_true rfl) dX4_endYear_108 (fun H locs hP hD hS => ?_)
                  rw [f3_w2] at hP hD
                  have hP : va_P (dC, dI) vwCl [ob m0 4 [.int (nI n), .int kn, .int fz, .ref m1, .ref m2, .ref m3, .ref m4, .ref m5, .ref m6, .ref m7, .ref m8, .ref m9, .ref m10, .ref m11, .ref m12, .ref m13], ai m1 cyI 21 (f3 fh uh th), ai m2 cyI 21 (f3 fg ug (upd xg0 i (num (xg0 i) (xk0 i)))), ai m3 cyI 21 (f3 ff uf tf), ai m4 cyI 21 (f3 fk uk (upd xk0 i 0)), ai m5 cyI 3 (t3 vs us ts), ai m6 cyI 3 (t3 vb ub tb), ai m7 cyI 3 (t3 vd ud td), ai m8 cyI 3 (nF ct), ai m9 cyI 36 (q12 kd), ai m10 cyI 36 (q12 vl), ai m11 cyI 7 fr, ai m12 cyI 3 fp, ai m13 cyI 3 bp] H := hP
                  have hD : va_D A [ob m0 4 [.int (nI n), .int kn, .int fz, .ref m1, .ref m2, .ref m3, .ref m4, .ref m5, .ref m6, .ref m7, .ref m8, .ref m9, .ref m10, .ref m11, .ref m12, .ref m13], ai m1 cyI 21 (f3 fh uh th), ai m2 cyI 21 (f3 fg ug (upd xg0 i (num (xg0 i) (xk0 i)))), ai m3 cyI 21 (f3 ff uf tf), ai m4 cyI 21 (f3 fk uk (upd xk0 i 0)), ai m5 cyI 3 (t3 vs us ts), ai m6 cyI 3 (t3 vb ub tb), ai m7 cyI 3 (t3 vd ud td), ai m8 cyI 3 (nF ct), ai m9 cyI 36 (q12 kd), ai m10 cyI 36 (q12 vl), ai m11 cyI 7 fr, ai m12 cyI 3 fp, ai m13 cyI 3 bp] := hD
                  refine lv_iinc (v := nI (14 + (i + 1))) (lv' := [(3, .int (nI (14 + (i + 1)))), (2, .int (x + 1)), (4, .int (xg0 i)), (0, .ref m0), (1, .int 2)]) hx hb dX4_endYear_109 hl (k := 4) rfl (ra_inc1 _) (by decide) rfl (fun ls hl => ?_)
                  refine lv_goto (tgt := 7) hx hb dX4_endYear_112 (by decide) ?_
                  exact ih_7 (i + 1) (upd xg0 i (num (xg0 i) (xk0 i))) (upd xk0 i 0) (x + 1) (by omega) (by rw [← he, show n - i = n - (i + 1) + 1 by omega]; show _ = yE num _ _ _ _ (if _ then _ else _); first | (rw [if_pos c_92, Int32.add_zero]; done) | (rw [if_neg c_92]; done)) (by omega) H locs hP hD hS ls (lv_sub hl [3, 4, 1, 0] rfl)
            · ---- on
              refine lv_aload_n hx hb dX4_endYear_55 rfl (lv_at hl 1 rfl) ?_
              refine va_get (D := (dC, dI)) (ci := 4) (v := .ref m2) (C := RX4) (T := TX4) (N := 16) hx hb hts hin_X4 hown hK hP 0 rfl rfl 4 (by decide) hw_3 (fun _ h9 => h9) rfl dX4_endYear_56 ?_
              refine lv_iload_n hx hb dX4_endYear_59 rfl (lv_at hl 4 rfl) ?_
              refine lv_iload hx hb dX4_endYear_60 (lv_at hl 0 rfl) ?_
              refine lv_iconst (v := 1) hx hb dX4_endYear_62 (by decide) ?_
              refine lv_iadd hx hb dX4_endYear_63 ?_
              refine ra_iast hx hb hK hP hD hS 2 rfl (14 + i) rfl (by omega) (Nat.le_of_ble_eq_true rfl) dX4_endYear_64 (fun H locs hP hD hS => ?_)
              rw [f3_w2] at hP hD
              have hP : va_P (dC, dI) vwCl [ob m0 4 [.int (nI n), .int kn, .int fz, .ref m1, .ref m2, .ref m3, .ref m4, .ref m5, .ref m6, .ref m7, .ref m8, .ref m9, .ref m10, .ref m11, .ref m12, .ref m13], ai m1 cyI 21 (f3 fh uh th), ai m2 cyI 21 (f3 fg ug (upd xg0 i ((xg0 i) + 1))), ai m3 cyI 21 (f3 ff uf tf), ai m4 cyI 21 (f3 fk uk xk0), ai m5 cyI 3 (t3 vs us ts), ai m6 cyI 3 (t3 vb ub tb), ai m7 cyI 3 (t3 vd ud td), ai m8 cyI 3 (nF ct), ai m9 cyI 36 (q12 kd), ai m10 cyI 36 (q12 vl), ai m11 cyI 7 fr, ai m12 cyI 3 fp, ai m13 cyI 3 bp] H := hP
              have hD : va_D A [ob m0 4 [.int (nI n), .int kn, .int fz, .ref m1, .ref m2, .ref m3, .ref m4, .ref m5, .ref m6, .ref m7, .ref m8, .ref m9, .ref m10, .ref m11, .ref m12, .ref m13], ai m1 cyI 21 (f3 fh uh th), ai m2 cyI 21 (f3 fg ug (upd xg0 i ((xg0 i) + 1))), ai m3 cyI 21 (f3 ff uf tf), ai m4 cyI 21 (f3 fk uk xk0), ai m5 cyI 3 (t3 vs us ts), ai m6 cyI 3 (t3 vb ub tb), ai m7 cyI 3 (t3 vd ud td), ai m8 cyI 3 (nF ct), ai m9 cyI 36 (q12 kd), ai m10 cyI 36 (q12 vl), ai m11 cyI 7 fr, ai m12 cyI 3 fp, ai m13 cyI 3 bp] := hD
              refine lv_aload_n hx hb dX4_endYear_65 rfl (lv_at hl 1 rfl) ?_
              refine va_get (D := (dC, dI)) (ci := 4) (v := .ref m4) (C := RX4) (T := TX4) (N := 16) hx hb hts hin_X4 hown hK hP 0 rfl rfl 6 (by decide) hw_4 (fun _ h9 => h9) rfl dX4_endYear_66 ?_
              refine lv_iload_n hx hb dX4_endYear_69 rfl (lv_at hl 4 rfl) ?_
              refine ra_iald hx hb hK hP 4 rfl (14 + i) rfl (by omega) (Nat.le_of_ble_eq_true rfl) dX4_endYear_70 ?_
              refine ra_top (xk0 i) (f3_r2 _ _ _ _) ?_
              refine lv_bipush (v := 30) hx hb dX4_endYear_71 (by decide) ?_
              refine lv_icmp_le (tgt := 83) hx hb dX4_endYear_73 (by decide) (fun c_73 => ?_) (fun c_73 => ?_)
              · ---- to 83
                have hnu : num (xg0 i) (xk0 i) = xg0 i + 1 := ((if_neg (Int32.not_lt.mpr c_73)).trans (if_pos ⟨Int32.not_le.mp c_30, c_45, Int32.not_le.mp c_52⟩))
                have hP : va_P (dC, dI) vwCl [ob m0 4 [.int (nI n), .int kn, .int fz, .ref m1, .ref m2, .ref m3, .ref m4, .ref m5, .ref m6, .ref m7, .ref m8, .ref m9, .ref m10, .ref m11, .ref m12, .ref m13], ai m1 cyI 21 (f3 fh uh th), ai m2 cyI 21 (f3 fg ug (upd xg0 i (num (xg0 i) (xk0 i)))), ai m3 cyI 21 (f3 ff uf tf), ai m4 cyI 21 (f3 fk uk xk0), ai m5 cyI 3 (t3 vs us ts), ai m6 cyI 3 (t3 vb ub tb), ai m7 cyI 3 (t3 vd ud td), ai m8 cyI 3 (nF ct), ai m9 cyI 36 (q12 kd), ai m10 cyI 36 (q12 vl), ai m11 cyI 7 fr, ai m12 cyI 3 fp, ai m13 cyI 3 bp] H := by rw [hnu]; exact hP
                have hD : va_D A [ob m0 4 [.int (nI n), .int kn, .int fz, .ref m1, .ref m2, .ref m3, .ref m4, .ref m5, .ref m6, .ref m7, .ref m8, .ref m9, .ref m10, .ref m11, .ref m12, .ref m13], ai m1 cyI 21 (f3 fh uh th), ai m2 cyI 21 (f3 fg ug (upd xg0 i (num (xg0 i) (xk0 i)))), ai m3 cyI 21 (f3 ff uf tf), ai m4 cyI 21 (f3 fk uk xk0), ai m5 cyI 3 (t3 vs us ts), ai m6 cyI 3 (t3 vb ub tb), ai m7 cyI 3 (t3 vd ud td), ai m8 cyI 3 (nF ct), ai m9 cyI 36 (q12 kd), ai m10 cyI 36 (q12 vl), ai m11 cyI 7 fr, ai m12 cyI 3 fp, ai m13 cyI 3 bp] := by rw [hnu]; exact hD
                refine lv_iload_n hx hb dX4_endYear_83 rfl (lv_at hl 3 rfl) ?_
                refine lv_aload_n hx hb dX4_endYear_84 rfl (lv_at hl 1 rfl) ?_
                refine va_get (D := (dC, dI)) (ci := 4) (v := .ref m2) (C := RX4) (T := TX4) (N := 16) hx hb hts hin_X4 hown hK hP 0 rfl rfl 4 (by decide) hw_3 (fun _ h9 => h9) rfl dX4_endYear_85 ?_
                refine lv_iload_n hx hb dX4_endYear_88 rfl (lv_at hl 4 rfl) ?_
                refine ra_iald hx hb hK hP 2 rfl (14 + i) rfl (by omega) (Nat.le_of_ble_eq_true rfl) dX4_endYear_89 ?_
                refine ra_top (num (xg0 i) (xk0 i)) (by first | exact (f3_r2 _ _ _ _).trans pk_us | exact (f3_r0 _ _ _ (by omega)).trans pk_us) ?_
                refine lv_iload hx hb dX4_endYear_90 (lv_at hl 0 rfl) ?_
                refine lv_icmp_eq (tgt := 99) hx hb dX4_endYear_92 (by decide) (fun c_92 => ?_) (fun c_92 => ?_)
                · ---- to 99
                  refine lv_iconst (v := 0) hx hb dX4_endYear_99 (by decide) ?_
                  refine lv_iadd hx hb dX4_endYear_100 ?_
                  refine lv_istore_n (lv' := [(2, .int (x + 0)), (4, .int (xg0 i)), (0, .ref m0), (1, .int 2), (3, .int (nI (14 + i)))]) hx hb dX4_endYear_101 rfl hl (by decide) rfl (fun ls hl => ?_)
                  refine lv_aload_n hx hb dX4_endYear_102 rfl (lv_at hl 2 rfl) ?_
                  refine va_get (D := (dC, dI)) (ci := 4) (v := .ref m4) (C := RX4) (T := TX4) (N := 16) hx hb hts hin_X4 hown hK hP 0 rfl rfl 6 (by decide) hw_4 (fun _ h9 => h9) rfl dX4_endYear_103 ?_
                  refine lv_iload_n hx hb dX4_endYear_106 rfl (lv_at hl 4 rfl) ?_
                  refine lv_iconst (v := 0) hx hb dX4_endYear_107 (by decide) ?_
                  refine ra_iast hx hb hK hP hD hS 4 rfl (14 + i) rfl (by omega) (Nat.le_of_ble_eq_true rfl) dX4_endYear_108 (fun H locs hP hD hS => ?_)
                  rw [f3_w2] at hP hD
                  have hP : va_P (dC, dI) vwCl [ob m0 4 [.int (nI n), .int kn, .int fz, .ref m1, .ref m2, .ref m3, .ref m4, .ref m5, .ref m6, .ref m7, .ref m8, .ref m9, .ref m10, .ref m11, .ref m12, .ref m13], ai m1 cyI 21 (f3 fh uh th), ai m2 cyI 21 (f3 fg ug (upd xg0 i (num (xg0 i) (xk0 i)))), ai m3 cyI 21 (f3 ff uf tf), ai m4 cyI 21 (f3 fk uk (upd xk0 i 0)), ai m5 cyI 3 (t3 vs us ts), ai m6 cyI 3 (t3 vb ub tb), ai m7 cyI 3 (t3 vd ud td), ai m8 cyI 3 (nF ct), ai m9 cyI 36 (q12 kd), ai m10 cyI 36 (q12 vl), ai m11 cyI 7 fr, ai m12 cyI 3 fp, ai m13 cyI 3 bp] H := hP
                  have hD : va_D A [ob m0 4 [.int (nI n), .int kn, .int fz, .ref m1, .ref m2, .ref m3, .ref m4, .ref m5, .ref m6, .ref m7, .ref m8, .ref m9, .ref m10, .ref m11, .ref m12, .ref m13], ai m1 cyI 21 (f3 fh uh th), ai m2 cyI 21 (f3 fg ug (upd xg0 i (num (xg0 i) (xk0 i)))), ai m3 cyI 21 (f3 ff uf tf), ai m4 cyI 21 (f3 fk uk (upd xk0 i 0)), ai m5 cyI 3 (t3 vs us ts), ai m6 cyI 3 (t3 vb ub tb), ai m7 cyI 3 (t3 vd ud td), ai m8 cyI 3 (nF ct), ai m9 cyI 36 (q12 kd), ai m10 cyI 36 (q12 vl), ai m11 cyI 7 fr, ai m12 cyI 3 fp, ai m13 cyI 3 bp] := hD
                  refine lv_iinc (v := nI (14 + (i + 1))) (lv' := [(3, .int (nI (14 + (i + 1)))), (2, .int (x + 0)), (4, .int (xg0 i)), (0, .ref m0), (1, .int 2)]) hx hb dX4_endYear_109 hl (k := 4) rfl (ra_inc1 _) (by decide) rfl (fun ls hl => ?_)
                  refine lv_goto (tgt := 7) hx hb dX4_endYear_112 (by decide) ?_
                  exact ih_7 (i + 1) (upd xg0 i (num (xg0 i) (xk0 i))) (upd xk0 i 0) (x + 0) (by omega) (by rw [← he, show n - i = n - (i + 1) + 1 by omega]; show _ = yE num _ _ _ _ (if _ then _ else _); first | (rw [if_pos c_92, Int32.add_zero]; done) | (rw [if_neg c_92]; done)) (by omega) H locs hP hD hS ls (lv_sub hl [3, 4, 1, 0] rfl)
                · ---- on
                  refine lv_iconst (v := 1) hx hb dX4_endYear_95 (by decide) ?_
                  refine lv_goto (tgt := 100) hx hb dX4_endYear_96 (by decide) ?_
                  refine lv_iadd hx hb dX4_endYear_100 ?_
                  refine lv_istore_n (lv' := [(2, .int (x + 1)), (4, .int (xg0 i)), (0, .ref m0), (1, .int 2), (3, .int (nI (14 + i)))]) hx hb dX4_endYear_101 rfl hl (by decide) rfl (fun ls hl => ?_)
                  refine lv_aload_n hx hb dX4_endYear_102 rfl (lv_at hl 2 rfl) ?_
                  refine va_get (D := (dC, dI)) (ci := 4) (v := .ref m4) (C := RX4) (T := TX4) (N := 16) hx hb hts hin_X4 hown hK hP 0 rfl rfl 6 (by decide) hw_4 (fun _ h9 => h9) rfl dX4_endYear_103 ?_
                  refine lv_iload_n hx hb dX4_endYear_106 rfl (lv_at hl 4 rfl) ?_
                  refine lv_iconst (v := 0) hx hb dX4_endYear_107 (by decide) ?_
                  refine ra_iast hx hb hK hP hD hS 4 rfl (14 + i) rfl (by omega) (Nat.le_of_ble_eq_true rfl) dX4_endYear_108 (fun H locs hP hD hS => ?_)
                  rw [f3_w2] at hP hD
                  have hP : va_P (dC, dI) vwCl [ob m0 4 [.int (nI n), .int kn, .int fz, .ref m1, .ref m2, .ref m3, .ref m4, .ref m5, .ref m6, .ref m7, .ref m8, .ref m9, .ref m10, .ref m11, .ref m12, .ref m13], ai m1 cyI 21 (f3 fh uh th), ai m2 cyI 21 (f3 fg ug (upd xg0 i (num (xg0 i) (xk0 i)))), ai m3 cyI 21 (f3 ff uf tf), ai m4 cyI 21 (f3 fk uk (upd xk0 i 0)), ai m5 cyI 3 (t3 vs us ts), ai m6 cyI 3 (t3 vb ub tb), ai m7 cyI 3 (t3 vd ud td), ai m8 cyI 3 (nF ct), ai m9 cyI 36 (q12 kd), ai m10 cyI 36 (q12 vl), ai m11 cyI 7 fr, ai m12 cyI 3 fp, ai m13 cyI 3 bp] H := hP
                  have hD : va_D A [ob m0 4 [.int (nI n), .int kn, .int fz, .ref m1, .ref m2, .ref m3, .ref m4, .ref m5, .ref m6, .ref m7, .ref m8, .ref m9, .ref m10, .ref m11, .ref m12, .ref m13], ai m1 cyI 21 (f3 fh uh th), ai m2 cyI 21 (f3 fg ug (upd xg0 i (num (xg0 i) (xk0 i)))), ai m3 cyI 21 (f3 ff uf tf), ai m4 cyI 21 (f3 fk uk (upd xk0 i 0)), ai m5 cyI 3 (t3 vs us ts), ai m6 cyI 3 (t3 vb ub tb), ai m7 cyI 3 (t3 vd ud td), ai m8 cyI 3 (nF ct), ai m9 cyI 36 (q12 kd), ai m10 cyI 36 (q12 vl), ai m11 cyI 7 fr, ai m12 cyI 3 fp, ai m13 cyI 3 bp] := hD
                  refine lv_iinc (v := nI (14 + (i + 1))) (lv' := [(3, .int (nI (14 + (i + 1)))), (2, .int (x + 1)), (4, .int (xg0 i)), (0, .ref m0), (1, .int 2)]) hx hb dX4_endYear_109 hl (k := 4) rfl (ra_inc1 _) (by decide) rfl (fun ls hl => ?_)
                  refine lv_goto (tgt := 7) hx hb dX4_endYear_112 (by decide) ?_
                  exact ih_7 (i + 1) (upd xg0 i (num (xg0 i) (xk0 i))) (upd xk0 i 0) (x + 1) (by omega) (by rw [← he, show n - i = n - (i + 1) + 1 by omega]; show _ = yE num _ _ _ _ (if _ then _ else _); first | (rw [if_pos c_92, Int32.add_zero]; done) | (rw [if_neg c_92]; done)) (by omega) H locs hP hD hS ls (lv_sub hl [3, 4, 1, 0] rfl)
              · ---- on
                refine lv_aload_n hx hb dX4_endYear_76 rfl (lv_at hl 1 rfl) ?_
                refine va_get (D := (dC, dI)) (ci := 4) (v := .ref m2) (C := RX4) (T := TX4) (N := 16) hx hb hts hin_X4 hown hK hP 0 rfl rfl 4 (by decide) hw_3 (fun _ h9 => h9) rfl dX4_endYear_77 ?_
                refine lv_iload_n hx hb dX4_endYear_80 rfl (lv_at hl 4 rfl) ?_
                refine lv_iconst (v := 0) hx hb dX4_endYear_81 (by decide) ?_
                refine ra_iast hx hb hK hP hD hS 2 rfl (14 + i) rfl (by omega) (Nat.le_of_ble_eq_true rfl) dX4_endYear_82 (fun H locs hP hD hS => ?_)
                rw [f3_w2] at hP hD
                have hP : va_P (dC, dI) vwCl [ob m0 4 [.int (nI n), .int kn, .int fz, .ref m1, .ref m2, .ref m3, .ref m4, .ref m5, .ref m6, .ref m7, .ref m8, .ref m9, .ref m10, .ref m11, .ref m12, .ref m13], ai m1 cyI 21 (f3 fh uh th), ai m2 cyI 21 (f3 fg ug (upd (upd xg0 i ((xg0 i) + 1)) i 0)), ai m3 cyI 21 (f3 ff uf tf), ai m4 cyI 21 (f3 fk uk xk0), ai m5 cyI 3 (t3 vs us ts), ai m6 cyI 3 (t3 vb ub tb), ai m7 cyI 3 (t3 vd ud td), ai m8 cyI 3 (nF ct), ai m9 cyI 36 (q12 kd), ai m10 cyI 36 (q12 vl), ai m11 cyI 7 fr, ai m12 cyI 3 fp, ai m13 cyI 3 bp] H := hP
                have hD : va_D A [ob m0 4 [.int (nI n), .int kn, .int fz, .ref m1, .ref m2, .ref m3, .ref m4, .ref m5, .ref m6, .ref m7, .ref m8, .ref m9, .ref m10, .ref m11, .ref m12, .ref m13], ai m1 cyI 21 (f3 fh uh th), ai m2 cyI 21 (f3 fg ug (upd (upd xg0 i ((xg0 i) + 1)) i 0)), ai m3 cyI 21 (f3 ff uf tf), ai m4 cyI 21 (f3 fk uk xk0), ai m5 cyI 3 (t3 vs us ts), ai m6 cyI 3 (t3 vb ub tb), ai m7 cyI 3 (t3 vd ud td), ai m8 cyI 3 (nF ct), ai m9 cyI 36 (q12 kd), ai m10 cyI 36 (q12 vl), ai m11 cyI 7 fr, ai m12 cyI 3 fp, ai m13 cyI 3 bp] := hD
                have hnu : num (xg0 i) (xk0 i) = 0 := (if_pos (Int32.not_le.mp c_73))
                rw [upd_twice] at hP hD
                have hP : va_P (dC, dI) vwCl [ob m0 4 [.int (nI n), .int kn, .int fz, .ref m1, .ref m2, .ref m3, .ref m4, .ref m5, .ref m6, .ref m7, .ref m8, .ref m9, .ref m10, .ref m11, .ref m12, .ref m13], ai m1 cyI 21 (f3 fh uh th), ai m2 cyI 21 (f3 fg ug (upd xg0 i (num (xg0 i) (xk0 i)))), ai m3 cyI 21 (f3 ff uf tf), ai m4 cyI 21 (f3 fk uk xk0), ai m5 cyI 3 (t3 vs us ts), ai m6 cyI 3 (t3 vb ub tb), ai m7 cyI 3 (t3 vd ud td), ai m8 cyI 3 (nF ct), ai m9 cyI 36 (q12 kd), ai m10 cyI 36 (q12 vl), ai m11 cyI 7 fr, ai m12 cyI 3 fp, ai m13 cyI 3 bp] H := by rw [hnu]; exact hP
                have hD : va_D A [ob m0 4 [.int (nI n), .int kn, .int fz, .ref m1, .ref m2, .ref m3, .ref m4, .ref m5, .ref m6, .ref m7, .ref m8, .ref m9, .ref m10, .ref m11, .ref m12, .ref m13], ai m1 cyI 21 (f3 fh uh th), ai m2 cyI 21 (f3 fg ug (upd xg0 i (num (xg0 i) (xk0 i)))), ai m3 cyI 21 (f3 ff uf tf), ai m4 cyI 21 (f3 fk uk xk0), ai m5 cyI 3 (t3 vs us ts), ai m6 cyI 3 (t3 vb ub tb), ai m7 cyI 3 (t3 vd ud td), ai m8 cyI 3 (nF ct), ai m9 cyI 36 (q12 kd), ai m10 cyI 36 (q12 vl), ai m11 cyI 7 fr, ai m12 cyI 3 fp, ai m13 cyI 3 bp] := by rw [hnu]; exact hD
                refine lv_iload_n hx hb dX4_endYear_83 rfl (lv_at hl 3 rfl) ?_
                refine lv_aload_n hx hb dX4_endYear_84 rfl (lv_at hl 1 rfl) ?_
                refine va_get (D := (dC, dI)) (ci := 4) (v := .ref m2) (C := RX4) (T := TX4) (N := 16) hx hb hts hin_X4 hown hK hP 0 rfl rfl 4 (by decide) hw_3 (fun _ h9 => h9) rfl dX4_endYear_85 ?_
                refine lv_iload_n hx hb dX4_endYear_88 rfl (lv_at hl 4 rfl) ?_
                refine ra_iald hx hb hK hP 2 rfl (14 + i) rfl (by omega) (Nat.le_of_ble_eq_true rfl) dX4_endYear_89 ?_
                refine ra_top (num (xg0 i) (xk0 i)) (by first | exact (f3_r2 _ _ _ _).trans pk_us | exact (f3_r0 _ _ _ (by omega)).trans pk_us) ?_
                refine lv_iload hx hb dX4_endYear_90 (lv_at hl 0 rfl) ?_
                refine lv_icmp_eq (tgt := 99) hx hb dX4_endYear_92 (by decide) (fun c_92 => ?_) (fun c_92 => ?_)
                · ---- to 99
                  refine lv_iconst (v := 0) hx hb dX4_endYear_99 (by decide) ?_
                  refine lv_iadd hx hb dX4_endYear_100 ?_
                  refine lv_istore_n (lv' := [(2, .int (x + 0)), (4, .int (xg0 i)), (0, .ref m0), (1, .int 2), (3, .int (nI (14 + i)))]) hx hb dX4_endYear_101 rfl hl (by decide) rfl (fun ls hl => ?_)
                  refine lv_aload_n hx hb dX4_endYear_102 rfl (lv_at hl 2 rfl) ?_
                  refine va_get (D := (dC, dI)) (ci := 4) (v := .ref m4) (C := RX4) (T := TX4) (N := 16) hx hb hts hin_X4 hown hK hP 0 rfl rfl 6 (by decide) hw_4 (fun _ h9 => h9) rfl dX4_endYear_103 ?_
                  refine lv_iload_n hx hb dX4_endYear_106 rfl (lv_at hl 4 rfl) ?_
                  refine lv_iconst (v := 0) hx hb dX4_endYear_107 (by decide) ?_
                  refine ra_iast hx hb hK hP hD hS 4 rfl (14 + i) rfl (by omega) (Nat.le_of_ble_eq_true rfl) dX4_endYear_108 (fun H locs hP hD hS => ?_)
                  rw [f3_w2] at hP hD
                  have hP : va_P (dC, dI) vwCl [ob m0 4 [.int (nI n), .int kn, .int fz, .ref m1, .ref m2, .ref m3, .ref m4, .ref m5, .ref m6, .ref m7, .ref m8, .ref m9, .ref m10, .ref m11, .ref m12, .ref m13], ai m1 cyI 21 (f3 fh uh th), ai m2 cyI 21 (f3 fg ug (upd xg0 i (num (xg0 i) (xk0 i)))), ai m3 cyI 21 (f3 ff uf tf), ai m4 cyI 21 (f3 fk uk (upd xk0 i 0)), ai m5 cyI 3 (t3 vs us ts), ai m6 cyI 3 (t3 vb ub tb), ai m7 cyI 3 (t3 vd ud td), ai m8 cyI 3 (nF ct), ai m9 cyI 36 (q12 kd), ai m10 cyI 36 (q12 vl), ai m11 cyI 7 fr, ai m12 cyI 3 fp, ai m13 cyI 3 bp] H := hP
                  have hD : va_D A [ob m0 4 [.int (nI n), .int kn, .int fz, .ref m1, .ref m2, .ref m3, .ref m4, .ref m5, .ref m6, .ref m7, .ref m8, .ref m9, .ref m10, .ref m11, .ref m12, .ref m13], ai m1 cyI 21 (f3 fh uh th), ai m2 cyI 21 (f3 fg ug (upd xg0 i (num (xg0 i) (xk0 i)))), ai m3 cyI 21 (f3 ff uf tf), ai m4 cyI 21 (f3 fk uk (upd xk0 i 0)), ai m5 cyI 3 (t3 vs us ts), ai m6 cyI 3 (t3 vb ub tb), ai m7 cyI 3 (t3 vd ud td), ai m8 cyI 3 (nF ct), ai m9 cyI 36 (q12 kd), ai m10 cyI 36 (q12 vl), ai m11 cyI 7 fr, ai m12 cyI 3 fp, ai m13 cyI 3 bp] := hD
                  refine lv_iinc (v := nI (14 + (i + 1))) (lv' := [(3, .int (nI (14 + (i + 1)))), (2, .int (x + 0)), (4, .int (xg0 i)), (0, .ref m0), (1, .int 2)]) hx hb dX4_endYear_109 hl (k := 4) rfl (ra_inc1 _) (by decide) rfl (fun ls hl => ?_)
                  refine lv_goto (tgt := 7) hx hb dX4_endYear_112 (by decide) ?_
                  exact ih_7 (i + 1) (upd xg0 i (num (xg0 i) (xk0 i))) (upd xk0 i 0) (x + 0) (by omega) (by rw [← he, show n - i = n - (i + 1) + 1 by omega]; show _ = yE num _ _ _ _ (if _ then _ else _); first | (rw [if_pos c_92, Int32.add_zero]; done) | (rw [if_neg c_92]; done)) (by omega) H locs hP hD hS ls (lv_sub hl [3, 4, 1, 0] rfl)
                · ---- on
                  refine lv_iconst (v := 1) hx hb dX4_endYear_95 (by decide) ?_
                  refine lv_goto (tgt := 100) hx hb dX4_endYear_96 (by decide) ?_
                  refine lv_iadd hx hb dX4_endYear_100 ?_
                  refine lv_istore_n (lv' := [(2, .int (x + 1)), (4, .int (xg0 i)), (0, .ref m0), (1, .int 2), (3, .int (nI (14 + i)))]) hx hb dX4_endYear_101 rfl hl (by decide) rfl (fun ls hl => ?_)
                  refine lv_aload_n hx hb dX4_endYear_102 rfl (lv_at hl 2 rfl) ?_
                  refine va_get (D := (dC, dI)) (ci := 4) (v := .ref m4) (C := RX4) (T := TX4) (N := 16) hx hb hts hin_X4 hown hK hP 0 rfl rfl 6 (by decide) hw_4 (fun _ h9 => h9) rfl dX4_endYear_103 ?_
                  refine lv_iload_n hx hb dX4_endYear_106 rfl (lv_at hl 4 rfl) ?_
                  refine lv_iconst (v := 0) hx hb dX4_endYear_107 (by decide) ?_
                  refine ra_iast hx hb hK hP hD hS 4 rfl (14 + i) rfl (by omega) (Nat.le_of_ble_eq_true rfl) dX4_endYear_108 (fun H locs hP hD hS => ?_)
                  rw [f3_w2] at hP hD
                  have hP : va_P (dC, dI) vwCl [ob m0 4 [.int (nI n), .int kn, .int fz, .ref m1, .ref m2, .ref m3, .ref m4, .ref m5, .ref m6, .ref m7, .ref m8, .ref m9, .ref m10, .ref m11, .ref m12, .ref m13], ai m1 cyI 21 (f3 fh uh th), ai m2 cyI 21 (f3 fg ug (upd xg0 i (num (xg0 i) (xk0 i)))), ai m3 cyI 21 (f3 ff uf tf), ai m4 cyI 21 (f3 fk uk (upd xk0 i 0)), ai m5 cyI 3 (t3 vs us ts), ai m6 cyI 3 (t3 vb ub tb), ai m7 cyI 3 (t3 vd ud td), ai m8 cyI 3 (nF ct), ai m9 cyI 36 (q12 kd), ai m10 cyI 36 (q12 vl), ai m11 cyI 7 fr, ai m12 cyI 3 fp, ai m13 cyI 3 bp] H := hP
                  have hD : va_D A [ob m0 4 [.int (nI n), .int kn, .int fz, .ref m1, .ref m2, .ref m3, .ref m4, .ref m5, .ref m6, .ref m7, .ref m8, .ref m9, .ref m10, .ref m11, .ref m12, .ref m13], ai m1 cyI 21 (f3 fh uh th), ai m2 cyI 21 (f3 fg ug (upd xg0 i (num (xg0 i) (xk0 i)))), ai m3 cyI 21 (f3 ff uf tf), ai m4 cyI 21 (f3 fk uk (upd xk0 i 0)), ai m5 cyI 3 (t3 vs us ts), ai m6 cyI 3 (t3 vb ub tb), ai m7 cyI 3 (t3 vd ud td), ai m8 cyI 3 (nF ct), ai m9 cyI 36 (q12 kd), ai m10 cyI 36 (q12 vl), ai m11 cyI 7 fr, ai m12 cyI 3 fp, ai m13 cyI 3 bp] := hD
                  refine lv_iinc (v := nI (14 + (i + 1))) (lv' := [(3, .int (nI (14 + (i + 1)))), (2, .int (x + 1)), (4, .int (xg0 i)), (0, .ref m0), (1, .int 2)]) hx hb dX4_endYear_109 hl (k := 4) rfl (ra_inc1 _) (by decide) rfl (fun ls hl => ?_)
                  refine lv_goto (tgt := 7) hx hb dX4_endYear_112 (by decide) ?_
                  exact ih_7 (i + 1) (upd xg0 i (num (xg0 i) (xk0 i))) (upd xk0 i 0) (x + 1) (by omega) (by rw [← he, show n - i = n - (i + 1) + 1 by omega]; show _ = yE num _ _ _ _ (if _ then _ else _); first | (rw [if_pos c_92, Int32.add_zero]; done) | (rw [if_neg c_92]; done)) (by omega) H locs hP hD hS ls (lv_sub hl [3, 4, 1, 0] rfl)
  exact L_7 _ 0 tg tk 0 (by omega) rfl (Nat.lt_succ_self _) H locs hP hD hS ls (lv_sub hl [2, 3, 1, 0] rfl)

set_option maxHeartbeats 4000000 in
set_option maxRecDepth 100000 in
theorem c_X4_crestOf2 (l : Launch) (dC : Nat → ClassId) (dI : Nat → Nat → Nat) (cyI cyA : ClassId) (m0 m1 m2 m3 m4 m5 m6 m7 m8 m9 m10 m11 m12 m13 n : Nat) (kn fz : Int32) (fh fg ff fk uh ug uf uk th tg tf tk : FN) (vs vb vd us ub ud ts tb td : Int32) (ct : Nat → Nat) (kd vl : Nat → FN) (fr fp bp : FN) (hn : n ≤ 7) : Met l yX4_crestOf wsX4_crestOf (rm 0) (kR dC dI cyI cyA [.ref m0, .int 2] [ob m0 4 [.int (nI n), .int kn, .int fz, .ref m1, .ref m2, .ref m3, .ref m4, .ref m5, .ref m6, .ref m7, .ref m8, .ref m9, .ref m10, .ref m11, .ref m12, .ref m13], ai m1 cyI 21 (f3 fh uh th), ai m2 cyI 21 (f3 fg ug tg), ai m3 cyI 21 (f3 ff uf tf), ai m4 cyI 21 (f3 fk uk tk), ai m5 cyI 3 (t3 vs us ts), ai m6 cyI 3 (t3 vb ub tb), ai m7 cyI 3 (t3 vd ud td), ai m8 cyI 3 (nF ct), ai m9 cyI 36 (q12 kd), ai m10 cyI 36 (q12 vl), ai m11 cyI 7 fr, ai m12 cyI 3 fp, ai m13 cyI 3 bp]) (QcRead (gMax th n 0 0)) 0 0 (fun _ => False) := by
  refine ra_metR (cc := cX4_crestOf) (maxL := 4) (by decide) rfl (Nat.le_of_ble_eq_true rfl) ?_
  intro p e s m below meth c args Q hQ hx hb hr hlocks hml hts hown hK hN hP ls hl
  have hl : lv_has ls 4 [(0, .ref m0), (1, .int 2)] := hl
  have hown : s.vm.findClass RX4 = some m.cls := hown
  have hw_1 := hts (.fieldLink RX4 7 "DuneBenchModel" "n" "I") (by decide +kernel)
  have hin_X4 : ∀ w ∈ u_ws RX4 TX4 16, w ∈ wsX4_crestOf := by decide +kernel
  have hw_3 := hts (.fieldLink RX4 16 "DuneBenchModel" "height" "[I") (by decide +kernel)
  refine lv_iconst (v := 0) hx hb dX4_crestOf_0 (by decide) ?_
  refine lv_istore_n (lv' := [(2, .int 0), (0, .ref m0), (1, .int 2)]) hx hb dX4_crestOf_1 rfl hl (by decide) rfl (fun ls hl => ?_)
  refine lv_iconst (v := 0) hx hb dX4_crestOf_2 (by decide) ?_
  refine lv_istore_n (lv' := [(3, .int 0), (2, .int 0), (0, .ref m0), (1, .int 2)]) hx hb dX4_crestOf_3 rfl hl (by decide) rfl (fun ls hl => ?_)
  have L_4 : ∀ (n9 : Nat) (i : Nat) (x : Int32), (i ≤ n) → (gMax th (n - i) i x = gMax th n 0 0) → (n - i) < n9 → ∀ ls : Array Slot, lv_has ls 4 [(0, .ref m0), (1, .int 2), (2, .int x), (3, .int (nI i))] → W p l e (rm 0) s m args below meth c s.heap [] 0 0 Q (F0 m 4 ls []) := by
    intro n9
    induction n9 with
    | zero =>
      intro i x hi he hm9
      exact absurd hm9 (Nat.not_lt_zero _)
    | succ n9 ih_4 =>
      intro i x hi he hm9 ls hl
      refine lv_iload_n hx hb dX4_crestOf_4 rfl (lv_at hl 3 rfl) ?_
      refine lv_aload_n hx hb dX4_crestOf_5 rfl (lv_at hl 0 rfl) ?_
      refine va_get (D := (dC, dI)) (ci := 4) (v := .int (nI n)) (C := RX4) (T := TX4) (N := 16) hx hb hts hin_X4 hown hK hP 0 rfl rfl 0 (by decide) hw_1 (fun _ h9 => h9) rfl dX4_crestOf_6 ?_
      refine lv_icmp_ge (tgt := 49) hx hb dX4_crestOf_9 (by decide) (fun c_9 => ?_) (fun c_9 => ?_)
      · ---- to 49
        have n_9 := (nq_le n i (by omega) (by omega)).mp c_9
        refine lv_iload_n hx hb dX4_crestOf_49 rfl (lv_at hl 2 rfl) ?_
        rw [hQ]
        exact ra_iretR hx hb hr hlocks rfl (by rw [← he, show n - i = 0 by omega]; rfl) dX4_crestOf_50
      · ---- on
        have n_9 := (nq_le_n n i (by omega) (by omega)).mp c_9
        refine lv_aload_n hx hb dX4_crestOf_12 rfl (lv_at hl 0 rfl) ?_
        refine va_get (D := (dC, dI)) (ci := 4) (v := .ref m1) (C := RX4) (T := TX4) (N := 16) hx hb hts hin_X4 hown hK hP 0 rfl rfl 3 (by decide) hw_3 (fun _ h9 => h9) rfl dX4_crestOf_13 ?_
        refine lv_bipush (v := 7) hx hb dX4_crestOf_16 (by decide) ?_
        refine lv_iload_n hx hb dX4_crestOf_18 rfl (lv_at hl 1 rfl) ?_
        refine lv_imul hx hb dX4_crestOf_19 ?_
        refine ra_top (14) (by decide) ?_
        refine lv_iload_n hx hb dX4_crestOf_20 rfl (lv_at hl 3 rfl) ?_
        refine lv_iadd hx hb dX4_crestOf_21 ?_
        refine ra_top (nI (14 + i)) (nI_add 14 i) ?_
        refine ra_iald hx hb hK hP 1 rfl (14 + i) rfl (by omega) (Nat.le_of_ble_eq_true rfl) dX4_crestOf_22 ?_
        refine ra_top (th i) (f3_r2 _ _ _ _) ?_
        refine lv_iload_n hx hb dX4_crestOf_23 rfl (lv_at hl 2 rfl) ?_
        have J_42_1 : ∀ v_42_1 : Int32, v_42_1 = (jmax x (th i)) → W p l e (rm 0) s m args below meth c s.heap [] 0 0 Q (F0 m 42 ls [.int v_42_1]) := by
          intro v_42_1 ev_42_1
          subst ev_42_1
          refine lv_istore_n (lv' := [(2, .int (jmax x (th i))), (0, .ref m0), (1, .int 2), (3, .int (nI i))]) hx hb dX4_crestOf_42 rfl hl (by decide) rfl (fun ls hl => ?_)
          refine lv_iinc (v := nI (i + 1)) (lv' := [(3, .int (nI (i + 1))), (2, .int (jmax x (th i))), (0, .ref m0), (1, .int 2)]) hx hb dX4_crestOf_43 hl (k := 3) rfl (ra_inc1 _) (by decide) rfl (fun ls hl => ?_)
          refine lv_goto (tgt := 4) hx hb dX4_crestOf_46 (by decide) ?_
          exact ih_4 (i + 1) (jmax x (th i)) (by omega) (by rw [← he, show n - i = n - (i + 1) + 1 by omega]; rfl) (by omega) ls (lv_sub hl [2, 3, 1, 0] rfl)
        refine lv_icmp_le (tgt := 41) hx hb dX4_crestOf_24 (by decide) (fun c_24 => ?_) (fun c_24 => ?_)
        · ---- to 41
          refine lv_iload_n hx hb dX4_crestOf_41 rfl (lv_at hl 2 rfl) ?_
          exact J_42_1 _ (by unfold jmax; first | (rw [if_neg (Int32.not_lt.mpr c_24)]; done) | (rw [if_pos (Int32.not_le.mp c_24)]; done))
        · ---- on
          refine lv_aload_n hx hb dX4_crestOf_27 rfl (lv_at hl 0 rfl) ?_
          refine va_get (D := (dC, dI)) (ci := 4) (v := .ref m1) (C := RX4) (T := TX4) (N := 16) hx hb hts hin_X4 hown hK hP 0 rfl rfl 3 (by decide) hw_3 (fun _ h9 => h9) rfl dX4_crestOf_28 ?_
          refine lv_bipush (v := 7) hx hb dX4_crestOf_31 (by decide) ?_
          refine lv_iload_n hx hb dX4_crestOf_33 rfl (lv_at hl 1 rfl) ?_
          refine lv_imul hx hb dX4_crestOf_34 ?_
          refine ra_top (14) (by decide) ?_
          refine lv_iload_n hx hb dX4_crestOf_35 rfl (lv_at hl 3 rfl) ?_
          refine lv_iadd hx hb dX4_crestOf_36 ?_
          refine ra_top (nI (14 + i)) (nI_add 14 i) ?_
          refine ra_iald hx hb hK hP 1 rfl (14 + i) rfl (by omega) (Nat.le_of_ble_eq_true rfl) dX4_crestOf_37 ?_
          refine ra_top (th i) (f3_r2 _ _ _ _) ?_
          refine lv_goto (tgt := 42) hx hb dX4_crestOf_38 (by decide) ?_
          exact J_42_1 _ (by unfold jmax; first | (rw [if_neg (Int32.not_lt.mpr c_24)]; done) | (rw [if_pos (Int32.not_le.mp c_24)]; done))
  exact L_4 _ 0 0 (by omega) rfl (Nat.lt_succ_self _) ls (lv_sub hl [2, 3, 1, 0] rfl)
