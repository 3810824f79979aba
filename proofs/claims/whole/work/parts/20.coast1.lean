set_option maxHeartbeats 4000000 in
set_option maxRecDepth 100000 in
theorem c_X3_isWithin (l : Launch) (v a b : Int32)  : Met l yX3_isWithin wsX3_isWithin (rm 0) (kS [.int v, .int a, .int b]) (QcRead (bi (a ≤ v ∧ v ≤ b))) 0 0 (fun _ => False) := by
  refine ra_metS (cc := cX3_isWithin) (maxL := 3) (by decide) rfl (Nat.le_of_ble_eq_true rfl) ?_
  intro p e s m below meth c args Q hQ hx hb hr hlocks hml hts hown hN ls hl
  have hl : lv_has ls 3 [(0, .int v), (1, .int a), (2, .int b)] := hl
  have hown : s.vm.findClass RX3 = some m.cls := hown
  refine lv_iload_n hx hb dX3_isWithin_0 rfl (lv_at hl 0 rfl) ?_
  refine lv_iload_n hx hb dX3_isWithin_1 rfl (lv_at hl 1 rfl) ?_
  refine lv_icmp_lt (tgt := 14) hx hb dX3_isWithin_2 (by decide) (fun c_2 => ?_) (fun c_2 => ?_)
  · ---- to 14
    refine lv_iconst (v := 0) hx hb dX3_isWithin_14 (by decide) ?_
    rw [hQ]
    exact ra_iretR hx hb hr hlocks rfl (bi_f (by simp only [fa_lt, fa_le, fa_eq, i32_m9, i32_m3, i32_m2, i32_m1, i32_0, i32_1, i32_2, i32_3, i32_4, i32_5, i32_7, i32_9, i32_10, i32_12, i32_20, i32_30, i32_60, i32_99] at c_2 ⊢; omega)) dX3_isWithin_15
  · ---- on
    refine lv_iload_n hx hb dX3_isWithin_5 rfl (lv_at hl 0 rfl) ?_
    refine lv_iload_n hx hb dX3_isWithin_6 rfl (lv_at hl 2 rfl) ?_
    refine lv_icmp_gt (tgt := 14) hx hb dX3_isWithin_7 (by decide) (fun c_7 => ?_) (fun c_7 => ?_)
    · ---- to 14
      refine lv_iconst (v := 0) hx hb dX3_isWithin_14 (by decide) ?_
      rw [hQ]
      exact ra_iretR hx hb hr hlocks rfl (bi_f (by simp only [fa_lt, fa_le, fa_eq, i32_m9, i32_m3, i32_m2, i32_m1, i32_0, i32_1, i32_2, i32_3, i32_4, i32_5, i32_7, i32_9, i32_10, i32_12, i32_20, i32_30, i32_60, i32_99] at c_2 c_7 ⊢; omega)) dX3_isWithin_15
    · ---- on
      refine lv_iconst (v := 1) hx hb dX3_isWithin_10 (by decide) ?_
      refine lv_goto (tgt := 15) hx hb dX3_isWithin_11 (by decide) ?_
      rw [hQ]
      exact ra_iretR hx hb hr hlocks rfl (bi_t (by simp only [fa_lt, fa_le, fa_eq, i32_m9, i32_m3, i32_m2, i32_m1, i32_0, i32_1, i32_2, i32_3, i32_4, i32_5, i32_7, i32_9, i32_10, i32_12, i32_20, i32_30, i32_60, i32_99] at c_2 c_7 ⊢; omega)) dX3_isWithin_15

set_option maxHeartbeats 4000000 in
set_option maxRecDepth 100000 in
theorem c_X0_has (l : Launch) (dC : Nat → ClassId) (dI : Nat → Nat → Nat) (cyI cyA : ClassId) (a0 a1 a2 a3 a4 n : Nat) (fh fg ff fk : FN) (vs vb vd : Int32) (v : Int32)  : Met l yX0_has wsX0_has (rm 0) (kR dC dI cyI cyA [.ref a0, .int v] [ob a0 0 [.int (nI n), .ref a1, .ref a2, .ref a3, .ref a4, .int vs, .int vb, .int vd], ai a1 cyI 7 fh, ai a2 cyI 7 fg, ai a3 cyI 7 ff, ai a4 cyI 7 fk]) (QcRead (bi (0 ≤ v ∧ v < nI n))) 0 0 (fun _ => False) := by
  refine ra_metR (cc := cX0_has) (maxL := 2) (by decide) rfl (Nat.le_of_ble_eq_true rfl) ?_
  intro p e s m below meth c args Q hQ hx hb hr hlocks hml hts hown hK hN hP ls hl
  have hl : lv_has ls 2 [(0, .ref a0), (1, .int v)] := hl
  have hown : s.vm.findClass RX0 = some m.cls := hown
  have hw_1 := hts (.fieldLink RX0 28 "DuneBench$Coast" "cells" "I") (by decide +kernel)
  have hin_X0 : ∀ w ∈ u_ws RX0 TX0 8, w ∈ wsX0_has := by decide +kernel
  refine lv_iload_n hx hb dX0_has_0 rfl (lv_at hl 1 rfl) ?_
  refine lv_if_lt (tgt := 16) hx hb dX0_has_1 (by decide) (fun c_1 => ?_) (fun c_1 => ?_)
  · ---- to 16
    refine lv_iconst (v := 0) hx hb dX0_has_16 (by decide) ?_
    rw [hQ]
    exact ra_iretR hx hb hr hlocks rfl (bi_f (by simp only [fa_lt, fa_le, fa_eq, i32_m9, i32_m3, i32_m2, i32_m1, i32_0, i32_1, i32_2, i32_3, i32_4, i32_5, i32_7, i32_9, i32_10, i32_12, i32_20, i32_30, i32_60, i32_99] at c_1 ⊢; omega)) dX0_has_17
  · ---- on
    refine lv_iload_n hx hb dX0_has_4 rfl (lv_at hl 1 rfl) ?_
    refine lv_aload_n hx hb dX0_has_5 rfl (lv_at hl 0 rfl) ?_
    refine va_get (D := (dC, dI)) (ci := 0) (v := .int (nI n)) (C := RX0) (T := TX0) (N := 8) hx hb hts hin_X0 hown hK hP 0 rfl rfl 0 (by decide) hw_1 (fun _ h9 => h9) rfl dX0_has_6 ?_
    refine lv_icmp_ge (tgt := 16) hx hb dX0_has_9 (by decide) (fun c_9 => ?_) (fun c_9 => ?_)
    · ---- to 16
      refine lv_iconst (v := 0) hx hb dX0_has_16 (by decide) ?_
      rw [hQ]
      exact ra_iretR hx hb hr hlocks rfl (bi_f (by simp only [fa_lt, fa_le, fa_eq, i32_m9, i32_m3, i32_m2, i32_m1, i32_0, i32_1, i32_2, i32_3, i32_4, i32_5, i32_7, i32_9, i32_10, i32_12, i32_20, i32_30, i32_60, i32_99] at c_1 c_9 ⊢; omega)) dX0_has_17
    · ---- on
      refine lv_iconst (v := 1) hx hb dX0_has_12 (by decide) ?_
      refine lv_goto (tgt := 17) hx hb dX0_has_13 (by decide) ?_
      rw [hQ]
      exact ra_iretR hx hb hr hlocks rfl (bi_t (by simp only [fa_lt, fa_le, fa_eq, i32_m9, i32_m3, i32_m2, i32_m1, i32_0, i32_1, i32_2, i32_3, i32_4, i32_5, i32_7, i32_9, i32_10, i32_12, i32_20, i32_30, i32_60, i32_99] at c_1 c_9 ⊢; omega)) dX0_has_17

set_option maxHeartbeats 4000000 in
set_option maxRecDepth 100000 in
theorem c_X0_hold (l : Launch) (dC : Nat → ClassId) (dI : Nat → Nat → Nat) (cyI cyA : ClassId) (a0 a1 a2 a3 a4 n : Nat) (fh fg ff fk : FN) (vs vb vd : Int32) (j : Nat) (x : Int32) (hj : j < 7) (sz : Nat) : Met l yX0_hold wsX0_hold (rm 1) (kW dC dI cyI cyA [.ref a0, .int (nI j), .int x] sz [ob a0 0 [.int (nI n), .ref a1, .ref a2, .ref a3, .ref a4, .int vs, .int vb, .int vd], ai a1 cyI 7 fh, ai a2 cyI 7 fg, ai a3 cyI 7 ff, ai a4 cyI 7 fk]) (qI dC dI cyI cyA (fun (r : Int32) (_ : Unit) => r = heldv fh fg ff j x) (va_A [ob a0 0 [.int (nI n), .ref a1, .ref a2, .ref a3, .ref a4, .int vs, .int vb, .int vd], ai a1 cyI 7 fh, ai a2 cyI 7 fg, ai a3 cyI 7 ff, ai a4 cyI 7 fk] sz) (fun _ => [ob a0 0 [.int (nI n), .ref a1, .ref a2, .ref a3, .ref a4, .int vs, .int vb, .int vd], ai a1 cyI 7 (upd fh j (fh j + heldv fh fg ff j x)), ai a2 cyI 7 fg, ai a3 cyI 7 (upd ff j (ff j - phc (heldv fh fg ff j x) (1 + 2 * fg j))), ai a4 cyI 7 (upd fk j (fk j + heldv fh fg ff j x))])) 0 0 (va_A [ob a0 0 [.int (nI n), .ref a1, .ref a2, .ref a3, .ref a4, .int vs, .int vb, .int vd], ai a1 cyI 7 fh, ai a2 cyI 7 fg, ai a3 cyI 7 ff, ai a4 cyI 7 fk] sz) := by
  refine ra_metW (cc := cX0_hold) (maxL := 5) (Qc := fun A => qI dC dI cyI cyA (fun (r : Int32) (_ : Unit) => r = heldv fh fg ff j x) A (fun _ => [ob a0 0 [.int (nI n), .ref a1, .ref a2, .ref a3, .ref a4, .int vs, .int vb, .int vd], ai a1 cyI 7 (upd fh j (fh j + heldv fh fg ff j x)), ai a2 cyI 7 fg, ai a3 cyI 7 (upd ff j (ff j - phc (heldv fh fg ff j x) (1 + 2 * fg j))), ai a4 cyI 7 (upd fk j (fk j + heldv fh fg ff j x))])) (by decide) rfl (Nat.le_of_ble_eq_true rfl) ?_
  intro p e s m below meth c A args Q hQ hx hb hr hlocks hml hts hown hnm hK hN hP hD hA hS ls hl
  have hl : lv_has ls 5 [(0, .ref a0), (1, .int (nI j)), (2, .int x)] := hl
  have hown : s.vm.findClass RX0 = some m.cls := hown
  have hw_1 := hts (.fieldLink RX0 15 "DuneBench$Coast" "grass" "[I") (by decide +kernel)
  have hin_X0 : ∀ w ∈ u_ws RX0 TX0 8, w ∈ wsX0_hold := by decide +kernel
  have hw_3 := hts (.fieldLink RX0 18 "DuneBench$Coast" "fence" "[I") (by decide +kernel)
  have hw_4 := hts (.fieldLink RX0 9 "DuneBench$Coast" "height" "[I") (by decide +kernel)
  have hw_5 := hts (.methodLink RX0 47 Lib.Math.min.name) (by decide +kernel)
  have hw_6 := hts (.static Lib.Math.min.name) (by decide +kernel)
  have hw_7 := hts (.initialized "java/lang/Math") (by decide +kernel)
  have hw_8 := hts (.code Lib.Math.min.name Lib.Math.min.code 2 (some .int)) (by decide +kernel)
  have hw_9 := hts (.methodLink RX0 41 Lib.Math.max.name) (by decide +kernel)
  have hw_10 := hts (.static Lib.Math.max.name) (by decide +kernel)
  have hw_11 := hts (.code Lib.Math.max.name Lib.Math.max.code 2 (some .int)) (by decide +kernel)
  have hw_12 := hts (.fieldLink RX0 21 "DuneBench$Coast" "kept" "[I") (by decide +kernel)
  obtain ⟨H, hHe⟩ : ∃ H, H = s.heap := ⟨_, rfl⟩
  obtain ⟨locs, hLe⟩ : ∃ locs : List Loc, locs = [] := ⟨_, rfl⟩
  have hP : va_P (dC, dI) vwCl [ob a0 0 [.int (nI n), .ref a1, .ref a2, .ref a3, .ref a4, .int vs, .int vb, .int vd], ai a1 cyI 7 fh, ai a2 cyI 7 fg, ai a3 cyI 7 ff, ai a4 cyI 7 fk] H := by rw [hHe]; exact hP
  have hS : va_S A s.heap H locs := by rw [hHe, hLe]; exact hS
  suffices hgo : W p l e (rm 1) s m args below meth c H locs 0 0 Q (F0 m 0 ls []) by rw [hHe, hLe] at hgo; exact hgo
  refine lv_iconst (v := 1) hx hb dX0_hold_0 (by decide) ?_
  refine lv_iconst (v := 2) hx hb dX0_hold_1 (by decide) ?_
  refine lv_aload_n hx hb dX0_hold_2 rfl (lv_at hl 0 rfl) ?_
  refine va_get (D := (dC, dI)) (ci := 0) (v := .ref a2) (C := RX0) (T := TX0) (N := 8) hx hb hts hin_X0 hown hK hP 0 rfl rfl 2 (by decide) hw_1 (fun _ h9 => h9) rfl dX0_hold_3 ?_
  refine lv_iload_n hx hb dX0_hold_6 rfl (lv_at hl 1 rfl) ?_
  refine ra_iald hx hb hK hP 2 rfl j rfl (by omega) (Nat.le_of_ble_eq_true rfl) dX0_hold_7 ?_
  refine lv_imul hx hb dX0_hold_8 ?_
  refine lv_iadd hx hb dX0_hold_9 ?_
  refine lv_istore_n (lv' := [(3, .int (1 + (2 * (fg j)))), (0, .ref a0), (1, .int (nI j)), (2, .int x)]) hx hb dX0_hold_10 rfl hl (by decide) rfl (fun ls hl => ?_)
  refine lv_iload_n hx hb dX0_hold_11 rfl (lv_at hl 3 rfl) ?_
  refine lv_iload_n hx hb dX0_hold_12 rfl (lv_at hl 0 rfl) ?_
  refine lv_aload_n hx hb dX0_hold_13 rfl (lv_at hl 1 rfl) ?_
  refine va_get (D := (dC, dI)) (ci := 0) (v := .ref a3) (C := RX0) (T := TX0) (N := 8) hx hb hts hin_X0 hown hK hP 0 rfl rfl 3 (by decide) hw_3 (fun _ h9 => h9) rfl dX0_hold_14 ?_
  refine lv_iload_n hx hb dX0_hold_17 rfl (lv_at hl 2 rfl) ?_
  refine ra_iald hx hb hK hP 3 rfl j rfl (by omega) (Nat.le_of_ble_eq_true rfl) dX0_hold_18 ?_
  refine lv_iadd hx hb dX0_hold_19 ?_
  refine lv_bipush (v := 99) hx hb dX0_hold_20 (by decide) ?_
  refine lv_aload_n hx hb dX0_hold_22 rfl (lv_at hl 1 rfl) ?_
  refine va_get (D := (dC, dI)) (ci := 0) (v := .ref a1) (C := RX0) (T := TX0) (N := 8) hx hb hts hin_X0 hown hK hP 0 rfl rfl 1 (by decide) hw_4 (fun _ h9 => h9) rfl dX0_hold_23 ?_
  refine lv_iload_n hx hb dX0_hold_26 rfl (lv_at hl 2 rfl) ?_
  refine ra_iald hx hb hK hP 1 rfl j rfl (by omega) (Nat.le_of_ble_eq_true rfl) dX0_hold_27 ?_
  refine lv_isub hx hb dX0_hold_28 ?_
  refine va_mmin hx hb (hml.trans hl.1.symm) hown hw_5 hw_6 hw_7 hw_8 (Nat.le_of_ble_eq_true rfl) (Nat.le_of_ble_eq_true rfl) (Nat.le_of_ble_eq_true rfl) (Nat.le_of_ble_eq_true rfl) dX0_hold_29 ?_
  refine ra_top (jmin ((1 + (2 * (fg j))) + (ff j)) (99 - (fh j))) rfl ?_
  refine va_mmin hx hb (hml.trans hl.1.symm) hown hw_5 hw_6 hw_7 hw_8 (Nat.le_of_ble_eq_true rfl) (Nat.le_of_ble_eq_true rfl) (Nat.le_of_ble_eq_true rfl) (Nat.le_of_ble_eq_true rfl) dX0_hold_32 ?_
  refine ra_top (jmin x (jmin ((1 + (2 * (fg j))) + (ff j)) (99 - (fh j)))) rfl ?_
  refine lv_istore (lv' := [(4, .int (jmin x (jmin ((1 + (2 * (fg j))) + (ff j)) (99 - (fh j))))), (3, .int (1 + (2 * (fg j)))), (0, .ref a0), (1, .int (nI j)), (2, .int x)]) hx hb dX0_hold_35 hl (by decide) rfl (fun ls hl => ?_)
  refine lv_aload_n hx hb dX0_hold_37 rfl (lv_at hl 2 rfl) ?_
  refine va_get (D := (dC, dI)) (ci := 0) (v := .ref a3) (C := RX0) (T := TX0) (N := 8) hx hb hts hin_X0 hown hK hP 0 rfl rfl 3 (by decide) hw_3 (fun _ h9 => h9) rfl dX0_hold_38 ?_
  refine lv_iload_n hx hb dX0_hold_41 rfl (lv_at hl 3 rfl) ?_
  refine lv_dup2_11 hx hb dX0_hold_42 rfl rfl ?_
  refine ra_iald hx hb hK hP 3 rfl j rfl (by omega) (Nat.le_of_ble_eq_true rfl) dX0_hold_43 ?_
  refine lv_iconst (v := 0) hx hb dX0_hold_44 (by decide) ?_
  refine lv_iload hx hb dX0_hold_45 (lv_at hl 0 rfl) ?_
  refine lv_iload_n hx hb dX0_hold_47 rfl (lv_at hl 1 rfl) ?_
  refine lv_isub hx hb dX0_hold_48 ?_
  refine va_mmax hx hb (hml.trans hl.1.symm) hown hw_9 hw_10 hw_7 hw_11 (Nat.le_of_ble_eq_true rfl) (Nat.le_of_ble_eq_true rfl) (Nat.le_of_ble_eq_true rfl) (Nat.le_of_ble_eq_true rfl) dX0_hold_49 ?_
  refine ra_top (jmax 0 ((jmin x (jmin ((1 + (2 * (fg j))) + (ff j)) (99 - (fh j)))) - (1 + (2 * (fg j))))) rfl ?_
  refine lv_isub hx hb dX0_hold_52 ?_
  refine ra_iast hx hb hK hP hD hS 3 rfl j rfl (by omega) (Nat.le_of_ble_eq_true rfl) dX0_hold_53 (fun H locs hP hD hS => ?_)
  have hP : va_P (dC, dI) vwCl [ob a0 0 [.int (nI n), .ref a1, .ref a2, .ref a3, .ref a4, .int vs, .int vb, .int vd], ai a1 cyI 7 fh, ai a2 cyI 7 fg, ai a3 cyI 7 (upd ff j ((ff j) - (jmax 0 ((jmin x (jmin ((1 + (2 * (fg j))) + (ff j)) (99 - (fh j)))) - (1 + (2 * (fg j))))))), ai a4 cyI 7 fk] H := hP
  have hD : va_D A [ob a0 0 [.int (nI n), .ref a1, .ref a2, .ref a3, .ref a4, .int vs, .int vb, .int vd], ai a1 cyI 7 fh, ai a2 cyI 7 fg, ai a3 cyI 7 (upd ff j ((ff j) - (jmax 0 ((jmin x (jmin ((1 + (2 * (fg j))) + (ff j)) (99 - (fh j)))) - (1 + (2 * (fg j))))))), ai a4 cyI 7 fk] := hD
  refine lv_aload_n hx hb dX0_hold_54 rfl (lv_at hl 2 rfl) ?_
  refine va_get (D := (dC, dI)) (ci := 0) (v := .ref a1) (C := RX0) (T := TX0) (N := 8) hx hb hts hin_X0 hown hK hP 0 rfl rfl 1 (by decide) hw_4 (fun _ h9 => h9) rfl dX0_hold_55 ?_
  refine lv_iload_n hx hb dX0_hold_58 rfl (lv_at hl 3 rfl) ?_
  refine lv_dup2_11 hx hb dX0_hold_59 rfl rfl ?_
  refine ra_iald hx hb hK hP 1 rfl j rfl (by omega) (Nat.le_of_ble_eq_true rfl) dX0_hold_60 ?_
  refine lv_iload hx hb dX0_hold_61 (lv_at hl 0 rfl) ?_
  refine lv_iadd hx hb dX0_hold_63 ?_
  refine ra_iast hx hb hK hP hD hS 1 rfl j rfl (by omega) (Nat.le_of_ble_eq_true rfl) dX0_hold_64 (fun H locs hP hD hS => ?_)
  have hP : va_P (dC, dI) vwCl [ob a0 0 [.int (nI n), .ref a1, .ref a2, .ref a3, .ref a4, .int vs, .int vb, .int vd], ai a1 cyI 7 (upd fh j ((fh j) + (jmin x (jmin ((1 + (2 * (fg j))) + (ff j)) (99 - (fh j)))))), ai a2 cyI 7 fg, ai a3 cyI 7 (upd ff j ((ff j) - (jmax 0 ((jmin x (jmin ((1 + (2 * (fg j))) + (ff j)) (99 - (fh j)))) - (1 + (2 * (fg j))))))), ai a4 cyI 7 fk] H := hP
  have hD : va_D A [ob a0 0 [.int (nI n), .ref a1, .ref a2, .ref a3, .ref a4, .int vs, .int vb, .int vd], ai a1 cyI 7 (upd fh j ((fh j) + (jmin x (jmin ((1 + (2 * (fg j))) + (ff j)) (99 - (fh j)))))), ai a2 cyI 7 fg, ai a3 cyI 7 (upd ff j ((ff j) - (jmax 0 ((jmin x (jmin ((1 + (2 * (fg j))) + (ff j)) (99 - (fh j)))) - (1 + (2 * (fg j))))))), ai a4 cyI 7 fk] := hD
  refine lv_aload_n hx hb dX0_hold_65 rfl (lv_at hl 2 rfl) ?_
  refine va_get (D := (dC, dI)) (ci := 0) (v := .ref a4) (C := RX0) (T := TX0) (N := 8) hx hb hts hin_X0 hown hK hP 0 rfl rfl 4 (by decide) hw_12 (fun _ h9 => h9) rfl dX0_hold_66 ?_
  refine lv_iload_n hx hb dX0_hold_69 rfl (lv_at hl 3 rfl) ?_
  refine lv_dup2_11 hx hb dX0_hold_70 rfl rfl ?_
  refine ra_iald hx hb hK hP 4 rfl j rfl (by omega) (Nat.le_of_ble_eq_true rfl) dX0_hold_71 ?_
  refine lv_iload hx hb dX0_hold_72 (lv_at hl 0 rfl) ?_
  refine lv_iadd hx hb dX0_hold_74 ?_
  refine ra_iast hx hb hK hP hD hS 4 rfl j rfl (by omega) (Nat.le_of_ble_eq_true rfl) dX0_hold_75 (fun H locs hP hD hS => ?_)
  have hP : va_P (dC, dI) vwCl [ob a0 0 [.int (nI n), .ref a1, .ref a2, .ref a3, .ref a4, .int vs, .int vb, .int vd], ai a1 cyI 7 (upd fh j ((fh j) + (jmin x (jmin ((1 + (2 * (fg j))) + (ff j)) (99 - (fh j)))))), ai a2 cyI 7 fg, ai a3 cyI 7 (upd ff j ((ff j) - (jmax 0 ((jmin x (jmin ((1 + (2 * (fg j))) + (ff j)) (99 - (fh j)))) - (1 + (2 * (fg j))))))), ai a4 cyI 7 (upd fk j ((fk j) + (jmin x (jmin ((1 + (2 * (fg j))) + (ff j)) (99 - (fh j))))))] H := hP
  have hD : va_D A [ob a0 0 [.int (nI n), .ref a1, .ref a2, .ref a3, .ref a4, .int vs, .int vb, .int vd], ai a1 cyI 7 (upd fh j ((fh j) + (jmin x (jmin ((1 + (2 * (fg j))) + (ff j)) (99 - (fh j)))))), ai a2 cyI 7 fg, ai a3 cyI 7 (upd ff j ((ff j) - (jmax 0 ((jmin x (jmin ((1 + (2 * (fg j))) + (ff j)) (99 - (fh j)))) - (1 + (2 * (fg j))))))), ai a4 cyI 7 (upd fk j ((fk j) + (jmin x (jmin ((1 + (2 * (fg j))) + (ff j)) (99 - (fh j))))))] := hD
  refine lv_iload hx hb dX0_hold_76 (lv_at hl 0 rfl) ?_
  rw [hQ]
  exact ra_iretW () hx hb hr hlocks rfl hK hP hD hS rfl dX0_hold_78

set_option maxHeartbeats 4000000 in
set_option maxRecDepth 100000 in
theorem c_X0_blow (l : Launch) (dC : Nat → ClassId) (dI : Nat → Nat → Nat) (cyI cyA : ClassId) (a0 a1 a2 a3 a4 n : Nat) (fh fg ff fk : FN) (vs vb vd : Int32) (w : Int32) (hn : n ≤ 7) (sz : Nat) : Met l yX0_blow wsX0_blow (rm 2) (kW dC dI cyI cyA [.ref a0, .int w] sz [ob a0 0 [.int (nI n), .ref a1, .ref a2, .ref a3, .ref a4, .int vs, .int vb, .int vd], ai a1 cyI 7 fh, ai a2 cyI 7 fg, ai a3 cyI 7 ff, ai a4 cyI 7 fk]) (qI dC dI cyI cyA (fun (r : Int32) (_ : Unit) => r = (blow phc psc n fh fg ff fk w).2.2.2) (va_A [ob a0 0 [.int (nI n), .ref a1, .ref a2, .ref a3, .ref a4, .int vs, .int vb, .int vd], ai a1 cyI 7 fh, ai a2 cyI 7 fg, ai a3 cyI 7 ff, ai a4 cyI 7 fk] sz) (fun _ => [ob a0 0 [.int (nI n), .ref a1, .ref a2, .ref a3, .ref a4, .int vs, .int (vb + (blow phc psc n fh fg ff fk w).2.2.2), .int vd], ai a1 cyI 7 ((blow phc psc n fh fg ff fk w).1), ai a2 cyI 7 fg, ai a3 cyI 7 ((blow phc psc n fh fg ff fk w).2.1), ai a4 cyI 7 ((blow phc psc n fh fg ff fk w).2.2.1)])) 0 0 (va_A [ob a0 0 [.int (nI n), .ref a1, .ref a2, .ref a3, .ref a4, .int vs, .int vb, .int vd], ai a1 cyI 7 fh, ai a2 cyI 7 fg, ai a3 cyI 7 ff, ai a4 cyI 7 fk] sz) := by
  refine ra_metW (cc := cX0_blow) (maxL := 6) (Qc := fun A => qI dC dI cyI cyA (fun (r : Int32) (_ : Unit) => r = (blow phc psc n fh fg ff fk w).2.2.2) A (fun _ => [ob a0 0 [.int (nI n), .ref a1, .ref a2, .ref a3, .ref a4, .int vs, .int (vb + (blow phc psc n fh fg ff fk w).2.2.2), .int vd], ai a1 cyI 7 ((blow phc psc n fh fg ff fk w).1), ai a2 cyI 7 fg, ai a3 cyI 7 ((blow phc psc n fh fg ff fk w).2.1), ai a4 cyI 7 ((blow phc psc n fh fg ff fk w).2.2.1)])) (by decide) rfl (Nat.le_of_ble_eq_true rfl) ?_
  intro p e s m below meth c A args Q hQ hx hb hr hlocks hml hts hown hnm hK hN hP hD hA hS ls hl
  have hl : lv_has ls 6 [(0, .ref a0), (1, .int w)] := hl
  have hown : s.vm.findClass RX0 = some m.cls := hown
  have hw_1 := hts (.fieldLink RX0 28 "DuneBench$Coast" "cells" "I") (by decide +kernel)
  have hin_X0 : ∀ w ∈ u_ws RX0 TX0 8, w ∈ wsX0_blow := by decide +kernel
  have hw_3 := hts (.fieldLink RX0 35 "DuneBench$Coast" "behind" "I") (by decide +kernel)
  have hw_4 := hts (.fieldLink RX0 9 "DuneBench$Coast" "height" "[I") (by decide +kernel)
  have hw_5 := hts (.fieldLink RX0 15 "DuneBench$Coast" "grass" "[I") (by decide +kernel)
  have hw_6 := hts (.methodLink RX0 41 Lib.Math.max.name) (by decide +kernel)
  have hw_7 := hts (.static Lib.Math.max.name) (by decide +kernel)
  have hw_8 := hts (.initialized "java/lang/Math") (by decide +kernel)
  have hw_9 := hts (.code Lib.Math.max.name Lib.Math.max.code 2 (some .int)) (by decide +kernel)
  have hw_10 := hts (.methodLink RX0 47 Lib.Math.min.name) (by decide +kernel)
  have hw_11 := hts (.static Lib.Math.min.name) (by decide +kernel)
  have hw_12 := hts (.code Lib.Math.min.name Lib.Math.min.code 2 (some .int)) (by decide +kernel)
  obtain ⟨H, hHe⟩ : ∃ H, H = s.heap := ⟨_, rfl⟩
  obtain ⟨locs, hLe⟩ : ∃ locs : List Loc, locs = [] := ⟨_, rfl⟩
  have hP : va_P (dC, dI) vwCl [ob a0 0 [.int (nI n), .ref a1, .ref a2, .ref a3, .ref a4, .int vs, .int vb, .int vd], ai a1 cyI 7 fh, ai a2 cyI 7 fg, ai a3 cyI 7 ff, ai a4 cyI 7 fk] H := by rw [hHe]; exact hP
  have hS : va_S A s.heap H locs := by rw [hHe, hLe]; exact hS
  suffices hgo : W p l e (rm 2) s m args below meth c H locs 0 0 Q (F0 m 0 ls []) by rw [hHe, hLe] at hgo; exact hgo
  refine lv_iconst (v := 0) hx hb dX0_blow_0 (by decide) ?_
  refine lv_istore_n (lv' := [(2, .int 0), (0, .ref a0), (1, .int w)]) hx hb dX0_blow_1 rfl hl (by decide) rfl (fun ls hl => ?_)
  refine lv_aload_n hx hb dX0_blow_2 rfl (lv_at hl 1 rfl) ?_
  refine va_get (D := (dC, dI)) (ci := 0) (v := .int (nI n)) (C := RX0) (T := TX0) (N := 8) hx hb hts hin_X0 hown hK hP 0 rfl rfl 0 (by decide) hw_1 (fun _ h9 => h9) rfl dX0_blow_3 ?_
  refine lv_iconst (v := 1) hx hb dX0_blow_6 (by decide) ?_
  refine lv_isub hx hb dX0_blow_7 ?_
  refine lv_istore_n (lv' := [(3, .int ((nI n) - 1)), (2, .int 0), (0, .ref a0), (1, .int w)]) hx hb dX0_blow_8 rfl hl (by decide) rfl (fun ls hl => ?_)
  have L_9 : ∀ (n9 : Nat) (q : Nat) (fh0 : FN) (ff0 : FN) (fk0 : FN) (x : Int32), (q ≤ n) → (bOut phc psc n fg w q fh0 ff0 fk0 x = blow phc psc n fh fg ff fk w) → q < n9 → ∀ (H : Heap) (locs : List Loc), va_P (dC, dI) vwCl [ob a0 0 [.int (nI n), .ref a1, .ref a2, .ref a3, .ref a4, .int vs, .int vb, .int vd], ai a1 cyI 7 fh0, ai a2 cyI 7 fg, ai a3 cyI 7 ff0, ai a4 cyI 7 fk0] H → va_D A [ob a0 0 [.int (nI n), .ref a1, .ref a2, .ref a3, .ref a4, .int vs, .int vb, .int vd], ai a1 cyI 7 fh0, ai a2 cyI 7 fg, ai a3 cyI 7 ff0, ai a4 cyI 7 fk0] → va_S A s.heap H locs → ∀ ls : Array Slot, lv_has ls 6 [(0, .ref a0), (1, .int w), (2, .int x), (3, .int (nI q - 1))] → W p l e (rm 2) s m args below meth c H locs 0 0 Q (F0 m 9 ls []) := by
    intro n9
    induction n9 with
    | zero =>
      intro q fh0 ff0 fk0 x hq he hm9
      exact absurd hm9 (Nat.not_lt_zero _)
    | succ n9 ih_9 =>
      intro q fh0 ff0 fk0 x hq he hm9 H locs hP hD hS ls hl
      rcases q with _ | j
      ·
        have hl : lv_has ls 6 [(0, .ref a0), (1, .int w), (2, .int x), (3, .int (-1))] := by rw [show nI 0 - 1 = (-1 : Int32) by decide] at hl; exact hl
        refine lv_iload_n hx hb dX0_blow_9 rfl (lv_at hl 3 rfl) ?_
        refine lv_if_lt (tgt := 96) hx hb dX0_blow_10 (by decide) (fun c_10 => ?_) (fun c_10 => ?_)
        · ---- to 96
          have he : (fh0, ff0, fk0, x) = blow phc psc n fh fg ff fk w := he
          refine lv_aload_n hx hb dX0_blow_96 rfl (lv_at hl 0 rfl) ?_
          refine lv_dup hx hb dX0_blow_97 rfl ?_
          refine va_get (D := (dC, dI)) (ci := 0) (v := .int vb) (C := RX0) (T := TX0) (N := 8) hx hb hts hin_X0 hown hK hP 0 rfl rfl 6 (by decide) hw_3 (fun _ h9 => h9) rfl dX0_blow_98 ?_
          refine lv_iload_n hx hb dX0_blow_101 rfl (lv_at hl 2 rfl) ?_
          refine lv_iadd hx hb dX0_blow_102 ?_
          refine va_put (D := (dC, dI)) (ci := 0) (v := .int (vb + x)) (ty := .int) (C := RX0) (T := TX0) (N := 8) hx hb hts hin_X0 tyX0 tyX0_ok nmX0 hown hK hP hD hS 0 rfl rfl 6 (by decide) hw_3 (fun _ h9 => h9) rfl (by decide +kernel) rfl rfl (Nat.le_of_ble_eq_true rfl) dX0_blow_103 (fun H locs hP hD hS => ?_)
          have hP : va_P (dC, dI) vwCl [ob a0 0 [.int (nI n), .ref a1, .ref a2, .ref a3, .ref a4, .int vs, .int (vb + x), .int vd], ai a1 cyI 7 fh0, ai a2 cyI 7 fg, ai a3 cyI 7 ff0, ai a4 cyI 7 fk0] H := hP
          have hD : va_D A [ob a0 0 [.int (nI n), .ref a1, .ref a2, .ref a3, .ref a4, .int vs, .int (vb + x), .int vd], ai a1 cyI 7 fh0, ai a2 cyI 7 fg, ai a3 cyI 7 ff0, ai a4 cyI 7 fk0] := hD
          refine lv_iload_n hx hb dX0_blow_106 rfl (lv_at hl 2 rfl) ?_
          rw [hQ]
          rw [← he]
          exact ra_iretW () hx hb hr hlocks rfl hK hP hD hS rfl dX0_blow_107
        · ---- on
          exact absurd c_10 (by decide)
      ·
        have hl : lv_has ls 6 [(0, .ref a0), (1, .int w), (2, .int x), (3, .int (nI j))] := by rw [nI_pred] at hl; exact hl
        refine lv_iload_n hx hb dX0_blow_9 rfl (lv_at hl 3 rfl) ?_
        refine lv_if_lt (tgt := 96) hx hb dX0_blow_10 (by decide) (fun c_10 => ?_) (fun c_10 => ?_)
        · ---- to 96
          exact absurd c_10 (nI_pos (by omega))
        · ---- on
          have n_10 := (nq_lt_n j 0 (by omega) (by omega)).mp c_10
          refine lv_aload_n hx hb dX0_blow_13 rfl (lv_at hl 0 rfl) ?_
          refine va_get (D := (dC, dI)) (ci := 0) (v := .ref a1) (C := RX0) (T := TX0) (N := 8) hx hb hts hin_X0 hown hK hP 0 rfl rfl 1 (by decide) hw_4 (fun _ h9 => h9) rfl dX0_blow_14 ?_
          refine lv_iload_n hx hb dX0_blow_17 rfl (lv_at hl 3 rfl) ?_
          refine ra_iald hx hb hK hP 1 rfl j rfl (by omega) (Nat.le_of_ble_eq_true rfl) dX0_blow_18 ?_
          refine lv_iconst (v := 0) hx hb dX0_blow_19 (by decide) ?_
          refine lv_iload_n hx hb dX0_blow_20 rfl (lv_at hl 1 rfl) ?_
          refine lv_aload_n hx hb dX0_blow_21 rfl (lv_at hl 0 rfl) ?_
          refine va_get (D := (dC, dI)) (ci := 0) (v := .ref a2) (C := RX0) (T := TX0) (N := 8) hx hb hts hin_X0 hown hK hP 0 rfl rfl 2 (by decide) hw_5 (fun _ h9 => h9) rfl dX0_blow_22 ?_
          refine lv_iload_n hx hb dX0_blow_25 rfl (lv_at hl 3 rfl) ?_
          refine ra_iald hx hb hK hP 2 rfl j rfl (by omega) (Nat.le_of_ble_eq_true rfl) dX0_blow_26 ?_
          refine lv_isub hx hb dX0_blow_27 ?_
          refine va_mmax hx hb (hml.trans hl.1.symm) hown hw_6 hw_7 hw_8 hw_9 (Nat.le_of_ble_eq_true rfl) (Nat.le_of_ble_eq_true rfl) (Nat.le_of_ble_eq_true rfl) (Nat.le_of_ble_eq_true rfl) dX0_blow_28 ?_
          refine ra_top (jmax 0 (w - (fg j))) rfl ?_
          refine va_mmin hx hb (hml.trans hl.1.symm) hown hw_10 hw_11 hw_8 hw_12 (Nat.le_of_ble_eq_true rfl) (Nat.le_of_ble_eq_true rfl) (Nat.le_of_ble_eq_true rfl) (Nat.le_of_ble_eq_true rfl) dX0_blow_31 ?_
          refine ra_top (jmin (fh0 j) (jmax 0 (w - (fg j)))) rfl ?_
          refine lv_istore (lv' := [(4, .int (jmin (fh0 j) (jmax 0 (w - (fg j))))), (0, .ref a0), (1, .int w), (2, .int x), (3, .int (nI j))]) hx hb dX0_blow_34 hl (by decide) rfl (fun ls hl => ?_)
          refine lv_aload_n hx hb dX0_blow_36 rfl (lv_at hl 1 rfl) ?_
          refine va_get (D := (dC, dI)) (ci := 0) (v := .ref a1) (C := RX0) (T := TX0) (N := 8) hx hb hts hin_X0 hown hK hP 0 rfl rfl 1 (by decide) hw_4 (fun _ h9 => h9) rfl dX0_blow_37 ?_
          refine lv_iload_n hx hb dX0_blow_40 rfl (lv_at hl 4 rfl) ?_
          refine lv_dup2_11 hx hb dX0_blow_41 rfl rfl ?_
          refine ra_iald hx hb hK hP 1 rfl j rfl (by omega) (Nat.le_of_ble_eq_true rfl) dX0_blow_42 ?_
          refine lv_iload hx hb dX0_blow_43 (lv_at hl 0 rfl) ?_
          refine lv_isub hx hb dX0_blow_45 ?_
          refine ra_iast hx hb hK hP hD hS 1 rfl j rfl (by omega) (Nat.le_of_ble_eq_true rfl) dX0_blow_46 (fun H locs hP hD hS => ?_)
          have hP : va_P (dC, dI) vwCl [ob a0 0 [.int (nI n), .ref a1, .ref a2, .ref a3, .ref a4, .int vs, .int vb, .int vd], ai a1 cyI 7 (upd fh0 j ((fh0 j) - (jmin (fh0 j) (jmax 0 (w - (fg j)))))), ai a2 cyI 7 fg, ai a3 cyI 7 ff0, ai a4 cyI 7 fk0] H := hP
          have hD : va_D A [ob a0 0 [.int (nI n), .ref a1, .ref a2, .ref a3, .ref a4, .int vs, .int vb, .int vd], ai a1 cyI 7 (upd fh0 j ((fh0 j) - (jmin (fh0 j) (jmax 0 (w - (fg j)))))), ai a2 cyI 7 fg, ai a3 cyI 7 ff0, ai a4 cyI 7 fk0] := hD
          refine lv_iload_n hx hb dX0_blow_47 rfl (lv_at hl 4 rfl) ?_
          refine lv_iconst (v := 1) hx hb dX0_blow_48 (by decide) ?_
          refine lv_iadd hx hb dX0_blow_49 ?_
          refine ra_top (nI (j + 1)) (nI_add j 1) ?_
          refine lv_istore (lv' := [(5, .int (nI (j + 1))), (4, .int (jmin (fh0 j) (jmax 0 (w - (fg j))))), (0, .ref a0), (1, .int w), (2, .int x), (3, .int (nI j))]) hx hb dX0_blow_50 hl (by decide) rfl (fun ls hl => ?_)
          have L_52 : ∀ (n9 : Nat) (j2 : Nat) (fh1 : FN) (ff1 : FN) (fk1 : FN) (z : Int32), (j2 ≤ n) → (bIn phc fg (n - j2) j2 fh1 ff1 fk1 z = bIn phc fg (n - (j + 1)) (j + 1) (upd fh0 j (fh0 j - jmin (fh0 j) (psc w (fg j)))) ff0 fk0 (jmin (fh0 j) (psc w (fg j)))) → (n - j2) < n9 → ∀ (H : Heap) (locs : List Loc), va_P (dC, dI) vwCl [ob a0 0 [.int (nI n), .ref a1, .ref a2, .ref a3, .ref a4, .int vs, .int vb, .int vd], ai a1 cyI 7 fh1, ai a2 cyI 7 fg, ai a3 cyI 7 ff1, ai a4 cyI 7 fk1] H → va_D A [ob a0 0 [.int (nI n), .ref a1, .ref a2, .ref a3, .ref a4, .int vs, .int vb, .int vd], ai a1 cyI 7 fh1, ai a2 cyI 7 fg, ai a3 cyI 7 ff1, ai a4 cyI 7 fk1] → va_S A s.heap H locs → ∀ ls : Array Slot, lv_has ls 6 [(0, .ref a0), (1, .int w), (2, .int x), (3, .int (nI j)), (4, .int z), (5, .int (nI j2))] → W p l e (rm 2) s m args below meth c H locs 0 0 Q (F0 m 52 ls []) := by
            intro n9
            induction n9 with
            | zero =>
              intro j2 fh1 ff1 fk1 z hj2 he2 hm9
              exact absurd hm9 (Nat.not_lt_zero _)
            | succ n9 ih_52 =>
              intro j2 fh1 ff1 fk1 z hj2 he2 hm9 H locs hP hD hS ls hl
              refine lv_iload hx hb dX0_blow_52 (lv_at hl 5 rfl) ?_
              refine lv_aload_n hx hb dX0_blow_54 rfl (lv_at hl 0 rfl) ?_
              refine va_get (D := (dC, dI)) (ci := 0) (v := .int (nI n)) (C := RX0) (T := TX0) (N := 8) hx hb hts hin_X0 hown hK hP 0 rfl rfl 0 (by decide) hw_1 (fun _ h9 => h9) rfl dX0_blow_55 ?_
              refine lv_icmp_ge (tgt := 85) hx hb dX0_blow_58 (by decide) (fun c_58 => ?_) (fun c_58 => ?_)
              · ---- to 85
                have n_58 := (nq_le n j2 (by omega) (by omega)).mp c_58
                have he2 : (fh1, ff1, fk1, z) = bIn phc fg (n - (j + 1)) (j + 1) (upd fh0 j (fh0 j - jmin (fh0 j) (psc w (fg j)))) ff0 fk0 (jmin (fh0 j) (psc w (fg j))) := by rw [← he2, show n - j2 = 0 by omega]; rfl
                refine lv_iload_n hx hb dX0_blow_85 rfl (lv_at hl 2 rfl) ?_
                refine lv_iload hx hb dX0_blow_86 (lv_at hl 4 rfl) ?_
                refine lv_iadd hx hb dX0_blow_88 ?_
                refine lv_istore_n (lv' := [(2, .int (x + z)), (0, .ref a0), (1, .int w), (3, .int (nI j)), (4, .int z), (5, .int (nI j2))]) hx hb dX0_blow_89 rfl hl (by decide) rfl (fun ls hl => ?_)
                refine lv_iinc (v := nI j - 1) (lv' := [(3, .int (nI j - 1)), (2, .int (x + z)), (0, .ref a0), (1, .int w), (4, .int z), (5, .int (nI j2))]) hx hb dX0_blow_90 hl (k := 3) rfl (ra_dec _) (by decide) rfl (fun ls hl => ?_)
                refine lv_goto (tgt := 9) hx hb dX0_blow_93 (by decide) ?_
                exact ih_9 j fh1 ff1 fk1 (x + z) (by omega) (by rw [← he]; show _ = bOut phc psc n fg w j (bIn phc fg (n - (j + 1)) (j + 1) (upd fh0 j (fh0 j - jmin (fh0 j) (psc w (fg j)))) ff0 fk0 (jmin (fh0 j) (psc w (fg j)))).1 (bIn phc fg (n - (j + 1)) (j + 1) (upd fh0 j (fh0 j - jmin (fh0 j) (psc w (fg j)))) ff0 fk0 (jmin (fh0 j) (psc w (fg j)))).2.1 (bIn phc fg (n - (j + 1)) (j + 1) (upd fh0 j (fh0 j - jmin (fh0 j) (psc w (fg j)))) ff0 fk0 (jmin (fh0 j) (psc w (fg j)))).2.2.1 (x + (bIn phc fg (n - (j + 1)) (j + 1) (upd fh0 j (fh0 j - jmin (fh0 j) (psc w (fg j)))) ff0 fk0 (jmin (fh0 j) (psc w (fg j)))).2.2.2); rw [← he2]) (by omega) H locs hP hD hS ls (lv_sub hl [2, 3, 1, 0] rfl)
              · ---- on
                have n_58 := (nq_le_n n j2 (by omega) (by omega)).mp c_58
                refine lv_iload hx hb dX0_blow_61 (lv_at hl 4 rfl) ?_
                refine lv_if_le (tgt := 85) hx hb dX0_blow_63 (by decide) (fun c_63 => ?_) (fun c_63 => ?_)
                · ---- to 85
                  have he2 : (fh1, ff1, fk1, z) = bIn phc fg (n - (j + 1)) (j + 1) (upd fh0 j (fh0 j - jmin (fh0 j) (psc w (fg j)))) ff0 fk0 (jmin (fh0 j) (psc w (fg j))) := by rw [← he2]; exact (bIn_0 _ _ _ _ _ _ c_63).symm
                  refine lv_iload_n hx hb dX0_blow_85 rfl (lv_at hl 2 rfl) ?_
                  refine lv_iload hx hb dX0_blow_86 (lv_at hl 4 rfl) ?_
                  refine lv_iadd hx hb dX0_blow_88 ?_
                  refine lv_istore_n (lv' := [(2, .int (x + z)), (0, .ref a0), (1, .int w), (3, .int (nI j)), (4, .int z), (5, .int (nI j2))]) hx hb dX0_blow_89 rfl hl (by decide) rfl (fun ls hl => ?_)
                  refine lv_iinc (v := nI j - 1) (lv' := [(3, .int (nI j - 1)), (2, .int (x + z)), (0, .ref a0), (1, .int w), (4, .int z), (5, .int (nI j2))]) hx hb dX0_blow_90 hl (k := 3) rfl (ra_dec _) (by decide) rfl (fun ls hl => ?_)
                  refine lv_goto (tgt := 9) hx hb dX0_blow_93 (by decide) ?_
                  exact ih_9 j fh1 ff1 fk1 (x + z) (by omega) (by rw [← he]; show _ = bOut phc psc n fg w j (bIn phc fg (n - (j + 1)) (j + 1) (upd fh0 j (fh0 j - jmin (fh0 j) (psc w (fg j)))) ff0 fk0 (jmin (fh0 j) (psc w (fg j)))).1 (bIn phc fg (n - (j + 1)) (j + 1) (upd fh0 j (fh0 j - jmin (fh0 j) (psc w (fg j)))) ff0 fk0 (jmin (fh0 j) (psc w (fg j)))).2.1 (bIn phc fg (n - (j + 1)) (j + 1) (upd fh0 j (fh0 j - jmin (fh0 j) (psc w (fg j)))) ff0 fk0 (jmin (fh0 j) (psc w (fg j)))).2.2.1 (x + (bIn phc fg (n - (j + 1)) (j + 1) (upd fh0 j (fh0 j - jmin (fh0 j) (psc w (fg j)))) ff0 fk0 (jmin (fh0 j) (psc w (fg j)))).2.2.2); rw [← he2]) (by omega) H locs hP hD hS ls (lv_sub hl [2, 3, 1, 0] rfl)
                · ---- on
                  refine lv_iload hx hb dX0_blow_66 (lv_at hl 4 rfl) ?_
                  refine lv_aload_n hx hb dX0_blow_68 rfl (lv_at hl 0 rfl) ?_
                  refine lv_iload hx hb dX0_blow_69 (lv_at hl 5 rfl) ?_
                  refine lv_iload hx hb dX0_blow_71 (lv_at hl 4 rfl) ?_
                  refine ra_cI (q := (RX0, TX0, 8)) (ci := 0) (As := [.int (nI j2), .int z]) (rest := [.int z]) (wc := [ob a0 0 [.int (nI n), .ref a1, .ref a2, .ref a3, .ref a4, .int vs, .int vb, .int vd], ai a1 cyI 7 fh1, ai a2 cyI 7 fg, ai a3 cyI 7 ff1, ai a4 cyI 7 fk1]) (wr := []) ⟨hx, hb, hml, hown, hts⟩ (c_X0_hold l dC dI cyI cyA a0 a1 a2 a3 a4 n fh1 fg ff1 fk1 vs vb vd j2 z (by omega) H.size) (cwV 2 hts gX0_blow_X0_hold rfl rfl rfl (by decide +kernel) ⟨Nat.le_of_ble_eq_true rfl, Nat.le_of_ble_eq_true rfl⟩) hK hN hP hD hA hS [0, 1, 2, 3, 4] [] rfl rfl (by decide) (by decide) (by decide) rfl rfl rfl hl.1 rfl (Nat.le_of_ble_eq_true rfl) dX0_blow_73 ⟨Nat.le_of_ble_eq_true rfl, Nat.le_of_ble_eq_true rfl⟩ (fun r_1 u_1 hw_c1 H locs hP hD hS => ?_)
                  subst hw_c1
                  have hP : va_P (dC, dI) vwCl [ob a0 0 [.int (nI n), .ref a1, .ref a2, .ref a3, .ref a4, .int vs, .int vb, .int vd], ai a1 cyI 7 (upd fh1 j2 (fh1 j2 + heldv fh1 fg ff1 j2 z)), ai a2 cyI 7 fg, ai a3 cyI 7 (upd ff1 j2 (ff1 j2 - phc (heldv fh1 fg ff1 j2 z) (1 + 2 * fg j2))), ai a4 cyI 7 (upd fk1 j2 (fk1 j2 + heldv fh1 fg ff1 j2 z))] H := hP
                  have hD : va_D A [ob a0 0 [.int (nI n), .ref a1, .ref a2, .ref a3, .ref a4, .int vs, .int vb, .int vd], ai a1 cyI 7 (upd fh1 j2 (fh1 j2 + heldv fh1 fg ff1 j2 z)), ai a2 cyI 7 fg, ai a3 cyI 7 (upd ff1 j2 (ff1 j2 - phc (heldv fh1 fg ff1 j2 z) (1 + 2 * fg j2))), ai a4 cyI 7 (upd fk1 j2 (fk1 j2 + heldv fh1 fg ff1 j2 z))] := hD
                  refine lv_isub hx hb dX0_blow_76 ?_
                  refine lv_istore (lv' := [(4, .int (z - (heldv fh1 fg ff1 j2 z))), (0, .ref a0), (1, .int w), (2, .int x), (3, .int (nI j)), (5, .int (nI j2))]) hx hb dX0_blow_77 hl (by decide) rfl (fun ls hl => ?_)
                  refine lv_iinc (v := nI (j2 + 1)) (lv' := [(5, .int (nI (j2 + 1))), (4, .int (z - (heldv fh1 fg ff1 j2 z))), (0, .ref a0), (1, .int w), (2, .int x), (3, .int (nI j))]) hx hb dX0_blow_79 hl (k := 5) rfl (ra_inc1 _) (by decide) rfl (fun ls hl => ?_)
                  refine lv_goto (tgt := 52) hx hb dX0_blow_82 (by decide) ?_
                  exact ih_52 (j2 + 1) (upd fh1 j2 (fh1 j2 + heldv fh1 fg ff1 j2 z)) (upd ff1 j2 (ff1 j2 - phc (heldv fh1 fg ff1 j2 z) (1 + 2 * fg j2))) (upd fk1 j2 (fk1 j2 + heldv fh1 fg ff1 j2 z)) (z - (heldv fh1 fg ff1 j2 z)) (by omega) (by rw [← he2, show n - j2 = n - (j2 + 1) + 1 by omega]; exact (bIn_c _ _ _ _ _ _ c_63).symm) (by omega) H locs hP hD hS ls (lv_sub hl [2, 3, 4, 5, 1, 0] rfl)
          exact L_52 _ (j + 1) (upd fh0 j ((fh0 j) - (jmin (fh0 j) (jmax 0 (w - (fg j)))))) ff0 fk0 (jmin (fh0 j) (jmax 0 (w - (fg j)))) (by omega) rfl (Nat.lt_succ_self _) H locs hP hD hS ls (lv_sub hl [2, 3, 4, 5, 1, 0] rfl)
  exact L_9 _ n fh ff fk 0 (Nat.le_refl _) rfl (Nat.lt_succ_self _) H locs hP hD hS ls (lv_sub hl [2, 3, 1, 0] rfl)

set_option maxHeartbeats 4000000 in
set_option maxRecDepth 100000 in
theorem c_X0_greatestHeight (l : Launch) (dC : Nat → ClassId) (dI : Nat → Nat → Nat) (cyI cyA : ClassId) (a0 a1 a2 a3 a4 n : Nat) (fh fg ff fk : FN) (vs vb vd : Int32) (hn : n ≤ 7) : Met l yX0_greatestHeight wsX0_greatestHeight (rm 1) (kR dC dI cyI cyA [.ref a0] [ob a0 0 [.int (nI n), .ref a1, .ref a2, .ref a3, .ref a4, .int vs, .int vb, .int vd], ai a1 cyI 7 fh, ai a2 cyI 7 fg, ai a3 cyI 7 ff, ai a4 cyI 7 fk]) (QcRead (gMax fh n 0 0)) 0 0 (fun _ => False) := by
  refine ra_metR (cc := cX0_greatestHeight) (maxL := 3) (by decide) rfl (Nat.le_of_ble_eq_true rfl) ?_
  intro p e s m below meth c args Q hQ hx hb hr hlocks hml hts hown hK hN hP ls hl
  have hl : lv_has ls 3 [(0, .ref a0)] := hl
  have hown : s.vm.findClass RX0 = some m.cls := hown
  have hw_1 := hts (.fieldLink RX0 28 "DuneBench$Coast" "cells" "I") (by decide +kernel)
  have hin_X0 : ∀ w ∈ u_ws RX0 TX0 8, w ∈ wsX0_greatestHeight := by decide +kernel
  have hw_3 := hts (.fieldLink RX0 9 "DuneBench$Coast" "height" "[I") (by decide +kernel)
  have hw_4 := hts (.methodLink RX0 41 Lib.Math.max.name) (by decide +kernel)
  have hw_5 := hts (.static Lib.Math.max.name) (by decide +kernel)
  have hw_6 := hts (.initialized "java/lang/Math") (by decide +kernel)
  have hw_7 := hts (.code Lib.Math.max.name Lib.Math.max.code 2 (some .int)) (by decide +kernel)
  refine lv_iconst (v := 0) hx hb dX0_greatestHeight_0 (by decide) ?_
  refine lv_istore_n (lv' := [(1, .int 0), (0, .ref a0)]) hx hb dX0_greatestHeight_1 rfl hl (by decide) rfl (fun ls hl => ?_)
  refine lv_iconst (v := 0) hx hb dX0_greatestHeight_2 (by decide) ?_
  refine lv_istore_n (lv' := [(2, .int 0), (1, .int 0), (0, .ref a0)]) hx hb dX0_greatestHeight_3 rfl hl (by decide) rfl (fun ls hl => ?_)
  have L_4 : ∀ (n9 : Nat) (i : Nat) (x : Int32), (i ≤ n) → (gMax fh (n - i) i x = gMax fh n 0 0) → (n - i) < n9 → ∀ ls : Array Slot, lv_has ls 3 [(0, .ref a0), (1, .int x), (2, .int (nI i))] → W p l e (rm 1) s m args below meth c s.heap [] 0 0 Q (F0 m 4 ls []) := by
    intro n9
    induction n9 with
    | zero =>
      intro i x hi he hm9
      exact absurd hm9 (Nat.not_lt_zero _)
    | succ n9 ih_4 =>
      intro i x hi he hm9 ls hl
      refine lv_iload_n hx hb dX0_greatestHeight_4 rfl (lv_at hl 2 rfl) ?_
      refine lv_aload_n hx hb dX0_greatestHeight_5 rfl (lv_at hl 0 rfl) ?_
      refine va_get (D := (dC, dI)) (ci := 0) (v := .int (nI n)) (C := RX0) (T := TX0) (N := 8) hx hb hts hin_X0 hown hK hP 0 rfl rfl 0 (by decide) hw_1 (fun _ h9 => h9) rfl dX0_greatestHeight_6 ?_
      refine lv_icmp_ge (tgt := 29) hx hb dX0_greatestHeight_9 (by decide) (fun c_9 => ?_) (fun c_9 => ?_)
      · ---- to 29
        have n_9 := (nq_le n i (by omega) (by omega)).mp c_9
        refine lv_iload_n hx hb dX0_greatestHeight_29 rfl (lv_at hl 1 rfl) ?_
        rw [hQ]
        exact ra_iretR hx hb hr hlocks rfl (by rw [← he, show n - i = 0 by omega]; rfl) dX0_greatestHeight_30
      · ---- on
        have n_9 := (nq_le_n n i (by omega) (by omega)).mp c_9
        refine lv_iload_n hx hb dX0_greatestHeight_12 rfl (lv_at hl 1 rfl) ?_
        refine lv_aload_n hx hb dX0_greatestHeight_13 rfl (lv_at hl 0 rfl) ?_
        refine va_get (D := (dC, dI)) (ci := 0) (v := .ref a1) (C := RX0) (T := TX0) (N := 8) hx hb hts hin_X0 hown hK hP 0 rfl rfl 1 (by decide) hw_3 (fun _ h9 => h9) rfl dX0_greatestHeight_14 ?_
        refine lv_iload_n hx hb dX0_greatestHeight_17 rfl (lv_at hl 2 rfl) ?_
        refine ra_iald hx hb hK hP 1 rfl i rfl (by omega) (Nat.le_of_ble_eq_true rfl) dX0_greatestHeight_18 ?_
        refine va_mmax hx hb (hml.trans hl.1.symm) hown hw_4 hw_5 hw_6 hw_7 (Nat.le_of_ble_eq_true rfl) (Nat.le_of_ble_eq_true rfl) (Nat.le_of_ble_eq_true rfl) (Nat.le_of_ble_eq_true rfl) dX0_greatestHeight_19 ?_
        refine ra_top (jmax x (fh i)) rfl ?_
        refine lv_istore_n (lv' := [(1, .int (jmax x (fh i))), (0, .ref a0), (2, .int (nI i))]) hx hb dX0_greatestHeight_22 rfl hl (by decide) rfl (fun ls hl => ?_)
        refine lv_iinc (v := nI (i + 1)) (lv' := [(2, .int (nI (i + 1))), (1, .int (jmax x (fh i))), (0, .ref a0)]) hx hb dX0_greatestHeight_23 hl (k := 2) rfl (ra_inc1 _) (by decide) rfl (fun ls hl => ?_)
        refine lv_goto (tgt := 4) hx hb dX0_greatestHeight_26 (by decide) ?_
        exact ih_4 (i + 1) (jmax x (fh i)) (by omega) (by rw [← he, show n - i = n - (i + 1) + 1 by omega]; rfl) (by omega) ls (lv_sub hl [2, 1, 0] rfl)
  exact L_4 _ 0 0 (by omega) rfl (Nat.lt_succ_self _) ls (lv_sub hl [2, 1, 0] rfl)
