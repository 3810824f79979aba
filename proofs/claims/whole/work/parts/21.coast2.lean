set_option maxHeartbeats 4000000 in
set_option maxRecDepth 100000 in
theorem c_X0_washOut (l : Launch) (dC : Nat → ClassId) (dI : Nat → Nat → Nat) (cyI cyA : ClassId) (a0 a1 a2 a3 a4 n : Nat) (fh fg ff fk : FN) (vs vb vd : Int32) (j : Nat) (x : Int32) (hj : j < 7) (sz : Nat) : Met l yX0_washOut wsX0_washOut (rm 0) (kW dC dI cyI cyA [.ref a0, .int (nI j), .int x] sz [ob a0 0 [.int (nI n), .ref a1, .ref a2, .ref a3, .ref a4, .int vs, .int vb, .int vd], ai a1 cyI 7 fh, ai a2 cyI 7 fg, ai a3 cyI 7 ff, ai a4 cyI 7 fk]) (qV dC dI cyI cyA (fun (_ : Unit) => True) (va_A [ob a0 0 [.int (nI n), .ref a1, .ref a2, .ref a3, .ref a4, .int vs, .int vb, .int vd], ai a1 cyI 7 fh, ai a2 cyI 7 fg, ai a3 cyI 7 ff, ai a4 cyI 7 fk] sz) (fun _ => [ob a0 0 [.int (nI n), .ref a1, .ref a2, .ref a3, .ref a4, .int (vs + x), .int vb, .int vd], ai a1 cyI 7 (upd fh j (fh j - x)), ai a2 cyI 7 fg, ai a3 cyI 7 ff, ai a4 cyI 7 fk])) 0 0 (va_A [ob a0 0 [.int (nI n), .ref a1, .ref a2, .ref a3, .ref a4, .int vs, .int vb, .int vd], ai a1 cyI 7 fh, ai a2 cyI 7 fg, ai a3 cyI 7 ff, ai a4 cyI 7 fk] sz) := by
  refine ra_metW (cc := cX0_washOut) (maxL := 3) (Qc := fun A => qV dC dI cyI cyA (fun (_ : Unit) => True) A (fun _ => [ob a0 0 [.int (nI n), .ref a1, .ref a2, .ref a3, .ref a4, .int (vs + x), .int vb, .int vd], ai a1 cyI 7 (upd fh j (fh j - x)), ai a2 cyI 7 fg, ai a3 cyI 7 ff, ai a4 cyI 7 fk])) (by decide) rfl (Nat.le_of_ble_eq_true rfl) ?_
  intro p e s m below meth c A args Q hQ hx hb hr hlocks hml hts hown hnm hK hN hP hD hA hS ls hl
  have hl : lv_has ls 3 [(0, .ref a0), (1, .int (nI j)), (2, .int x)] := hl
  have hown : s.vm.findClass RX0 = some m.cls := hown
  have hw_1 := hts (.fieldLink RX0 9 "DuneBench$Coast" "height" "[I") (by decide +kernel)
  have hin_X0 : ∀ w ∈ u_ws RX0 TX0 8, w ∈ wsX0_washOut := by decide +kernel
  have hw_3 := hts (.fieldLink RX0 32 "DuneBench$Coast" "sea" "I") (by decide +kernel)
  obtain ⟨H, hHe⟩ : ∃ H, H = s.heap := ⟨_, rfl⟩
  obtain ⟨locs, hLe⟩ : ∃ locs : List Loc, locs = [] := ⟨_, rfl⟩
  have hP : va_P (dC, dI) vwCl [ob a0 0 [.int (nI n), .ref a1, .ref a2, .ref a3, .ref a4, .int vs, .int vb, .int vd], ai a1 cyI 7 fh, ai a2 cyI 7 fg, ai a3 cyI 7 ff, ai a4 cyI 7 fk] H := by rw [hHe]; exact hP
  have hS : va_S A s.heap H locs := by rw [hHe, hLe]; exact hS
  suffices hgo : W p l e (rm 0) s m args below meth c H locs 0 0 Q (F0 m 0 ls []) by rw [hHe, hLe] at hgo; exact hgo
  refine lv_aload_n hx hb dX0_washOut_0 rfl (lv_at hl 0 rfl) ?_
  refine va_get (D := (dC, dI)) (ci := 0) (v := .ref a1) (C := RX0) (T := TX0) (N := 8) hx hb hts hin_X0 hown hK hP 0 rfl rfl 1 (by decide) hw_1 (fun _ h9 => h9) rfl dX0_washOut_1 ?_
  refine lv_iload_n hx hb dX0_washOut_4 rfl (lv_at hl 1 rfl) ?_
  refine lv_dup2_11 hx hb dX0_washOut_5 rfl rfl ?_
  refine ra_iald hx hb hK hP 1 rfl j rfl (by omega) (Nat.le_of_ble_eq_true rfl) dX0_washOut_6 ?_
  refine lv_iload_n hx hb dX0_washOut_7 rfl (lv_at hl 2 rfl) ?_
  refine lv_isub hx hb dX0_washOut_8 ?_
  refine ra_iast hx hb hK hP hD hS 1 rfl j rfl (by omega) (Nat.le_of_ble_eq_true rfl) dX0_washOut_9 (fun H locs hP hD hS => ?_)
  have hP : va_P (dC, dI) vwCl [ob a0 0 [.int (nI n), .ref a1, .ref a2, .ref a3, .ref a4, .int vs, .int vb, .int vd], ai a1 cyI 7 (upd fh j ((fh j) - x)), ai a2 cyI 7 fg, ai a3 cyI 7 ff, ai a4 cyI 7 fk] H := hP
  have hD : va_D A [ob a0 0 [.int (nI n), .ref a1, .ref a2, .ref a3, .ref a4, .int vs, .int vb, .int vd], ai a1 cyI 7 (upd fh j ((fh j) - x)), ai a2 cyI 7 fg, ai a3 cyI 7 ff, ai a4 cyI 7 fk] := hD
  refine lv_aload_n hx hb dX0_washOut_10 rfl (lv_at hl 0 rfl) ?_
  refine lv_dup hx hb dX0_washOut_11 rfl ?_
  refine va_get (D := (dC, dI)) (ci := 0) (v := .int vs) (C := RX0) (T := TX0) (N := 8) hx hb hts hin_X0 hown hK hP 0 rfl rfl 5 (by decide) hw_3 (fun _ h9 => h9) rfl dX0_washOut_12 ?_
  refine lv_iload_n hx hb dX0_washOut_15 rfl (lv_at hl 2 rfl) ?_
  refine lv_iadd hx hb dX0_washOut_16 ?_
  refine va_put (D := (dC, dI)) (ci := 0) (v := .int (vs + x)) (ty := .int) (C := RX0) (T := TX0) (N := 8) hx hb hts hin_X0 tyX0 tyX0_ok nmX0 hown hK hP hD hS 0 rfl rfl 5 (by decide) hw_3 (fun _ h9 => h9) rfl (by decide +kernel) rfl rfl (Nat.le_of_ble_eq_true rfl) dX0_washOut_17 (fun H locs hP hD hS => ?_)
  have hP : va_P (dC, dI) vwCl [ob a0 0 [.int (nI n), .ref a1, .ref a2, .ref a3, .ref a4, .int (vs + x), .int vb, .int vd], ai a1 cyI 7 (upd fh j ((fh j) - x)), ai a2 cyI 7 fg, ai a3 cyI 7 ff, ai a4 cyI 7 fk] H := hP
  have hD : va_D A [ob a0 0 [.int (nI n), .ref a1, .ref a2, .ref a3, .ref a4, .int (vs + x), .int vb, .int vd], ai a1 cyI 7 (upd fh j ((fh j) - x)), ai a2 cyI 7 fg, ai a3 cyI 7 ff, ai a4 cyI 7 fk] := hD
  rw [hQ]
  exact ra_vretW () hx hb hr hlocks hK hP hD hS trivial dX0_washOut_20

set_option maxHeartbeats 4000000 in
set_option maxRecDepth 100000 in
theorem c_X0_surge (l : Launch) (dC : Nat → ClassId) (dI : Nat → Nat → Nat) (cyI cyA : ClassId) (a0 a1 a2 a3 a4 n : Nat) (fh fg ff fk : FN) (vs vb vd : Int32) (w : Int32) (hn : n ≤ 7) (sz : Nat) : Met l yX0_surge wsX0_surge (rm 1) (kW dC dI cyI cyA [.ref a0, .int w] sz [ob a0 0 [.int (nI n), .ref a1, .ref a2, .ref a3, .ref a4, .int vs, .int vb, .int vd], ai a1 cyI 7 fh, ai a2 cyI 7 fg, ai a3 cyI 7 ff, ai a4 cyI 7 fk]) (qI dC dI cyI cyA (fun (r : Int32) (_ : Unit) => r = (srg w n 0 fh fg ff vs vd).1) (va_A [ob a0 0 [.int (nI n), .ref a1, .ref a2, .ref a3, .ref a4, .int vs, .int vb, .int vd], ai a1 cyI 7 fh, ai a2 cyI 7 fg, ai a3 cyI 7 ff, ai a4 cyI 7 fk] sz) (fun _ => [ob a0 0 [.int (nI n), .ref a1, .ref a2, .ref a3, .ref a4, .int ((srg w n 0 fh fg ff vs vd).2.2.2.2.1), .int vb, .int ((srg w n 0 fh fg ff vs vd).2.2.2.2.2)], ai a1 cyI 7 ((srg w n 0 fh fg ff vs vd).2.1), ai a2 cyI 7 ((srg w n 0 fh fg ff vs vd).2.2.1), ai a3 cyI 7 ((srg w n 0 fh fg ff vs vd).2.2.2.1), ai a4 cyI 7 fk])) 0 0 (va_A [ob a0 0 [.int (nI n), .ref a1, .ref a2, .ref a3, .ref a4, .int vs, .int vb, .int vd], ai a1 cyI 7 fh, ai a2 cyI 7 fg, ai a3 cyI 7 ff, ai a4 cyI 7 fk] sz) := by
  refine ra_metW (cc := cX0_surge) (maxL := 3) (Qc := fun A => qI dC dI cyI cyA (fun (r : Int32) (_ : Unit) => r = (srg w n 0 fh fg ff vs vd).1) A (fun _ => [ob a0 0 [.int (nI n), .ref a1, .ref a2, .ref a3, .ref a4, .int ((srg w n 0 fh fg ff vs vd).2.2.2.2.1), .int vb, .int ((srg w n 0 fh fg ff vs vd).2.2.2.2.2)], ai a1 cyI 7 ((srg w n 0 fh fg ff vs vd).2.1), ai a2 cyI 7 ((srg w n 0 fh fg ff vs vd).2.2.1), ai a3 cyI 7 ((srg w n 0 fh fg ff vs vd).2.2.2.1), ai a4 cyI 7 fk])) (by decide) rfl (Nat.le_of_ble_eq_true rfl) ?_
  intro p e s m below meth c A args Q hQ hx hb hr hlocks hml hts hown hnm hK hN hP hD hA hS ls hl
  have hl : lv_has ls 3 [(0, .ref a0), (1, .int w)] := hl
  have hown : s.vm.findClass RX0 = some m.cls := hown
  have hw_1 := hts (.fieldLink RX0 28 "DuneBench$Coast" "cells" "I") (by decide +kernel)
  have hin_X0 : ∀ w ∈ u_ws RX0 TX0 8, w ∈ wsX0_surge := by decide +kernel
  have hw_3 := hts (.fieldLink RX0 38 "DuneBench$Coast" "flooded" "I") (by decide +kernel)
  have hw_4 := hts (.fieldLink RX0 9 "DuneBench$Coast" "height" "[I") (by decide +kernel)
  have hw_5 := hts (.fieldLink RX0 15 "DuneBench$Coast" "grass" "[I") (by decide +kernel)
  have hw_6 := hts (.fieldLink RX0 18 "DuneBench$Coast" "fence" "[I") (by decide +kernel)
  obtain ⟨H, hHe⟩ : ∃ H, H = s.heap := ⟨_, rfl⟩
  obtain ⟨locs, hLe⟩ : ∃ locs : List Loc, locs = [] := ⟨_, rfl⟩
  have hP : va_P (dC, dI) vwCl [ob a0 0 [.int (nI n), .ref a1, .ref a2, .ref a3, .ref a4, .int vs, .int vb, .int vd], ai a1 cyI 7 fh, ai a2 cyI 7 fg, ai a3 cyI 7 ff, ai a4 cyI 7 fk] H := by rw [hHe]; exact hP
  have hS : va_S A s.heap H locs := by rw [hHe, hLe]; exact hS
  suffices hgo : W p l e (rm 1) s m args below meth c H locs 0 0 Q (F0 m 0 ls []) by rw [hHe, hLe] at hgo; exact hgo
  refine lv_iconst (v := 0) hx hb dX0_surge_0 (by decide) ?_
  refine lv_istore_n (lv' := [(2, .int 0), (0, .ref a0), (1, .int w)]) hx hb dX0_surge_1 rfl hl (by decide) rfl (fun ls hl => ?_)
  have L_2 : ∀ (n9 : Nat) (i : Nat) (fh0 : FN) (fg0 : FN) (ff0 : FN) (vs0 : Int32), (i ≤ n) → (srg w (n - i) i fh0 fg0 ff0 vs0 vd = srg w n 0 fh fg ff vs vd) → (n - i) < n9 → ∀ (H : Heap) (locs : List Loc), va_P (dC, dI) vwCl [ob a0 0 [.int (nI n), .ref a1, .ref a2, .ref a3, .ref a4, .int vs0, .int vb, .int vd], ai a1 cyI 7 fh0, ai a2 cyI 7 fg0, ai a3 cyI 7 ff0, ai a4 cyI 7 fk] H → va_D A [ob a0 0 [.int (nI n), .ref a1, .ref a2, .ref a3, .ref a4, .int vs0, .int vb, .int vd], ai a1 cyI 7 fh0, ai a2 cyI 7 fg0, ai a3 cyI 7 ff0, ai a4 cyI 7 fk] → va_S A s.heap H locs → ∀ ls : Array Slot, lv_has ls 3 [(0, .ref a0), (1, .int w), (2, .int (nI i))] → W p l e (rm 1) s m args below meth c H locs 0 0 Q (F0 m 2 ls []) := by
    intro n9
    induction n9 with
    | zero =>
      intro i fh0 fg0 ff0 vs0 hi he hm9
      exact absurd hm9 (Nat.not_lt_zero _)
    | succ n9 ih_2 =>
      intro i fh0 fg0 ff0 vs0 hi he hm9 H locs hP hD hS ls hl
      refine lv_iload_n hx hb dX0_surge_2 rfl (lv_at hl 2 rfl) ?_
      refine lv_aload_n hx hb dX0_surge_3 rfl (lv_at hl 0 rfl) ?_
      refine va_get (D := (dC, dI)) (ci := 0) (v := .int (nI n)) (C := RX0) (T := TX0) (N := 8) hx hb hts hin_X0 hown hK hP 0 rfl rfl 0 (by decide) hw_1 (fun _ h9 => h9) rfl dX0_surge_4 ?_
      refine lv_icmp_ge (tgt := 63) hx hb dX0_surge_7 (by decide) (fun c_7 => ?_) (fun c_7 => ?_)
      · ---- to 63
        have n_7 := (nq_le n i (by omega) (by omega)).mp c_7
        have he : (nI n, fh0, fg0, ff0, vs0, vd + 1) = srg w n 0 fh fg ff vs vd := by rw [← he, show n - i = 0 by omega, show i = n by omega]; rfl
        refine lv_aload_n hx hb dX0_surge_63 rfl (lv_at hl 0 rfl) ?_
        refine lv_dup hx hb dX0_surge_64 rfl ?_
        refine va_get (D := (dC, dI)) (ci := 0) (v := .int vd) (C := RX0) (T := TX0) (N := 8) hx hb hts hin_X0 hown hK hP 0 rfl rfl 7 (by decide) hw_3 (fun _ h9 => h9) rfl dX0_surge_65 ?_
        refine lv_iconst (v := 1) hx hb dX0_surge_68 (by decide) ?_
        refine lv_iadd hx hb dX0_surge_69 ?_
        refine va_put (D := (dC, dI)) (ci := 0) (v := .int (vd + 1)) (ty := .int) (C := RX0) (T := TX0) (N := 8) hx hb hts hin_X0 tyX0 tyX0_ok nmX0 hown hK hP hD hS 0 rfl rfl 7 (by decide) hw_3 (fun _ h9 => h9) rfl (by decide +kernel) rfl rfl (Nat.le_of_ble_eq_true rfl) dX0_surge_70 (fun H locs hP hD hS => ?_)
        have hP : va_P (dC, dI) vwCl [ob a0 0 [.int (nI n), .ref a1, .ref a2, .ref a3, .ref a4, .int vs0, .int vb, .int (vd + 1)], ai a1 cyI 7 fh0, ai a2 cyI 7 fg0, ai a3 cyI 7 ff0, ai a4 cyI 7 fk] H := hP
        have hD : va_D A [ob a0 0 [.int (nI n), .ref a1, .ref a2, .ref a3, .ref a4, .int vs0, .int vb, .int (vd + 1)], ai a1 cyI 7 fh0, ai a2 cyI 7 fg0, ai a3 cyI 7 ff0, ai a4 cyI 7 fk] := hD
        refine lv_aload_n hx hb dX0_surge_73 rfl (lv_at hl 0 rfl) ?_
        refine va_get (D := (dC, dI)) (ci := 0) (v := .int (nI n)) (C := RX0) (T := TX0) (N := 8) hx hb hts hin_X0 hown hK hP 0 rfl rfl 0 (by decide) hw_1 (fun _ h9 => h9) rfl dX0_surge_74 ?_
        rw [hQ]
        rw [← he]
        exact ra_iretW () hx hb hr hlocks rfl hK hP hD hS rfl dX0_surge_77
      · ---- on
        have n_7 := (nq_le_n n i (by omega) (by omega)).mp c_7
        refine lv_aload_n hx hb dX0_surge_10 rfl (lv_at hl 0 rfl) ?_
        refine va_get (D := (dC, dI)) (ci := 0) (v := .ref a1) (C := RX0) (T := TX0) (N := 8) hx hb hts hin_X0 hown hK hP 0 rfl rfl 1 (by decide) hw_4 (fun _ h9 => h9) rfl dX0_surge_11 ?_
        refine lv_iload_n hx hb dX0_surge_14 rfl (lv_at hl 2 rfl) ?_
        refine ra_iald hx hb hK hP 1 rfl i rfl (by omega) (Nat.le_of_ble_eq_true rfl) dX0_surge_15 ?_
        refine lv_iload_n hx hb dX0_surge_16 rfl (lv_at hl 1 rfl) ?_
        refine lv_icmp_lt (tgt := 30) hx hb dX0_surge_17 (by decide) (fun c_17 => ?_) (fun c_17 => ?_)
        · ---- to 30
          refine lv_aload_n hx hb dX0_surge_30 rfl (lv_at hl 0 rfl) ?_
          refine lv_iload_n hx hb dX0_surge_31 rfl (lv_at hl 2 rfl) ?_
          refine lv_aload_n hx hb dX0_surge_32 rfl (lv_at hl 0 rfl) ?_
          refine va_get (D := (dC, dI)) (ci := 0) (v := .ref a1) (C := RX0) (T := TX0) (N := 8) hx hb hts hin_X0 hown hK hP 0 rfl rfl 1 (by decide) hw_4 (fun _ h9 => h9) rfl dX0_surge_33 ?_
          refine lv_iload_n hx hb dX0_surge_36 rfl (lv_at hl 2 rfl) ?_
          refine ra_iald hx hb hK hP 1 rfl i rfl (by omega) (Nat.le_of_ble_eq_true rfl) dX0_surge_37 ?_
          refine lv_iconst (v := 2) hx hb dX0_surge_38 (by decide) ?_
          refine lv_idiv hx hb dX0_surge_39 (by decide) ?_
          refine ra_cV (q := (RX0, TX0, 8)) (ci := 0) (As := [.int (nI i), .int ((fh0 i) / 2)]) (rest := []) (wc := [ob a0 0 [.int (nI n), .ref a1, .ref a2, .ref a3, .ref a4, .int vs0, .int vb, .int vd], ai a1 cyI 7 fh0, ai a2 cyI 7 fg0, ai a3 cyI 7 ff0, ai a4 cyI 7 fk]) (wr := []) ⟨hx, hb, hml, hown, hts⟩ (c_X0_washOut l dC dI cyI cyA a0 a1 a2 a3 a4 n fh0 fg0 ff0 fk vs0 vb vd i ((fh0 i) / 2) (by omega) H.size) (cwV 2 hts gX0_surge_X0_washOut rfl rfl rfl (by decide +kernel) ⟨Nat.le_of_ble_eq_true rfl, Nat.le_of_ble_eq_true rfl⟩) hK hN hP hD hA hS [0, 1, 2, 3, 4] [] rfl rfl (by decide) (by decide) (by decide) rfl rfl rfl hl.1 rfl (Nat.le_of_ble_eq_true rfl) dX0_surge_40 ⟨Nat.le_of_ble_eq_true rfl, Nat.le_of_ble_eq_true rfl⟩ (fun u_1 hw_c1 H locs hP hD hS => ?_)
          have hP : va_P (dC, dI) vwCl [ob a0 0 [.int (nI n), .ref a1, .ref a2, .ref a3, .ref a4, .int (vs0 + ((fh0 i) / 2)), .int vb, .int vd], ai a1 cyI 7 (upd fh0 i (fh0 i - ((fh0 i) / 2))), ai a2 cyI 7 fg0, ai a3 cyI 7 ff0, ai a4 cyI 7 fk] H := hP
          have hD : va_D A [ob a0 0 [.int (nI n), .ref a1, .ref a2, .ref a3, .ref a4, .int (vs0 + ((fh0 i) / 2)), .int vb, .int vd], ai a1 cyI 7 (upd fh0 i (fh0 i - ((fh0 i) / 2))), ai a2 cyI 7 fg0, ai a3 cyI 7 ff0, ai a4 cyI 7 fk] := hD
          refine lv_aload_n hx hb dX0_surge_43 rfl (lv_at hl 0 rfl) ?_
          refine va_get (D := (dC, dI)) (ci := 0) (v := .ref a2) (C := RX0) (T := TX0) (N := 8) hx hb hts hin_X0 hown hK hP 0 rfl rfl 2 (by decide) hw_5 (fun _ h9 => h9) rfl dX0_surge_44 ?_
          refine lv_iload_n hx hb dX0_surge_47 rfl (lv_at hl 2 rfl) ?_
          refine lv_iconst (v := 0) hx hb dX0_surge_48 (by decide) ?_
          refine ra_iast hx hb hK hP hD hS 2 rfl i rfl (by omega) (Nat.le_of_ble_eq_true rfl) dX0_surge_49 (fun H locs hP hD hS => ?_)
          have hP : va_P (dC, dI) vwCl [ob a0 0 [.int (nI n), .ref a1, .ref a2, .ref a3, .ref a4, .int (vs0 + ((fh0 i) / 2)), .int vb, .int vd], ai a1 cyI 7 (upd fh0 i (fh0 i - ((fh0 i) / 2))), ai a2 cyI 7 (upd fg0 i 0), ai a3 cyI 7 ff0, ai a4 cyI 7 fk] H := hP
          have hD : va_D A [ob a0 0 [.int (nI n), .ref a1, .ref a2, .ref a3, .ref a4, .int (vs0 + ((fh0 i) / 2)), .int vb, .int vd], ai a1 cyI 7 (upd fh0 i (fh0 i - ((fh0 i) / 2))), ai a2 cyI 7 (upd fg0 i 0), ai a3 cyI 7 ff0, ai a4 cyI 7 fk] := hD
          refine lv_aload_n hx hb dX0_surge_50 rfl (lv_at hl 0 rfl) ?_
          refine va_get (D := (dC, dI)) (ci := 0) (v := .ref a3) (C := RX0) (T := TX0) (N := 8) hx hb hts hin_X0 hown hK hP 0 rfl rfl 3 (by decide) hw_6 (fun _ h9 => h9) rfl dX0_surge_51 ?_
          refine lv_iload_n hx hb dX0_surge_54 rfl (lv_at hl 2 rfl) ?_
          refine lv_iconst (v := 0) hx hb dX0_surge_55 (by decide) ?_
          refine ra_iast hx hb hK hP hD hS 3 rfl i rfl (by omega) (Nat.le_of_ble_eq_true rfl) dX0_surge_56 (fun H locs hP hD hS => ?_)
          have hP : va_P (dC, dI) vwCl [ob a0 0 [.int (nI n), .ref a1, .ref a2, .ref a3, .ref a4, .int (vs0 + ((fh0 i) / 2)), .int vb, .int vd], ai a1 cyI 7 (upd fh0 i (fh0 i - ((fh0 i) / 2))), ai a2 cyI 7 (upd fg0 i 0), ai a3 cyI 7 (upd ff0 i 0), ai a4 cyI 7 fk] H := hP
          have hD : va_D A [ob a0 0 [.int (nI n), .ref a1, .ref a2, .ref a3, .ref a4, .int (vs0 + ((fh0 i) / 2)), .int vb, .int vd], ai a1 cyI 7 (upd fh0 i (fh0 i - ((fh0 i) / 2))), ai a2 cyI 7 (upd fg0 i 0), ai a3 cyI 7 (upd ff0 i 0), ai a4 cyI 7 fk] := hD
          refine lv_iinc (v := nI (i + 1)) (lv' := [(2, .int (nI (i + 1))), (0, .ref a0), (1, .int w)]) hx hb dX0_surge_57 hl (k := 2) rfl (ra_inc1 _) (by decide) rfl (fun ls hl => ?_)
          refine lv_goto (tgt := 2) hx hb dX0_surge_60 (by decide) ?_
          exact ih_2 (i + 1) (upd fh0 i (fh0 i - ((fh0 i) / 2))) (upd fg0 i 0) (upd ff0 i 0) (vs0 + ((fh0 i) / 2)) (by omega) (by rw [← he, show n - i = n - (i + 1) + 1 by omega]; exact (if_pos c_17).symm) (by omega) H locs hP hD hS ls (lv_sub hl [1, 2, 0] rfl)
        · ---- on
          have he : (nI i, upd fh0 i (fh0 i - w / 4), fg0, ff0, vs0 + w / 4, vd) = srg w n 0 fh fg ff vs vd := by rw [← he, show n - i = n - (i + 1) + 1 by omega]; exact (if_neg c_17).symm
          refine lv_aload_n hx hb dX0_surge_20 rfl (lv_at hl 0 rfl) ?_
          refine lv_iload_n hx hb dX0_surge_21 rfl (lv_at hl 2 rfl) ?_
          refine lv_iload_n hx hb dX0_surge_22 rfl (lv_at hl 1 rfl) ?_
          refine lv_iconst (v := 4) hx hb dX0_surge_23 (by decide) ?_
          refine lv_idiv hx hb dX0_surge_24 (by decide) ?_
          refine ra_cV (q := (RX0, TX0, 8)) (ci := 0) (As := [.int (nI i), .int (w / 4)]) (rest := []) (wc := [ob a0 0 [.int (nI n), .ref a1, .ref a2, .ref a3, .ref a4, .int vs0, .int vb, .int vd], ai a1 cyI 7 fh0, ai a2 cyI 7 fg0, ai a3 cyI 7 ff0, ai a4 cyI 7 fk]) (wr := []) ⟨hx, hb, hml, hown, hts⟩ (c_X0_washOut l dC dI cyI cyA a0 a1 a2 a3 a4 n fh0 fg0 ff0 fk vs0 vb vd i (w / 4) (by omega) H.size) (cwV 2 hts gX0_surge_X0_washOut rfl rfl rfl (by decide +kernel) ⟨Nat.le_of_ble_eq_true rfl, Nat.le_of_ble_eq_true rfl⟩) hK hN hP hD hA hS [0, 1, 2, 3, 4] [] rfl rfl (by decide) (by decide) (by decide) rfl rfl rfl hl.1 rfl (Nat.le_of_ble_eq_true rfl) dX0_surge_25 ⟨Nat.le_of_ble_eq_true rfl, Nat.le_of_ble_eq_true rfl⟩ (fun u_2 hw_c2 H locs hP hD hS => ?_)
          have hP : va_P (dC, dI) vwCl [ob a0 0 [.int (nI n), .ref a1, .ref a2, .ref a3, .ref a4, .int (vs0 + (w / 4)), .int vb, .int vd], ai a1 cyI 7 (upd fh0 i (fh0 i - (w / 4))), ai a2 cyI 7 fg0, ai a3 cyI 7 ff0, ai a4 cyI 7 fk] H := hP
          have hD : va_D A [ob a0 0 [.int (nI n), .ref a1, .ref a2, .ref a3, .ref a4, .int (vs0 + (w / 4)), .int vb, .int vd], ai a1 cyI 7 (upd fh0 i (fh0 i - (w / 4))), ai a2 cyI 7 fg0, ai a3 cyI 7 ff0, ai a4 cyI 7 fk] := hD
          refine lv_iload_n hx hb dX0_surge_28 rfl (lv_at hl 2 rfl) ?_
          rw [hQ]
          rw [← he]
          exact ra_iretW () hx hb hr hlocks rfl hK hP hD hS rfl dX0_surge_29
  exact L_2 _ 0 fh fg ff vs (by omega) rfl (Nat.lt_succ_self _) H locs hP hD hS ls (lv_sub hl [1, 2, 0] rfl)

set_option maxHeartbeats 4000000 in
set_option maxRecDepth 100000 in
theorem c_X0_nextGrass (l : Launch) (g k : Int32)  : Met l yX0_nextGrass wsX0_nextGrass (rm 1) (kS [.int g, .int k]) (QcRead (nuc g k)) 0 0 (fun _ => False) := by
  refine ra_metS (cc := cX0_nextGrass) (maxL := 2) (by decide) rfl (Nat.le_of_ble_eq_true rfl) ?_
  intro p e s m below meth c args Q hQ hx hb hr hlocks hml hts hown hN ls hl
  have hl : lv_has ls 2 [(0, .int g), (1, .int k)] := hl
  have hown : s.vm.findClass RX0 = some m.cls := hown
  have hw_1 := hts (.static yX3_isWithin) (by decide +kernel)
  have hw_2 := hts (.initialized RX3) (by decide +kernel)
  have hw_3 := hts (.methodLink RX0 47 Lib.Math.min.name) (by decide +kernel)
  have hw_4 := hts (.static Lib.Math.min.name) (by decide +kernel)
  have hw_5 := hts (.initialized "java/lang/Math") (by decide +kernel)
  have hw_6 := hts (.code Lib.Math.min.name Lib.Math.min.code 2 (some .int)) (by decide +kernel)
  refine lv_iload_n hx hb dX0_nextGrass_0 rfl (lv_at hl 0 rfl) ?_
  refine lv_if_eq (tgt := 10) hx hb dX0_nextGrass_1 (by decide) (fun c_1 => ?_) (fun c_1 => ?_)
  · ---- to 10
    refine lv_iconst (v := 0) hx hb dX0_nextGrass_10 (by decide) ?_
    rw [hQ]
    exact ra_iretR hx hb hr hlocks rfl (by unfold nuc; first | (rw [if_pos (Or.inl c_1)]; done) | (rw [if_pos (Or.inr (i32_nle c_7))]; done) | (rw [if_neg (show ¬ (g = 0 ∨ 30 < k) from fun q => q.elim c_1 (fun q => i32_nlt c_7 q)), if_pos c_19]; done) | (rw [if_neg (show ¬ (g = 0 ∨ 30 < k) from fun q => q.elim c_1 (fun q => i32_nlt c_7 q)), if_neg c_19]; done)) dX0_nextGrass_11
  · ---- on
    refine lv_iload_n hx hb dX0_nextGrass_4 rfl (lv_at hl 1 rfl) ?_
    refine lv_bipush (v := 30) hx hb dX0_nextGrass_5 (by decide) ?_
    refine lv_icmp_le (tgt := 12) hx hb dX0_nextGrass_7 (by decide) (fun c_7 => ?_) (fun c_7 => ?_)
    · ---- to 12
      refine lv_iload_n hx hb dX0_nextGrass_12 rfl (lv_at hl 1 rfl) ?_
      refine lv_iconst (v := 1) hx hb dX0_nextGrass_13 (by decide) ?_
      refine lv_bipush (v := 9) hx hb dX0_nextGrass_14 (by decide) ?_
      refine ra_cSN (As := [.int k, .int 1, .int 9]) (rest := []) ⟨hx, hb, hml, hown, hts⟩ (c_X3_isWithin l k 1 9 ) ⟨va_cnB 3 hts gX0_nextGrass_X3_isWithin_n60 rfl rfl rfl hN hw_2 (by decide +kernel) ⟨Nat.le_of_ble_eq_true rfl, Nat.le_of_ble_eq_true rfl⟩, hw_1, trivial⟩ hN rfl hl.1 rfl (Nat.le_of_ble_eq_true rfl) dX0_nextGrass_16 ⟨Nat.le_of_ble_eq_true rfl, Nat.le_of_ble_eq_true rfl⟩ ?_
      refine lv_if_eq (tgt := 33) hx hb dX0_nextGrass_19 (by decide) (fun c_19 => ?_) (fun c_19 => ?_)
      · ---- to 33
        have c_19 := bi_0 c_19
        refine lv_iload_n hx hb dX0_nextGrass_33 rfl (lv_at hl 0 rfl) ?_
        rw [hQ]
        exact ra_iretR hx hb hr hlocks rfl (by unfold nuc; first | (rw [if_pos (Or.inl c_1)]; done) | (rw [if_pos (Or.inr (i32_nle c_7))]; done) | (rw [if_neg (show ¬ (g = 0 ∨ 30 < k) from fun q => q.elim c_1 (fun q => i32_nlt c_7 q)), if_pos c_19]; done) | (rw [if_neg (show ¬ (g = 0 ∨ 30 < k) from fun q => q.elim c_1 (fun q => i32_nlt c_7 q)), if_neg c_19]; done)) dX0_nextGrass_34
      · ---- on
        have c_19 := bi_1 c_19
        refine lv_bipush (v := 9) hx hb dX0_nextGrass_22 (by decide) ?_
        refine lv_iload_n hx hb dX0_nextGrass_24 rfl (lv_at hl 0 rfl) ?_
        refine lv_iconst (v := 1) hx hb dX0_nextGrass_25 (by decide) ?_
        refine lv_iadd hx hb dX0_nextGrass_26 ?_
        refine va_mmin hx hb (hml.trans hl.1.symm) hown hw_3 hw_4 hw_5 hw_6 (Nat.le_of_ble_eq_true rfl) (Nat.le_of_ble_eq_true rfl) (Nat.le_of_ble_eq_true rfl) (Nat.le_of_ble_eq_true rfl) dX0_nextGrass_27 ?_
        refine ra_top (jmin 9 (g + 1)) rfl ?_
        refine lv_goto (tgt := 34) hx hb dX0_nextGrass_30 (by decide) ?_
        rw [hQ]
        exact ra_iretR hx hb hr hlocks rfl (by unfold nuc; first | (rw [if_pos (Or.inl c_1)]; done) | (rw [if_pos (Or.inr (i32_nle c_7))]; done) | (rw [if_neg (show ¬ (g = 0 ∨ 30 < k) from fun q => q.elim c_1 (fun q => i32_nlt c_7 q)), if_pos c_19]; done) | (rw [if_neg (show ¬ (g = 0 ∨ 30 < k) from fun q => q.elim c_1 (fun q => i32_nlt c_7 q)), if_neg c_19]; done)) dX0_nextGrass_34
    · ---- on
      refine lv_iconst (v := 0) hx hb dX0_nextGrass_10 (by decide) ?_
      rw [hQ]
      exact ra_iretR hx hb hr hlocks rfl (by unfold nuc; first | (rw [if_pos (Or.inl c_1)]; done) | (rw [if_pos (Or.inr (i32_nle c_7))]; done) | (rw [if_neg (show ¬ (g = 0 ∨ 30 < k) from fun q => q.elim c_1 (fun q => i32_nlt c_7 q)), if_pos c_19]; done) | (rw [if_neg (show ¬ (g = 0 ∨ 30 < k) from fun q => q.elim c_1 (fun q => i32_nlt c_7 q)), if_neg c_19]; done)) dX0_nextGrass_11

set_option maxHeartbeats 4000000 in
set_option maxRecDepth 100000 in
theorem c_X0_endYear (l : Launch) (dC : Nat → ClassId) (dI : Nat → Nat → Nat) (cyI cyA : ClassId) (a0 a1 a2 a3 a4 n : Nat) (fh fg ff fk : FN) (vs vb vd : Int32) (hn : n ≤ 7) (sz : Nat) : Met l yX0_endYear wsX0_endYear (rm 2) (kW dC dI cyI cyA [.ref a0] sz [ob a0 0 [.int (nI n), .ref a1, .ref a2, .ref a3, .ref a4, .int vs, .int vb, .int vd], ai a1 cyI 7 fh, ai a2 cyI 7 fg, ai a3 cyI 7 ff, ai a4 cyI 7 fk]) (qI dC dI cyI cyA (fun (r : Int32) (_ : Unit) => r = (yE nuc n 0 fg fk 0).1) (va_A [ob a0 0 [.int (nI n), .ref a1, .ref a2, .ref a3, .ref a4, .int vs, .int vb, .int vd], ai a1 cyI 7 fh, ai a2 cyI 7 fg, ai a3 cyI 7 ff, ai a4 cyI 7 fk] sz) (fun _ => [ob a0 0 [.int (nI n), .ref a1, .ref a2, .ref a3, .ref a4, .int vs, .int vb, .int vd], ai a1 cyI 7 fh, ai a2 cyI 7 ((yE nuc n 0 fg fk 0).2.1), ai a3 cyI 7 ff, ai a4 cyI 7 ((yE nuc n 0 fg fk 0).2.2)])) 0 0 (va_A [ob a0 0 [.int (nI n), .ref a1, .ref a2, .ref a3, .ref a4, .int vs, .int vb, .int vd], ai a1 cyI 7 fh, ai a2 cyI 7 fg, ai a3 cyI 7 ff, ai a4 cyI 7 fk] sz) := by
  refine ra_metW (cc := cX0_endYear) (maxL := 4) (Qc := fun A => qI dC dI cyI cyA (fun (r : Int32) (_ : Unit) => r = (yE nuc n 0 fg fk 0).1) A (fun _ => [ob a0 0 [.int (nI n), .ref a1, .ref a2, .ref a3, .ref a4, .int vs, .int vb, .int vd], ai a1 cyI 7 fh, ai a2 cyI 7 ((yE nuc n 0 fg fk 0).2.1), ai a3 cyI 7 ff, ai a4 cyI 7 ((yE nuc n 0 fg fk 0).2.2)])) (by decide) rfl (Nat.le_of_ble_eq_true rfl) ?_
  intro p e s m below meth c A args Q hQ hx hb hr hlocks hml hts hown hnm hK hN hP hD hA hS ls hl
  have hl : lv_has ls 4 [(0, .ref a0)] := hl
  have hown : s.vm.findClass RX0 = some m.cls := hown
  have hw_1 := hts (.fieldLink RX0 28 "DuneBench$Coast" "cells" "I") (by decide +kernel)
  have hin_X0 : ∀ w ∈ u_ws RX0 TX0 8, w ∈ wsX0_endYear := by decide +kernel
  have hw_3 := hts (.fieldLink RX0 15 "DuneBench$Coast" "grass" "[I") (by decide +kernel)
  have hw_4 := hts (.fieldLink RX0 21 "DuneBench$Coast" "kept" "[I") (by decide +kernel)
  obtain ⟨H, hHe⟩ : ∃ H, H = s.heap := ⟨_, rfl⟩
  obtain ⟨locs, hLe⟩ : ∃ locs : List Loc, locs = [] := ⟨_, rfl⟩
  have hP : va_P (dC, dI) vwCl [ob a0 0 [.int (nI n), .ref a1, .ref a2, .ref a3, .ref a4, .int vs, .int vb, .int vd], ai a1 cyI 7 fh, ai a2 cyI 7 fg, ai a3 cyI 7 ff, ai a4 cyI 7 fk] H := by rw [hHe]; exact hP
  have hS : va_S A s.heap H locs := by rw [hHe, hLe]; exact hS
  suffices hgo : W p l e (rm 2) s m args below meth c H locs 0 0 Q (F0 m 0 ls []) by rw [hHe, hLe] at hgo; exact hgo
  refine lv_iconst (v := 0) hx hb dX0_endYear_0 (by decide) ?_
  refine lv_istore_n (lv' := [(1, .int 0), (0, .ref a0)]) hx hb dX0_endYear_1 rfl hl (by decide) rfl (fun ls hl => ?_)
  refine lv_iconst (v := 0) hx hb dX0_endYear_2 (by decide) ?_
  refine lv_istore_n (lv' := [(2, .int 0), (1, .int 0), (0, .ref a0)]) hx hb dX0_endYear_3 rfl hl (by decide) rfl (fun ls hl => ?_)
  have L_4 : ∀ (n9 : Nat) (i : Nat) (fg0 : FN) (fk0 : FN) (x : Int32), (i ≤ n) → (yE nuc (n - i) i fg0 fk0 x = yE nuc n 0 fg fk 0) → (n - i) < n9 → ∀ (H : Heap) (locs : List Loc), va_P (dC, dI) vwCl [ob a0 0 [.int (nI n), .ref a1, .ref a2, .ref a3, .ref a4, .int vs, .int vb, .int vd], ai a1 cyI 7 fh, ai a2 cyI 7 fg0, ai a3 cyI 7 ff, ai a4 cyI 7 fk0] H → va_D A [ob a0 0 [.int (nI n), .ref a1, .ref a2, .ref a3, .ref a4, .int vs, .int vb, .int vd], ai a1 cyI 7 fh, ai a2 cyI 7 fg0, ai a3 cyI 7 ff, ai a4 cyI 7 fk0] → va_S A s.heap H locs → ∀ ls : Array Slot, lv_has ls 4 [(0, .ref a0), (1, .int x), (2, .int (nI i))] → W p l e (rm 2) s m args below meth c H locs 0 0 Q (F0 m 4 ls []) := by
    intro n9
    induction n9 with
    | zero =>
      intro i fg0 fk0 x hi he hm9
      exact absurd hm9 (Nat.not_lt_zero _)
    | succ n9 ih_4 =>
      intro i fg0 fk0 x hi he hm9 H locs hP hD hS ls hl
      refine lv_iload_n hx hb dX0_endYear_4 rfl (lv_at hl 2 rfl) ?_
      refine lv_aload_n hx hb dX0_endYear_5 rfl (lv_at hl 0 rfl) ?_
      refine va_get (D := (dC, dI)) (ci := 0) (v := .int (nI n)) (C := RX0) (T := TX0) (N := 8) hx hb hts hin_X0 hown hK hP 0 rfl rfl 0 (by decide) hw_1 (fun _ h9 => h9) rfl dX0_endYear_6 ?_
      refine lv_icmp_ge (tgt := 61) hx hb dX0_endYear_9 (by decide) (fun c_9 => ?_) (fun c_9 => ?_)
      · ---- to 61
        have n_9 := (nq_le n i (by omega) (by omega)).mp c_9
        have he : (x, fg0, fk0) = yE nuc n 0 fg fk 0 := by rw [← he, show n - i = 0 by omega]; rfl
        refine lv_iload_n hx hb dX0_endYear_61 rfl (lv_at hl 1 rfl) ?_
        rw [hQ]
        rw [← he]
        exact ra_iretW () hx hb hr hlocks rfl hK hP hD hS rfl dX0_endYear_62
      · ---- on
        have n_9 := (nq_le_n n i (by omega) (by omega)).mp c_9
        refine lv_aload_n hx hb dX0_endYear_12 rfl (lv_at hl 0 rfl) ?_
        refine va_get (D := (dC, dI)) (ci := 0) (v := .ref a2) (C := RX0) (T := TX0) (N := 8) hx hb hts hin_X0 hown hK hP 0 rfl rfl 2 (by decide) hw_3 (fun _ h9 => h9) rfl dX0_endYear_13 ?_
        refine lv_iload_n hx hb dX0_endYear_16 rfl (lv_at hl 2 rfl) ?_
        refine ra_iald hx hb hK hP 2 rfl i rfl (by omega) (Nat.le_of_ble_eq_true rfl) dX0_endYear_17 ?_
        refine lv_aload_n hx hb dX0_endYear_18 rfl (lv_at hl 0 rfl) ?_
        refine va_get (D := (dC, dI)) (ci := 0) (v := .ref a4) (C := RX0) (T := TX0) (N := 8) hx hb hts hin_X0 hown hK hP 0 rfl rfl 4 (by decide) hw_4 (fun _ h9 => h9) rfl dX0_endYear_19 ?_
        refine lv_iload_n hx hb dX0_endYear_22 rfl (lv_at hl 2 rfl) ?_
        refine ra_iald hx hb hK hP 4 rfl i rfl (by omega) (Nat.le_of_ble_eq_true rfl) dX0_endYear_23 ?_
        refine ra_cS (As := [.int (fg0 i), .int (fk0 i)]) (rest := []) ⟨hx, hb, hml, hown, hts⟩ (c_X0_nextGrass l (fg0 i) (fk0 i) ) (va_cwS 2 hts gX0_endYear_X0_nextGrass rfl rfl rfl (by decide +kernel) ⟨Nat.le_of_ble_eq_true rfl, Nat.le_of_ble_eq_true rfl⟩) hN rfl hl.1 rfl (Nat.le_of_ble_eq_true rfl) dX0_endYear_24 ⟨Nat.le_of_ble_eq_true rfl, Nat.le_of_ble_eq_true rfl⟩ ?_
        refine lv_istore_n (lv' := [(3, .int (nuc (fg0 i) (fk0 i))), (0, .ref a0), (1, .int x), (2, .int (nI i))]) hx hb dX0_endYear_27 rfl hl (by decide) rfl (fun ls hl => ?_)
        refine lv_iload_n hx hb dX0_endYear_28 rfl (lv_at hl 0 rfl) ?_
        refine lv_aload_n hx hb dX0_endYear_29 rfl (lv_at hl 1 rfl) ?_
        refine va_get (D := (dC, dI)) (ci := 0) (v := .ref a2) (C := RX0) (T := TX0) (N := 8) hx hb hts hin_X0 hown hK hP 0 rfl rfl 2 (by decide) hw_3 (fun _ h9 => h9) rfl dX0_endYear_30 ?_
        refine lv_iload_n hx hb dX0_endYear_33 rfl (lv_at hl 3 rfl) ?_
        refine ra_iald hx hb hK hP 2 rfl i rfl (by omega) (Nat.le_of_ble_eq_true rfl) dX0_endYear_34 ?_
        refine lv_icmp_eq (tgt := 41) hx hb dX0_endYear_35 (by decide) (fun c_35 => ?_) (fun c_35 => ?_)
        · ---- to 41
          refine lv_aload_n hx hb dX0_endYear_41 rfl (lv_at hl 1 rfl) ?_
          refine va_get (D := (dC, dI)) (ci := 0) (v := .ref a2) (C := RX0) (T := TX0) (N := 8) hx hb hts hin_X0 hown hK hP 0 rfl rfl 2 (by decide) hw_3 (fun _ h9 => h9) rfl dX0_endYear_42 ?_
          refine lv_iload_n hx hb dX0_endYear_45 rfl (lv_at hl 3 rfl) ?_
          refine lv_iload_n hx hb dX0_endYear_46 rfl (lv_at hl 0 rfl) ?_
          refine ra_iast hx hb hK hP hD hS 2 rfl i rfl (by omega) (Nat.le_of_ble_eq_true rfl) dX0_endYear_47 (fun H locs hP hD hS => ?_)
          have hP : va_P (dC, dI) vwCl [ob a0 0 [.int (nI n), .ref a1, .ref a2, .ref a3, .ref a4, .int vs, .int vb, .int vd], ai a1 cyI 7 fh, ai a2 cyI 7 (upd fg0 i (nuc (fg0 i) (fk0 i))), ai a3 cyI 7 ff, ai a4 cyI 7 fk0] H := hP
          have hD : va_D A [ob a0 0 [.int (nI n), .ref a1, .ref a2, .ref a3, .ref a4, .int vs, .int vb, .int vd], ai a1 cyI 7 fh, ai a2 cyI 7 (upd fg0 i (nuc (fg0 i) (fk0 i))), ai a3 cyI 7 ff, ai a4 cyI 7 fk0] := hD
          refine lv_aload_n hx hb dX0_endYear_48 rfl (lv_at hl 1 rfl) ?_
          refine va_get (D := (dC, dI)) (ci := 0) (v := .ref a4) (C := RX0) (T := TX0) (N := 8) hx hb hts hin_X0 hown hK hP 0 rfl rfl 4 (by decide) hw_4 (fun _ h9 => h9) rfl dX0_endYear_49 ?_
          refine lv_iload_n hx hb dX0_endYear_52 rfl (lv_at hl 3 rfl) ?_
          refine lv_iconst (v := 0) hx hb dX0_endYear_53 (by decide) ?_
          refine ra_iast hx hb hK hP hD hS 4 rfl i rfl (by omega) (Nat.le_of_ble_eq_true rfl) dX0_endYear_54 (fun H locs hP hD hS => ?_)
          have hP : va_P (dC, dI) vwCl [ob a0 0 [.int (nI n), .ref a1, .ref a2, .ref a3, .ref a4, .int vs, .int vb, .int vd], ai a1 cyI 7 fh, ai a2 cyI 7 (upd fg0 i (nuc (fg0 i) (fk0 i))), ai a3 cyI 7 ff, ai a4 cyI 7 (upd fk0 i 0)] H := hP
          have hD : va_D A [ob a0 0 [.int (nI n), .ref a1, .ref a2, .ref a3, .ref a4, .int vs, .int vb, .int vd], ai a1 cyI 7 fh, ai a2 cyI 7 (upd fg0 i (nuc (fg0 i) (fk0 i))), ai a3 cyI 7 ff, ai a4 cyI 7 (upd fk0 i 0)] := hD
          refine lv_iinc (v := nI (i + 1)) (lv' := [(2, .int (nI (i + 1))), (3, .int (nuc (fg0 i) (fk0 i))), (0, .ref a0), (1, .int x)]) hx hb dX0_endYear_55 hl (k := 3) rfl (ra_inc1 _) (by decide) rfl (fun ls hl => ?_)
          refine lv_goto (tgt := 4) hx hb dX0_endYear_58 (by decide) ?_
          exact ih_4 (i + 1) (upd fg0 i (nuc (fg0 i) (fk0 i))) (upd fk0 i 0) x (by omega) (by rw [← he, show n - i = n - (i + 1) + 1 by omega]; show _ = yE nuc _ _ _ _ (if _ then _ else _); first | rw [if_pos c_35] | rw [if_neg c_35]) (by omega) H locs hP hD hS ls (lv_sub hl [2, 3, 0] rfl)
        · ---- on
          refine lv_iinc (v := x + 1) (lv' := [(1, .int (x + 1)), (3, .int (nuc (fg0 i) (fk0 i))), (0, .ref a0), (2, .int (nI i))]) hx hb dX0_endYear_38 hl (k := 2) rfl (by rfl) (by decide) rfl (fun ls hl => ?_)
          refine lv_aload_n hx hb dX0_endYear_41 rfl (lv_at hl 2 rfl) ?_
          refine va_get (D := (dC, dI)) (ci := 0) (v := .ref a2) (C := RX0) (T := TX0) (N := 8) hx hb hts hin_X0 hown hK hP 0 rfl rfl 2 (by decide) hw_3 (fun _ h9 => h9) rfl dX0_endYear_42 ?_
          refine lv_iload_n hx hb dX0_endYear_45 rfl (lv_at hl 3 rfl) ?_
          refine lv_iload_n hx hb dX0_endYear_46 rfl (lv_at hl 1 rfl) ?_
          refine ra_iast hx hb hK hP hD hS 2 rfl i rfl (by omega) (Nat.le_of_ble_eq_true rfl) dX0_endYear_47 (fun H locs hP hD hS => ?_)
          have hP : va_P (dC, dI) vwCl [ob a0 0 [.int (nI n), .ref a1, .ref a2, .ref a3, .ref a4, .int vs, .int vb, .int vd], ai a1 cyI 7 fh, ai a2 cyI 7 (upd fg0 i (nuc (fg0 i) (fk0 i))), ai a3 cyI 7 ff, ai a4 cyI 7 fk0] H := hP
          have hD : va_D A [ob a0 0 [.int (nI n), .ref a1, .ref a2, .ref a3, .ref a4, .int vs, .int vb, .int vd], ai a1 cyI 7 fh, ai a2 cyI 7 (upd fg0 i (nuc (fg0 i) (fk0 i))), ai a3 cyI 7 ff, ai a4 cyI 7 fk0] := hD
          refine lv_aload_n hx hb dX0_endYear_48 rfl (lv_at hl 2 rfl) ?_
          refine va_get (D := (dC, dI)) (ci := 0) (v := .ref a4) (C := RX0) (T := TX0) (N := 8) hx hb hts hin_X0 hown hK hP 0 rfl rfl 4 (by decide) hw_4 (fun _ h9 => h9) rfl dX0_endYear_49 ?_
          refine lv_iload_n hx hb dX0_endYear_52 rfl (lv_at hl 3 rfl) ?_
          refine lv_iconst (v := 0) hx hb dX0_endYear_53 (by decide) ?_
          refine ra_iast hx hb hK hP hD hS 4 rfl i rfl (by omega) (Nat.le_of_ble_eq_true rfl) dX0_endYear_54 (fun H locs hP hD hS => ?_)
          have hP : va_P (dC, dI) vwCl [ob a0 0 [.int (nI n), .ref a1, .ref a2, .ref a3, .ref a4, .int vs, .int vb, .int vd], ai a1 cyI 7 fh, ai a2 cyI 7 (upd fg0 i (nuc (fg0 i) (fk0 i))), ai a3 cyI 7 ff, ai a4 cyI 7 (upd fk0 i 0)] H := hP
          have hD : va_D A [ob a0 0 [.int (nI n), .ref a1, .ref a2, .ref a3, .ref a4, .int vs, .int vb, .int vd], ai a1 cyI 7 fh, ai a2 cyI 7 (upd fg0 i (nuc (fg0 i) (fk0 i))), ai a3 cyI 7 ff, ai a4 cyI 7 (upd fk0 i 0)] := hD
          refine lv_iinc (v := nI (i + 1)) (lv' := [(2, .int (nI (i + 1))), (1, .int (x + 1)), (3, .int (nuc (fg0 i) (fk0 i))), (0, .ref a0)]) hx hb dX0_endYear_55 hl (k := 3) rfl (ra_inc1 _) (by decide) rfl (fun ls hl => ?_)
          refine lv_goto (tgt := 4) hx hb dX0_endYear_58 (by decide) ?_
          exact ih_4 (i + 1) (upd fg0 i (nuc (fg0 i) (fk0 i))) (upd fk0 i 0) (x + 1) (by omega) (by rw [← he, show n - i = n - (i + 1) + 1 by omega]; show _ = yE nuc _ _ _ _ (if _ then _ else _); first | rw [if_pos c_35] | rw [if_neg c_35]) (by omega) H locs hP hD hS ls (lv_sub hl [3, 1, 0] rfl)
  exact L_4 _ 0 fg fk 0 (by omega) rfl (Nat.lt_succ_self _) H locs hP hD hS ls (lv_sub hl [2, 1, 0] rfl)

set_option maxHeartbeats 4000000 in
set_option maxRecDepth 100000 in
theorem c_X0_addSand (l : Launch) (dC : Nat → ClassId) (dI : Nat → Nat → Nat) (cyI cyA : ClassId) (a0 a1 a2 a3 a4 n : Nat) (fh fg ff fk : FN) (vs vb vd : Int32) (x : Int32)  (sz : Nat) : Met l yX0_addSand wsX0_addSand (rm 1) (kW dC dI cyI cyA [.ref a0, .int x] sz [ob a0 0 [.int (nI n), .ref a1, .ref a2, .ref a3, .ref a4, .int vs, .int vb, .int vd], ai a1 cyI 7 fh, ai a2 cyI 7 fg, ai a3 cyI 7 ff, ai a4 cyI 7 fk]) (qI dC dI cyI cyA (fun (r : Int32) (_ : Unit) => r = jmin x (99 - fh 0)) (va_A [ob a0 0 [.int (nI n), .ref a1, .ref a2, .ref a3, .ref a4, .int vs, .int vb, .int vd], ai a1 cyI 7 fh, ai a2 cyI 7 fg, ai a3 cyI 7 ff, ai a4 cyI 7 fk] sz) (fun _ => [ob a0 0 [.int (nI n), .ref a1, .ref a2, .ref a3, .ref a4, .int vs, .int vb, .int vd], ai a1 cyI 7 (upd fh 0 (fh 0 + jmin x (99 - fh 0))), ai a2 cyI 7 fg, ai a3 cyI 7 ff, ai a4 cyI 7 fk])) 0 0 (va_A [ob a0 0 [.int (nI n), .ref a1, .ref a2, .ref a3, .ref a4, .int vs, .int vb, .int vd], ai a1 cyI 7 fh, ai a2 cyI 7 fg, ai a3 cyI 7 ff, ai a4 cyI 7 fk] sz) := by
  refine ra_metW (cc := cX0_addSand) (maxL := 3) (Qc := fun A => qI dC dI cyI cyA (fun (r : Int32) (_ : Unit) => r = jmin x (99 - fh 0)) A (fun _ => [ob a0 0 [.int (nI n), .ref a1, .ref a2, .ref a3, .ref a4, .int vs, .int vb, .int vd], ai a1 cyI 7 (upd fh 0 (fh 0 + jmin x (99 - fh 0))), ai a2 cyI 7 fg, ai a3 cyI 7 ff, ai a4 cyI 7 fk])) (by decide) rfl (Nat.le_of_ble_eq_true rfl) ?_
  intro p e s m below meth c A args Q hQ hx hb hr hlocks hml hts hown hnm hK hN hP hD hA hS ls hl
  have hl : lv_has ls 3 [(0, .ref a0), (1, .int x)] := hl
  have hown : s.vm.findClass RX0 = some m.cls := hown
  have hw_1 := hts (.fieldLink RX0 9 "DuneBench$Coast" "height" "[I") (by decide +kernel)
  have hin_X0 : ∀ w ∈ u_ws RX0 TX0 8, w ∈ wsX0_addSand := by decide +kernel
  have hw_3 := hts (.methodLink RX0 47 Lib.Math.min.name) (by decide +kernel)
  have hw_4 := hts (.static Lib.Math.min.name) (by decide +kernel)
  have hw_5 := hts (.initialized "java/lang/Math") (by decide +kernel)
  have hw_6 := hts (.code Lib.Math.min.name Lib.Math.min.code 2 (some .int)) (by decide +kernel)
  obtain ⟨H, hHe⟩ : ∃ H, H = s.heap := ⟨_, rfl⟩
  obtain ⟨locs, hLe⟩ : ∃ locs : List Loc, locs = [] := ⟨_, rfl⟩
  have hP : va_P (dC, dI) vwCl [ob a0 0 [.int (nI n), .ref a1, .ref a2, .ref a3, .ref a4, .int vs, .int vb, .int vd], ai a1 cyI 7 fh, ai a2 cyI 7 fg, ai a3 cyI 7 ff, ai a4 cyI 7 fk] H := by rw [hHe]; exact hP
  have hS : va_S A s.heap H locs := by rw [hHe, hLe]; exact hS
  suffices hgo : W p l e (rm 1) s m args below meth c H locs 0 0 Q (F0 m 0 ls []) by rw [hHe, hLe] at hgo; exact hgo
  refine lv_iload_n hx hb dX0_addSand_0 rfl (lv_at hl 1 rfl) ?_
  refine lv_bipush (v := 99) hx hb dX0_addSand_1 (by decide) ?_
  refine lv_aload_n hx hb dX0_addSand_3 rfl (lv_at hl 0 rfl) ?_
  refine va_get (D := (dC, dI)) (ci := 0) (v := .ref a1) (C := RX0) (T := TX0) (N := 8) hx hb hts hin_X0 hown hK hP 0 rfl rfl 1 (by decide) hw_1 (fun _ h9 => h9) rfl dX0_addSand_4 ?_
  refine lv_iconst (v := 0) hx hb dX0_addSand_7 (by decide) ?_
  refine ra_iald hx hb hK hP 1 rfl 0 rfl (by omega) (Nat.le_of_ble_eq_true rfl) dX0_addSand_8 ?_
  refine lv_isub hx hb dX0_addSand_9 ?_
  refine va_mmin hx hb (hml.trans hl.1.symm) hown hw_3 hw_4 hw_5 hw_6 (Nat.le_of_ble_eq_true rfl) (Nat.le_of_ble_eq_true rfl) (Nat.le_of_ble_eq_true rfl) (Nat.le_of_ble_eq_true rfl) dX0_addSand_10 ?_
  refine ra_top (jmin x (99 - (fh 0))) rfl ?_
  refine lv_istore_n (lv' := [(2, .int (jmin x (99 - (fh 0)))), (0, .ref a0), (1, .int x)]) hx hb dX0_addSand_13 rfl hl (by decide) rfl (fun ls hl => ?_)
  refine lv_aload_n hx hb dX0_addSand_14 rfl (lv_at hl 1 rfl) ?_
  refine va_get (D := (dC, dI)) (ci := 0) (v := .ref a1) (C := RX0) (T := TX0) (N := 8) hx hb hts hin_X0 hown hK hP 0 rfl rfl 1 (by decide) hw_1 (fun _ h9 => h9) rfl dX0_addSand_15 ?_
  refine lv_iconst (v := 0) hx hb dX0_addSand_18 (by decide) ?_
  refine lv_dup2_11 hx hb dX0_addSand_19 rfl rfl ?_
  refine ra_iald hx hb hK hP 1 rfl 0 rfl (by omega) (Nat.le_of_ble_eq_true rfl) dX0_addSand_20 ?_
  refine lv_iload_n hx hb dX0_addSand_21 rfl (lv_at hl 0 rfl) ?_
  refine lv_iadd hx hb dX0_addSand_22 ?_
  refine ra_iast hx hb hK hP hD hS 1 rfl 0 rfl (by omega) (Nat.le_of_ble_eq_true rfl) dX0_addSand_23 (fun H locs hP hD hS => ?_)
  have hP : va_P (dC, dI) vwCl [ob a0 0 [.int (nI n), .ref a1, .ref a2, .ref a3, .ref a4, .int vs, .int vb, .int vd], ai a1 cyI 7 (upd fh 0 ((fh 0) + (jmin x (99 - (fh 0))))), ai a2 cyI 7 fg, ai a3 cyI 7 ff, ai a4 cyI 7 fk] H := hP
  have hD : va_D A [ob a0 0 [.int (nI n), .ref a1, .ref a2, .ref a3, .ref a4, .int vs, .int vb, .int vd], ai a1 cyI 7 (upd fh 0 ((fh 0) + (jmin x (99 - (fh 0))))), ai a2 cyI 7 fg, ai a3 cyI 7 ff, ai a4 cyI 7 fk] := hD
  refine lv_iload_n hx hb dX0_addSand_24 rfl (lv_at hl 0 rfl) ?_
  rw [hQ]
  exact ra_iretW () hx hb hr hlocks rfl hK hP hD hS rfl dX0_addSand_25

set_option maxHeartbeats 4000000 in
set_option maxRecDepth 100000 in
theorem c_X0_heightsTogether (l : Launch) (dC : Nat → ClassId) (dI : Nat → Nat → Nat) (cyI cyA : ClassId) (a0 a1 a2 a3 a4 n : Nat) (fh fg ff fk : FN) (vs vb vd : Int32) (hn : n ≤ 7) : Met l yX0_heightsTogether wsX0_heightsTogether (rm 0) (kR dC dI cyI cyA [.ref a0] [ob a0 0 [.int (nI n), .ref a1, .ref a2, .ref a3, .ref a4, .int vs, .int vb, .int vd], ai a1 cyI 7 fh, ai a2 cyI 7 fg, ai a3 cyI 7 ff, ai a4 cyI 7 fk]) (QcRead (sumH fh n 0 0)) 0 0 (fun _ => False) := by
  refine ra_metR (cc := cX0_heightsTogether) (maxL := 3) (by decide) rfl (Nat.le_of_ble_eq_true rfl) ?_
  intro p e s m below meth c args Q hQ hx hb hr hlocks hml hts hown hK hN hP ls hl
  have hl : lv_has ls 3 [(0, .ref a0)] := hl
  have hown : s.vm.findClass RX0 = some m.cls := hown
  have hw_1 := hts (.fieldLink RX0 28 "DuneBench$Coast" "cells" "I") (by decide +kernel)
  have hin_X0 : ∀ w ∈ u_ws RX0 TX0 8, w ∈ wsX0_heightsTogether := by decide +kernel
  have hw_3 := hts (.fieldLink RX0 9 "DuneBench$Coast" "height" "[I") (by decide +kernel)
  refine lv_iconst (v := 0) hx hb dX0_heightsTogether_0 (by decide) ?_
  refine lv_istore_n (lv' := [(1, .int 0), (0, .ref a0)]) hx hb dX0_heightsTogether_1 rfl hl (by decide) rfl (fun ls hl => ?_)
  refine lv_iconst (v := 0) hx hb dX0_heightsTogether_2 (by decide) ?_
  refine lv_istore_n (lv' := [(2, .int 0), (1, .int 0), (0, .ref a0)]) hx hb dX0_heightsTogether_3 rfl hl (by decide) rfl (fun ls hl => ?_)
  have L_4 : ∀ (n9 : Nat) (i : Nat) (x : Int32), (i ≤ n) → (sumH fh (n - i) i x = sumH fh n 0 0) → (n - i) < n9 → ∀ ls : Array Slot, lv_has ls 3 [(0, .ref a0), (1, .int x), (2, .int (nI i))] → W p l e (rm 0) s m args below meth c s.heap [] 0 0 Q (F0 m 4 ls []) := by
    intro n9
    induction n9 with
    | zero =>
      intro i x hi he hm9
      exact absurd hm9 (Nat.not_lt_zero _)
    | succ n9 ih_4 =>
      intro i x hi he hm9 ls hl
      refine lv_iload_n hx hb dX0_heightsTogether_4 rfl (lv_at hl 2 rfl) ?_
      refine lv_aload_n hx hb dX0_heightsTogether_5 rfl (lv_at hl 0 rfl) ?_
      refine va_get (D := (dC, dI)) (ci := 0) (v := .int (nI n)) (C := RX0) (T := TX0) (N := 8) hx hb hts hin_X0 hown hK hP 0 rfl rfl 0 (by decide) hw_1 (fun _ h9 => h9) rfl dX0_heightsTogether_6 ?_
      refine lv_icmp_ge (tgt := 27) hx hb dX0_heightsTogether_9 (by decide) (fun c_9 => ?_) (fun c_9 => ?_)
      · ---- to 27
        have n_9 := (nq_le n i (by omega) (by omega)).mp c_9
        refine lv_iload_n hx hb dX0_heightsTogether_27 rfl (lv_at hl 1 rfl) ?_
        rw [hQ]
        exact ra_iretR hx hb hr hlocks rfl (by rw [← he, show n - i = 0 by omega]; rfl) dX0_heightsTogether_28
      · ---- on
        have n_9 := (nq_le_n n i (by omega) (by omega)).mp c_9
        refine lv_iload_n hx hb dX0_heightsTogether_12 rfl (lv_at hl 1 rfl) ?_
        refine lv_aload_n hx hb dX0_heightsTogether_13 rfl (lv_at hl 0 rfl) ?_
        refine va_get (D := (dC, dI)) (ci := 0) (v := .ref a1) (C := RX0) (T := TX0) (N := 8) hx hb hts hin_X0 hown hK hP 0 rfl rfl 1 (by decide) hw_3 (fun _ h9 => h9) rfl dX0_heightsTogether_14 ?_
        refine lv_iload_n hx hb dX0_heightsTogether_17 rfl (lv_at hl 2 rfl) ?_
        refine ra_iald hx hb hK hP 1 rfl i rfl (by omega) (Nat.le_of_ble_eq_true rfl) dX0_heightsTogether_18 ?_
        refine lv_iadd hx hb dX0_heightsTogether_19 ?_
        refine lv_istore_n (lv' := [(1, .int (x + (fh i))), (0, .ref a0), (2, .int (nI i))]) hx hb dX0_heightsTogether_20 rfl hl (by decide) rfl (fun ls hl => ?_)
        refine lv_iinc (v := nI (i + 1)) (lv' := [(2, .int (nI (i + 1))), (1, .int (x + (fh i))), (0, .ref a0)]) hx hb dX0_heightsTogether_21 hl (k := 2) rfl (ra_inc1 _) (by decide) rfl (fun ls hl => ?_)
        refine lv_goto (tgt := 4) hx hb dX0_heightsTogether_24 (by decide) ?_
        exact ih_4 (i + 1) (x + (fh i)) (by omega) (by rw [← he, show n - i = n - (i + 1) + 1 by omega]; rfl) (by omega) ls (lv_sub hl [2, 1, 0] rfl)
  exact L_4 _ 0 0 (by omega) rfl (Nat.lt_succ_self _) ls (lv_sub hl [2, 1, 0] rfl)

set_option maxHeartbeats 4000000 in
set_option maxRecDepth 100000 in
theorem c_X0_renew (l : Launch) (dC : Nat → ClassId) (dI : Nat → Nat → Nat) (cyI cyA : ClassId) (a0 a1 a2 a3 a4 : Nat) (x0 : Int32) (fh fg ff fk : FN) (vs vb vd : Int32) (q : Int32)  (sz : Nat) : Met l yX0_renew wsX0_renew (rm 0) (kW dC dI cyI cyA [.ref a0, .int q] sz [ob a0 0 [.int x0, .ref a1, .ref a2, .ref a3, .ref a4, .int vs, .int vb, .int vd], ai a1 cyI 7 fh, ai a2 cyI 7 fg, ai a3 cyI 7 ff, ai a4 cyI 7 fk]) (qV dC dI cyI cyA (fun (_ : Unit) => True) (va_A [ob a0 0 [.int x0, .ref a1, .ref a2, .ref a3, .ref a4, .int vs, .int vb, .int vd], ai a1 cyI 7 fh, ai a2 cyI 7 fg, ai a3 cyI 7 ff, ai a4 cyI 7 fk] sz) (fun _ => [ob a0 0 [.int q, .ref a1, .ref a2, .ref a3, .ref a4, .int 0, .int 0, .int 0], ai a1 cyI 7 zF, ai a2 cyI 7 zF, ai a3 cyI 7 zF, ai a4 cyI 7 zF])) 0 0 (va_A [ob a0 0 [.int x0, .ref a1, .ref a2, .ref a3, .ref a4, .int vs, .int vb, .int vd], ai a1 cyI 7 fh, ai a2 cyI 7 fg, ai a3 cyI 7 ff, ai a4 cyI 7 fk] sz) := by
  refine ra_metW (cc := cX0_renew) (maxL := 3) (Qc := fun A => qV dC dI cyI cyA (fun (_ : Unit) => True) A (fun _ => [ob a0 0 [.int q, .ref a1, .ref a2, .ref a3, .ref a4, .int 0, .int 0, .int 0], ai a1 cyI 7 zF, ai a2 cyI 7 zF, ai a3 cyI 7 zF, ai a4 cyI 7 zF])) (by decide) rfl (Nat.le_of_ble_eq_true rfl) ?_
  intro p e s m below meth c A args Q hQ hx hb hr hlocks hml hts hown hnm hK hN hP hD hA hS ls hl
  have hl : lv_has ls 3 [(0, .ref a0), (1, .int q)] := hl
  have hown : s.vm.findClass RX0 = some m.cls := hown
  have hw_1 := hts (.fieldLink RX0 28 "DuneBench$Coast" "cells" "I") (by decide +kernel)
  have hin_X0 : ∀ w ∈ u_ws RX0 TX0 8, w ∈ wsX0_renew := by decide +kernel
  have hw_3 := hts (.fieldLink RX0 32 "DuneBench$Coast" "sea" "I") (by decide +kernel)
  have hw_4 := hts (.fieldLink RX0 35 "DuneBench$Coast" "behind" "I") (by decide +kernel)
  have hw_5 := hts (.fieldLink RX0 38 "DuneBench$Coast" "flooded" "I") (by decide +kernel)
  have hw_6 := hts (.fieldLink RX0 9 "DuneBench$Coast" "height" "[I") (by decide +kernel)
  have hw_7 := hts (.fieldLink RX0 15 "DuneBench$Coast" "grass" "[I") (by decide +kernel)
  have hw_8 := hts (.fieldLink RX0 18 "DuneBench$Coast" "fence" "[I") (by decide +kernel)
  have hw_9 := hts (.fieldLink RX0 21 "DuneBench$Coast" "kept" "[I") (by decide +kernel)
  obtain ⟨H, hHe⟩ : ∃ H, H = s.heap := ⟨_, rfl⟩
  obtain ⟨locs, hLe⟩ : ∃ locs : List Loc, locs = [] := ⟨_, rfl⟩
  have hP : va_P (dC, dI) vwCl [ob a0 0 [.int x0, .ref a1, .ref a2, .ref a3, .ref a4, .int vs, .int vb, .int vd], ai a1 cyI 7 fh, ai a2 cyI 7 fg, ai a3 cyI 7 ff, ai a4 cyI 7 fk] H := by rw [hHe]; exact hP
  have hS : va_S A s.heap H locs := by rw [hHe, hLe]; exact hS
  suffices hgo : W p l e (rm 0) s m args below meth c H locs 0 0 Q (F0 m 0 ls []) by rw [hHe, hLe] at hgo; exact hgo
  refine lv_aload_n hx hb dX0_renew_0 rfl (lv_at hl 0 rfl) ?_
  refine lv_iload_n hx hb dX0_renew_1 rfl (lv_at hl 1 rfl) ?_
  refine va_put (D := (dC, dI)) (ci := 0) (v := .int q) (ty := .int) (C := RX0) (T := TX0) (N := 8) hx hb hts hin_X0 tyX0 tyX0_ok nmX0 hown hK hP hD hS 0 rfl rfl 0 (by decide) hw_1 (fun _ h9 => h9) rfl (by decide +kernel) rfl rfl (Nat.le_of_ble_eq_true rfl) dX0_renew_2 (fun H locs hP hD hS => ?_)
  have hP : va_P (dC, dI) vwCl [ob a0 0 [.int q, .ref a1, .ref a2, .ref a3, .ref a4, .int vs, .int vb, .int vd], ai a1 cyI 7 fh, ai a2 cyI 7 fg, ai a3 cyI 7 ff, ai a4 cyI 7 fk] H := hP
  have hD : va_D A [ob a0 0 [.int q, .ref a1, .ref a2, .ref a3, .ref a4, .int vs, .int vb, .int vd], ai a1 cyI 7 fh, ai a2 cyI 7 fg, ai a3 cyI 7 ff, ai a4 cyI 7 fk] := hD
  refine lv_iconst (v := 0) hx hb dX0_renew_5 (by decide) ?_
  refine lv_istore_n (lv' := [(2, .int 0), (0, .ref a0), (1, .int q)]) hx hb dX0_renew_6 rfl hl (by decide) rfl (fun ls hl => ?_)
  have L_7 : ∀ (n9 : Nat) (i : Nat) (fh0 : FN) (fg0 : FN) (ff0 : FN) (fk0 : FN), (i ≤ 7) → (∀ j, j < i → fh0 j = 0 ∧ fg0 j = 0 ∧ ff0 j = 0 ∧ fk0 j = 0) → (7 - i) < n9 → ∀ (H : Heap) (locs : List Loc), va_P (dC, dI) vwCl [ob a0 0 [.int q, .ref a1, .ref a2, .ref a3, .ref a4, .int vs, .int vb, .int vd], ai a1 cyI 7 fh0, ai a2 cyI 7 fg0, ai a3 cyI 7 ff0, ai a4 cyI 7 fk0] H → va_D A [ob a0 0 [.int q, .ref a1, .ref a2, .ref a3, .ref a4, .int vs, .int vb, .int vd], ai a1 cyI 7 fh0, ai a2 cyI 7 fg0, ai a3 cyI 7 ff0, ai a4 cyI 7 fk0] → va_S A s.heap H locs → ∀ ls : Array Slot, lv_has ls 3 [(0, .ref a0), (1, .int q), (2, .int (nI i))] → W p l e (rm 0) s m args below meth c H locs 0 0 Q (F0 m 7 ls []) := by
    intro n9
    induction n9 with
    | zero =>
      intro i fh0 fg0 ff0 fk0 hi hz hm9
      exact absurd hm9 (Nat.not_lt_zero _)
    | succ n9 ih_7 =>
      intro i fh0 fg0 ff0 fk0 hi hz hm9 H locs hP hD hS ls hl
      refine lv_iload_n hx hb dX0_renew_7 rfl (lv_at hl 2 rfl) ?_
      refine lv_bipush (v := 7) hx hb dX0_renew_8 (by decide) ?_
      refine lv_icmp_ge (tgt := 47) hx hb dX0_renew_10 (by decide) (fun c_10 => ?_) (fun c_10 => ?_)
      · ---- to 47
        have n_10 := (nq_le 7 i (by omega) (by omega)).mp c_10
        obtain ⟨hP, hD⟩ := ra_cong hP hD 1 zF rfl (fun j hj => (hz j (by omega)).1)
        obtain ⟨hP, hD⟩ := ra_cong hP hD 2 zF rfl (fun j hj => (hz j (by omega)).2.1)
        obtain ⟨hP, hD⟩ := ra_cong hP hD 3 zF rfl (fun j hj => (hz j (by omega)).2.2.1)
        obtain ⟨hP, hD⟩ := ra_cong hP hD 4 zF rfl (fun j hj => (hz j (by omega)).2.2.2)
        have hP : va_P (dC, dI) vwCl [ob a0 0 [.int q, .ref a1, .ref a2, .ref a3, .ref a4, .int vs, .int vb, .int vd], ai a1 cyI 7 zF, ai a2 cyI 7 zF, ai a3 cyI 7 zF, ai a4 cyI 7 zF] H := hP
        have hD : va_D A [ob a0 0 [.int q, .ref a1, .ref a2, .ref a3, .ref a4, .int vs, .int vb, .int vd], ai a1 cyI 7 zF, ai a2 cyI 7 zF, ai a3 cyI 7 zF, ai a4 cyI 7 zF] := hD
        refine lv_aload_n hx hb dX0_renew_47 rfl (lv_at hl 0 rfl) ?_
        refine lv_iconst (v := 0) hx hb dX0_renew_48 (by decide) ?_
        refine va_put (D := (dC, dI)) (ci := 0) (v := .int 0) (ty := .int) (C := RX0) (T := TX0) (N := 8) hx hb hts hin_X0 tyX0 tyX0_ok nmX0 hown hK hP hD hS 0 rfl rfl 5 (by decide) hw_3 (fun _ h9 => h9) rfl (by decide +kernel) rfl rfl (Nat.le_of_ble_eq_true rfl) dX0_renew_49 (fun H locs hP hD hS => ?_)
        have hP : va_P (dC, dI) vwCl [ob a0 0 [.int q, .ref a1, .ref a2, .ref a3, .ref a4, .int 0, .int vb, .int vd], ai a1 cyI 7 zF, ai a2 cyI 7 zF, ai a3 cyI 7 zF, ai a4 cyI 7 zF] H := hP
        have hD : va_D A [ob a0 0 [.int q, .ref a1, .ref a2, .ref a3, .ref a4, .int 0, .int vb, .int vd], ai a1 cyI 7 zF, ai a2 cyI 7 zF, ai a3 cyI 7 zF, ai a4 cyI 7 zF] := hD
        refine lv_aload_n hx hb dX0_renew_52 rfl (lv_at hl 0 rfl) ?_
        refine lv_iconst (v := 0) hx hb dX0_renew_53 (by decide) ?_
        refine va_put (D := (dC, dI)) (ci := 0) (v := .int 0) (ty := .int) (C := RX0) (T := TX0) (N := 8) hx hb hts hin_X0 tyX0 tyX0_ok nmX0 hown hK hP hD hS 0 rfl rfl 6 (by decide) hw_4 (fun _ h9 => h9) rfl (by decide +kernel) rfl rfl (Nat.le_of_ble_eq_true rfl) dX0_renew_54 (fun H locs hP hD hS => ?_)
        have hP : va_P (dC, dI) vwCl [ob a0 0 [.int q, .ref a1, .ref a2, .ref a3, .ref a4, .int 0, .int 0, .int vd], ai a1 cyI 7 zF, ai a2 cyI 7 zF, ai a3 cyI 7 zF, ai a4 cyI 7 zF] H := hP
        have hD : va_D A [ob a0 0 [.int q, .ref a1, .ref a2, .ref a3, .ref a4, .int 0, .int 0, .int vd], ai a1 cyI 7 zF, ai a2 cyI 7 zF, ai a3 cyI 7 zF, ai a4 cyI 7 zF] := hD
        refine lv_aload_n hx hb dX0_renew_57 rfl (lv_at hl 0 rfl) ?_
        refine lv_iconst (v := 0) hx hb dX0_renew_58 (by decide) ?_
        refine va_put (D := (dC, dI)) (ci := 0) (v := .int 0) (ty := .int) (C := RX0) (T := TX0) (N := 8) hx hb hts hin_X0 tyX0 tyX0_ok nmX0 hown hK hP hD hS 0 rfl rfl 7 (by decide) hw_5 (fun _ h9 => h9) rfl (by decide +kernel) rfl rfl (Nat.le_of_ble_eq_true rfl) dX0_renew_59 (fun H locs hP hD hS => ?_)
        have hP : va_P (dC, dI) vwCl [ob a0 0 [.int q, .ref a1, .ref a2, .ref a3, .ref a4, .int 0, .int 0, .int 0], ai a1 cyI 7 zF, ai a2 cyI 7 zF, ai a3 cyI 7 zF, ai a4 cyI 7 zF] H := hP
        have hD : va_D A [ob a0 0 [.int q, .ref a1, .ref a2, .ref a3, .ref a4, .int 0, .int 0, .int 0], ai a1 cyI 7 zF, ai a2 cyI 7 zF, ai a3 cyI 7 zF, ai a4 cyI 7 zF] := hD
        rw [hQ]
        exact ra_vretW () hx hb hr hlocks hK hP hD hS trivial dX0_renew_62
      · ---- on
        have n_10 := (nq_le_n 7 i (by omega) (by omega)).mp c_10
        refine lv_aload_n hx hb dX0_renew_13 rfl (lv_at hl 0 rfl) ?_
        refine va_get (D := (dC, dI)) (ci := 0) (v := .ref a1) (C := RX0) (T := TX0) (N := 8) hx hb hts hin_X0 hown hK hP 0 rfl rfl 1 (by decide) hw_6 (fun _ h9 => h9) rfl dX0_renew_14 ?_
        refine lv_iload_n hx hb dX0_renew_17 rfl (lv_at hl 2 rfl) ?_
        refine lv_iconst (v := 0) hx hb dX0_renew_18 (by decide) ?_
        refine ra_iast hx hb hK hP hD hS 1 rfl i rfl (by omega) (Nat.le_of_ble_eq_true rfl) dX0_renew_19 (fun H locs hP hD hS => ?_)
        have hP : va_P (dC, dI) vwCl [ob a0 0 [.int q, .ref a1, .ref a2, .ref a3, .ref a4, .int vs, .int vb, .int vd], ai a1 cyI 7 (upd fh0 i 0), ai a2 cyI 7 fg0, ai a3 cyI 7 ff0, ai a4 cyI 7 fk0] H := hP
        have hD : va_D A [ob a0 0 [.int q, .ref a1, .ref a2, .ref a3, .ref a4, .int vs, .int vb, .int vd], ai a1 cyI 7 (upd fh0 i 0), ai a2 cyI 7 fg0, ai a3 cyI 7 ff0, ai a4 cyI 7 fk0] := hD
        refine lv_aload_n hx hb dX0_renew_20 rfl (lv_at hl 0 rfl) ?_
        refine va_get (D := (dC, dI)) (ci := 0) (v := .ref a2) (C := RX0) (T := TX0) (N := 8) hx hb hts hin_X0 hown hK hP 0 rfl rfl 2 (by decide) hw_7 (fun _ h9 => h9) rfl dX0_renew_21 ?_
        refine lv_iload_n hx hb dX0_renew_24 rfl (lv_at hl 2 rfl) ?_
        refine lv_iconst (v := 0) hx hb dX0_renew_25 (by decide) ?_
        refine ra_iast hx hb hK hP hD hS 2 rfl i rfl (by omega) (Nat.le_of_ble_eq_true rfl) dX0_renew_26 (fun H locs hP hD hS => ?_)
        have hP : va_P (dC, dI) vwCl [ob a0 0 [.int q, .ref a1, .ref a2, .ref a3, .ref a4, .int vs, .int vb, .int vd], ai a1 cyI 7 (upd fh0 i 0), ai a2 cyI 7 (upd fg0 i 0), ai a3 cyI 7 ff0, ai a4 cyI 7 fk0] H := hP
        have hD : va_D A [ob a0 0 [.int q, .ref a1, .ref a2, .ref a3, .ref a4, .int vs, .int vb, .int vd], ai a1 cyI 7 (upd fh0 i 0), ai a2 cyI 7 (upd fg0 i 0), ai a3 cyI 7 ff0, ai a4 cyI 7 fk0] := hD
        refine lv_aload_n hx hb dX0_renew_27 rfl (lv_at hl 0 rfl) ?_
        refine va_get (D := (dC, dI)) (ci := 0) (v := .ref a3) (C := RX0) (T := TX0) (N := 8) hx hb hts hin_X0 hown hK hP 0 rfl rfl 3 (by decide) hw_8 (fun _ h9 => h9) rfl dX0_renew_28 ?_
        refine lv_iload_n hx hb dX0_renew_31 rfl (lv_at hl 2 rfl) ?_
        refine lv_iconst (v := 0) hx hb dX0_renew_32 (by decide) ?_
        refine ra_iast hx hb hK hP hD hS 3 rfl i rfl (by omega) (Nat.le_of_ble_eq_true rfl) dX0_renew_33 (fun H locs hP hD hS => ?_)
        have hP : va_P (dC, dI) vwCl [ob a0 0 [.int q, .ref a1, .ref a2, .ref a3, .ref a4, .int vs, .int vb, .int vd], ai a1 cyI 7 (upd fh0 i 0), ai a2 cyI 7 (upd fg0 i 0), ai a3 cyI 7 (upd ff0 i 0), ai a4 cyI 7 fk0] H := hP
        have hD : va_D A [ob a0 0 [.int q, .ref a1, .ref a2, .ref a3, .ref a4, .int vs, .int vb, .int vd], ai a1 cyI 7 (upd fh0 i 0), ai a2 cyI 7 (upd fg0 i 0), ai a3 cyI 7 (upd ff0 i 0), ai a4 cyI 7 fk0] := hD
        refine lv_aload_n hx hb dX0_renew_34 rfl (lv_at hl 0 rfl) ?_
        refine va_get (D := (dC, dI)) (ci := 0) (v := .ref a4) (C := RX0) (T := TX0) (N := 8) hx hb hts hin_X0 hown hK hP 0 rfl rfl 4 (by decide) hw_9 (fun _ h9 => h9) rfl dX0_renew_35 ?_
        refine lv_iload_n hx hb dX0_renew_38 rfl (lv_at hl 2 rfl) ?_
        refine lv_iconst (v := 0) hx hb dX0_renew_39 (by decide) ?_
        refine ra_iast hx hb hK hP hD hS 4 rfl i rfl (by omega) (Nat.le_of_ble_eq_true rfl) dX0_renew_40 (fun H locs hP hD hS => ?_)
        have hP : va_P (dC, dI) vwCl [ob a0 0 [.int q, .ref a1, .ref a2, .ref a3, .ref a4, .int vs, .int vb, .int vd], ai a1 cyI 7 (upd fh0 i 0), ai a2 cyI 7 (upd fg0 i 0), ai a3 cyI 7 (upd ff0 i 0), ai a4 cyI 7 (upd fk0 i 0)] H := hP
        have hD : va_D A [ob a0 0 [.int q, .ref a1, .ref a2, .ref a3, .ref a4, .int vs, .int vb, .int vd], ai a1 cyI 7 (upd fh0 i 0), ai a2 cyI 7 (upd fg0 i 0), ai a3 cyI 7 (upd ff0 i 0), ai a4 cyI 7 (upd fk0 i 0)] := hD
        refine lv_iinc (v := nI (i + 1)) (lv' := [(2, .int (nI (i + 1))), (0, .ref a0), (1, .int q)]) hx hb dX0_renew_41 hl (k := 2) rfl (ra_inc1 _) (by decide) rfl (fun ls hl => ?_)
        refine lv_goto (tgt := 7) hx hb dX0_renew_44 (by decide) ?_
        exact ih_7 (i + 1) (upd fh0 i 0) (upd fg0 i 0) (upd ff0 i 0) (upd fk0 i 0) (by omega) (fun j hj => by by_cases h : j = i; (· subst h; simp only [pk_us, and_self]); (· simp only [pk_un h]; exact hz j (by omega))) (by omega) H locs hP hD hS ls (lv_sub hl [1, 2, 0] rfl)
  exact L_7 _ 0 fh fg ff fk (by omega) (fun j hj => absurd hj (Nat.not_lt_zero j)) (Nat.lt_succ_self _) H locs hP hD hS ls (lv_sub hl [1, 2, 0] rfl)

set_option maxHeartbeats 4000000 in
set_option maxRecDepth 100000 in
theorem c_X0_copyFrom (l : Launch) (dC : Nat → ClassId) (dI : Nat → Nat → Nat) (cyI cyA : ClassId) (a0 a1 a2 a3 a4 n : Nat) (fh fg ff fk : FN) (vs vb vd : Int32) (b0 b1 b2 b3 b4 n2 : Nat) (oh og of ok : FN) (os obh od : Int32)  (sz : Nat) : Met l yX0_copyFrom wsX0_copyFrom (rm 0) (kW dC dI cyI cyA [.ref a0, .ref b0] sz [ob a0 0 [.int (nI n), .ref a1, .ref a2, .ref a3, .ref a4, .int vs, .int vb, .int vd], ai a1 cyI 7 fh, ai a2 cyI 7 fg, ai a3 cyI 7 ff, ai a4 cyI 7 fk, ob b0 0 [.int (nI n2), .ref b1, .ref b2, .ref b3, .ref b4, .int os, .int obh, .int od], ai b1 cyI 7 oh, ai b2 cyI 7 og, ai b3 cyI 7 of, ai b4 cyI 7 ok]) (qV dC dI cyI cyA (fun (_ : Unit) => True) (va_A [ob a0 0 [.int (nI n), .ref a1, .ref a2, .ref a3, .ref a4, .int vs, .int vb, .int vd], ai a1 cyI 7 fh, ai a2 cyI 7 fg, ai a3 cyI 7 ff, ai a4 cyI 7 fk, ob b0 0 [.int (nI n2), .ref b1, .ref b2, .ref b3, .ref b4, .int os, .int obh, .int od], ai b1 cyI 7 oh, ai b2 cyI 7 og, ai b3 cyI 7 of, ai b4 cyI 7 ok] sz) (fun _ => [ob a0 0 [.int (nI n2), .ref a1, .ref a2, .ref a3, .ref a4, .int os, .int obh, .int od], ai a1 cyI 7 oh, ai a2 cyI 7 og, ai a3 cyI 7 of, ai a4 cyI 7 ok, ob b0 0 [.int (nI n2), .ref b1, .ref b2, .ref b3, .ref b4, .int os, .int obh, .int od], ai b1 cyI 7 oh, ai b2 cyI 7 og, ai b3 cyI 7 of, ai b4 cyI 7 ok])) 0 0 (va_A [ob a0 0 [.int (nI n), .ref a1, .ref a2, .ref a3, .ref a4, .int vs, .int vb, .int vd], ai a1 cyI 7 fh, ai a2 cyI 7 fg, ai a3 cyI 7 ff, ai a4 cyI 7 fk, ob b0 0 [.int (nI n2), .ref b1, .ref b2, .ref b3, .ref b4, .int os, .int obh, .int od], ai b1 cyI 7 oh, ai b2 cyI 7 og, ai b3 cyI 7 of, ai b4 cyI 7 ok] sz) := by
  refine ra_metW (cc := cX0_copyFrom) (maxL := 3) (Qc := fun A => qV dC dI cyI cyA (fun (_ : Unit) => True) A (fun _ => [ob a0 0 [.int (nI n2), .ref a1, .ref a2, .ref a3, .ref a4, .int os, .int obh, .int od], ai a1 cyI 7 oh, ai a2 cyI 7 og, ai a3 cyI 7 of, ai a4 cyI 7 ok, ob b0 0 [.int (nI n2), .ref b1, .ref b2, .ref b3, .ref b4, .int os, .int obh, .int od], ai b1 cyI 7 oh, ai b2 cyI 7 og, ai b3 cyI 7 of, ai b4 cyI 7 ok])) (by decide) rfl (Nat.le_of_ble_eq_true rfl) ?_
  intro p e s m below meth c A args Q hQ hx hb hr hlocks hml hts hown hnm hK hN hP hD hA hS ls hl
  have hl : lv_has ls 3 [(0, .ref a0), (1, .ref b0)] := hl
  have hown : s.vm.findClass RX0 = some m.cls := hown
  have hw_1 := hts (.fieldLink RX0 28 "DuneBench$Coast" "cells" "I") (by decide +kernel)
  have hin_X0 : ∀ w ∈ u_ws RX0 TX0 8, w ∈ wsX0_copyFrom := by decide +kernel
  have hw_3 := hts (.fieldLink RX0 32 "DuneBench$Coast" "sea" "I") (by decide +kernel)
  have hw_4 := hts (.fieldLink RX0 35 "DuneBench$Coast" "behind" "I") (by decide +kernel)
  have hw_5 := hts (.fieldLink RX0 38 "DuneBench$Coast" "flooded" "I") (by decide +kernel)
  have hw_6 := hts (.fieldLink RX0 9 "DuneBench$Coast" "height" "[I") (by decide +kernel)
  have hw_7 := hts (.fieldLink RX0 15 "DuneBench$Coast" "grass" "[I") (by decide +kernel)
  have hw_8 := hts (.fieldLink RX0 18 "DuneBench$Coast" "fence" "[I") (by decide +kernel)
  have hw_9 := hts (.fieldLink RX0 21 "DuneBench$Coast" "kept" "[I") (by decide +kernel)
  obtain ⟨H, hHe⟩ : ∃ H, H = s.heap := ⟨_, rfl⟩
  obtain ⟨locs, hLe⟩ : ∃ locs : List Loc, locs = [] := ⟨_, rfl⟩
  have hP : va_P (dC, dI) vwCl [ob a0 0 [.int (nI n), .ref a1, .ref a2, .ref a3, .ref a4, .int vs, .int vb, .int vd], ai a1 cyI 7 fh, ai a2 cyI 7 fg, ai a3 cyI 7 ff, ai a4 cyI 7 fk, ob b0 0 [.int (nI n2), .ref b1, .ref b2, .ref b3, .ref b4, .int os, .int obh, .int od], ai b1 cyI 7 oh, ai b2 cyI 7 og, ai b3 cyI 7 of, ai b4 cyI 7 ok] H := by rw [hHe]; exact hP
  have hS : va_S A s.heap H locs := by rw [hHe, hLe]; exact hS
  suffices hgo : W p l e (rm 0) s m args below meth c H locs 0 0 Q (F0 m 0 ls []) by rw [hHe, hLe] at hgo; exact hgo
  refine lv_aload_n hx hb dX0_copyFrom_0 rfl (lv_at hl 0 rfl) ?_
  refine lv_aload_n hx hb dX0_copyFrom_1 rfl (lv_at hl 1 rfl) ?_
  refine va_get (D := (dC, dI)) (ci := 0) (v := .int (nI n2)) (C := RX0) (T := TX0) (N := 8) hx hb hts hin_X0 hown hK hP 5 rfl rfl 0 (by decide) hw_1 (fun _ h9 => h9) rfl dX0_copyFrom_2 ?_
  refine va_put (D := (dC, dI)) (ci := 0) (v := .int (nI n2)) (ty := .int) (C := RX0) (T := TX0) (N := 8) hx hb hts hin_X0 tyX0 tyX0_ok nmX0 hown hK hP hD hS 0 rfl rfl 0 (by decide) hw_1 (fun _ h9 => h9) rfl (by decide +kernel) rfl rfl (Nat.le_of_ble_eq_true rfl) dX0_copyFrom_5 (fun H locs hP hD hS => ?_)
  have hP : va_P (dC, dI) vwCl [ob a0 0 [.int (nI n2), .ref a1, .ref a2, .ref a3, .ref a4, .int vs, .int vb, .int vd], ai a1 cyI 7 fh, ai a2 cyI 7 fg, ai a3 cyI 7 ff, ai a4 cyI 7 fk, ob b0 0 [.int (nI n2), .ref b1, .ref b2, .ref b3, .ref b4, .int os, .int obh, .int od], ai b1 cyI 7 oh, ai b2 cyI 7 og, ai b3 cyI 7 of, ai b4 cyI 7 ok] H := hP
  have hD : va_D A [ob a0 0 [.int (nI n2), .ref a1, .ref a2, .ref a3, .ref a4, .int vs, .int vb, .int vd], ai a1 cyI 7 fh, ai a2 cyI 7 fg, ai a3 cyI 7 ff, ai a4 cyI 7 fk, ob b0 0 [.int (nI n2), .ref b1, .ref b2, .ref b3, .ref b4, .int os, .int obh, .int od], ai b1 cyI 7 oh, ai b2 cyI 7 og, ai b3 cyI 7 of, ai b4 cyI 7 ok] := hD
  refine lv_iconst (v := 0) hx hb dX0_copyFrom_8 (by decide) ?_
  refine lv_istore_n (lv' := [(2, .int 0), (0, .ref a0), (1, .ref b0)]) hx hb dX0_copyFrom_9 rfl hl (by decide) rfl (fun ls hl => ?_)
  have L_10 : ∀ (n9 : Nat) (i : Nat) (fh0 : FN) (fg0 : FN) (ff0 : FN) (fk0 : FN), (i ≤ 7) → (∀ j, j < i → fh0 j = oh j ∧ fg0 j = og j ∧ ff0 j = of j ∧ fk0 j = ok j) → (7 - i) < n9 → ∀ (H : Heap) (locs : List Loc), va_P (dC, dI) vwCl [ob a0 0 [.int (nI n2), .ref a1, .ref a2, .ref a3, .ref a4, .int vs, .int vb, .int vd], ai a1 cyI 7 fh0, ai a2 cyI 7 fg0, ai a3 cyI 7 ff0, ai a4 cyI 7 fk0, ob b0 0 [.int (nI n2), .ref b1, .ref b2, .ref b3, .ref b4, .int os, .int obh, .int od], ai b1 cyI 7 oh, ai b2 cyI 7 og, ai b3 cyI 7 of, ai b4 cyI 7 ok] H → va_D A [ob a0 0 [.int (nI n2), .ref a1, .ref a2, .ref a3, .ref a4, .int vs, .int vb, .int vd], ai a1 cyI 7 fh0, ai a2 cyI 7 fg0, ai a3 cyI 7 ff0, ai a4 cyI 7 fk0, ob b0 0 [.int (nI n2), .ref b1, .ref b2, .ref b3, .ref b4, .int os, .int obh, .int od], ai b1 cyI 7 oh, ai b2 cyI 7 og, ai b3 cyI 7 of, ai b4 cyI 7 ok] → va_S A s.heap H locs → ∀ ls : Array Slot, lv_has ls 3 [(0, .ref a0), (1, .ref b0), (2, .int (nI i))] → W p l e (rm 0) s m args below meth c H locs 0 0 Q (F0 m 10 ls []) := by
    intro n9
    induction n9 with
    | zero =>
      intro i fh0 fg0 ff0 fk0 hi hz hm9
      exact absurd hm9 (Nat.not_lt_zero _)
    | succ n9 ih_10 =>
      intro i fh0 fg0 ff0 fk0 hi hz hm9 H locs hP hD hS ls hl
      refine lv_iload_n hx hb dX0_copyFrom_10 rfl (lv_at hl 2 rfl) ?_
      refine lv_bipush (v := 7) hx hb dX0_copyFrom_11 (by decide) ?_
      refine lv_icmp_ge (tgt := 70) hx hb dX0_copyFrom_13 (by decide) (fun c_13 => ?_) (fun c_13 => ?_)
      · ---- to 70
        have n_13 := (nq_le 7 i (by omega) (by omega)).mp c_13
        obtain ⟨hP, hD⟩ := ra_cong hP hD 1 oh rfl (fun j hj => (hz j (by omega)).1)
        obtain ⟨hP, hD⟩ := ra_cong hP hD 2 og rfl (fun j hj => (hz j (by omega)).2.1)
        obtain ⟨hP, hD⟩ := ra_cong hP hD 3 of rfl (fun j hj => (hz j (by omega)).2.2.1)
        obtain ⟨hP, hD⟩ := ra_cong hP hD 4 ok rfl (fun j hj => (hz j (by omega)).2.2.2)
        have hP : va_P (dC, dI) vwCl [ob a0 0 [.int (nI n2), .ref a1, .ref a2, .ref a3, .ref a4, .int vs, .int vb, .int vd], ai a1 cyI 7 oh, ai a2 cyI 7 og, ai a3 cyI 7 of, ai a4 cyI 7 ok, ob b0 0 [.int (nI n2), .ref b1, .ref b2, .ref b3, .ref b4, .int os, .int obh, .int od], ai b1 cyI 7 oh, ai b2 cyI 7 og, ai b3 cyI 7 of, ai b4 cyI 7 ok] H := hP
        have hD : va_D A [ob a0 0 [.int (nI n2), .ref a1, .ref a2, .ref a3, .ref a4, .int vs, .int vb, .int vd], ai a1 cyI 7 oh, ai a2 cyI 7 og, ai a3 cyI 7 of, ai a4 cyI 7 ok, ob b0 0 [.int (nI n2), .ref b1, .ref b2, .ref b3, .ref b4, .int os, .int obh, .int od], ai b1 cyI 7 oh, ai b2 cyI 7 og, ai b3 cyI 7 of, ai b4 cyI 7 ok] := hD
        refine lv_aload_n hx hb dX0_copyFrom_70 rfl (lv_at hl 0 rfl) ?_
        refine lv_aload_n hx hb dX0_copyFrom_71 rfl (lv_at hl 1 rfl) ?_
        refine va_get (D := (dC, dI)) (ci := 0) (v := .int os) (C := RX0) (T := TX0) (N := 8) hx hb hts hin_X0 hown hK hP 5 rfl rfl 5 (by decide) hw_3 (fun _ h9 => h9) rfl dX0_copyFrom_72 ?_
        refine va_put (D := (dC, dI)) (ci := 0) (v := .int os) (ty := .int) (C := RX0) (T := TX0) (N := 8) hx hb hts hin_X0 tyX0 tyX0_ok nmX0 hown hK hP hD hS 0 rfl rfl 5 (by decide) hw_3 (fun _ h9 => h9) rfl (by decide +kernel) rfl rfl (Nat.le_of_ble_eq_true rfl) dX0_copyFrom_75 (fun H locs hP hD hS => ?_)
        have hP : va_P (dC, dI) vwCl [ob a0 0 [.int (nI n2), .ref a1, .ref a2, .ref a3, .ref a4, .int os, .int vb, .int vd], ai a1 cyI 7 oh, ai a2 cyI 7 og, ai a3 cyI 7 of, ai a4 cyI 7 ok, ob b0 0 [.int (nI n2), .ref b1, .ref b2, .ref b3, .ref b4, .int os, .int obh, .int od], ai b1 cyI 7 oh, ai b2 cyI 7 og, ai b3 cyI 7 of, ai b4 cyI 7 ok] H := hP
        have hD : va_D A [ob a0 0 [.int (nI n2), .ref a1, .ref a2, .ref a3, .ref a4, .int os, .int vb, .int vd], ai a1 cyI 7 oh, ai a2 cyI 7 og, ai a3 cyI 7 of, ai a4 cyI 7 ok, ob b0 0 [.int (nI n2), .ref b1, .ref b2, .ref b3, .ref b4, .int os, .int obh, .int od], ai b1 cyI 7 oh, ai b2 cyI 7 og, ai b3 cyI 7 of, ai b4 cyI 7 ok] := hD
        refine lv_aload_n hx hb dX0_copyFrom_78 rfl (lv_at hl 0 rfl) ?_
        refine lv_aload_n hx hb dX0_copyFrom_79 rfl (lv_at hl 1 rfl) ?_
        refine va_get (D := (dC, dI)) (ci := 0) (v := .int obh) (C := RX0) (T := TX0) (N := 8) hx hb hts hin_X0 hown hK hP 5 rfl rfl 6 (by decide) hw_4 (fun _ h9 => h9) rfl dX0_copyFrom_80 ?_
        refine va_put (D := (dC, dI)) (ci := 0) (v := .int obh) (ty := .int) (C := RX0) (T := TX0) (N := 8) hx hb hts hin_X0 tyX0 tyX0_ok nmX0 hown hK hP hD hS 0 rfl rfl 6 (by decide) hw_4 (fun _ h9 => h9) rfl (by decide +kernel) rfl rfl (Nat.le_of_ble_eq_true rfl) dX0_copyFrom_83 (fun H locs hP hD hS => ?_)
        have hP : va_P (dC, dI) vwCl [ob a0 0 [.int (nI n2), .ref a1, .ref a2, .ref a3, .ref a4, .int os, .int obh, .int vd], ai a1 cyI 7 oh, ai a2 cyI 7 og, ai a3 cyI 7 of, ai a4 cyI 7 ok, ob b0 0 [.int (nI n2), .ref b1, .ref b2, .ref b3, .ref b4, .int os, .int obh, .int od], ai b1 cyI 7 oh, ai b2 cyI 7 og, ai b3 cyI 7 of, ai b4 cyI 7 ok] H := hP
        have hD : va_D A [ob a0 0 [.int (nI n2), .ref a1, .ref a2, .ref a3, .ref a4, .int os, .int obh, .int vd], ai a1 cyI 7 oh, ai a2 cyI 7 og, ai a3 cyI 7 of, ai a4 cyI 7 ok, ob b0 0 [.int (nI n2), .ref b1, .ref b2, .ref b3, .ref b4, .int os, .int obh, .int od], ai b1 cyI 7 oh, ai b2 cyI 7 og, ai b3 cyI 7 of, ai b4 cyI 7 ok] := hD
        refine lv_aload_n hx hb dX0_copyFrom_86 rfl (lv_at hl 0 rfl) ?_
        refine lv_aload_n hx hb dX0_copyFrom_87 rfl (lv_at hl 1 rfl) ?_
        refine va_get (D := (dC, dI)) (ci := 0) (v := .int od) (C := RX0) (T := TX0) (N := 8) hx hb hts hin_X0 hown hK hP 5 rfl rfl 7 (by decide) hw_5 (fun _ h9 => h9) rfl dX0_copyFrom_88 ?_
        refine va_put (D := (dC, dI)) (ci := 0) (v := .int od) (ty := .int) (C := RX0) (T := TX0) (N := 8) hx hb hts hin_X0 tyX0 tyX0_ok nmX0 hown hK hP hD hS 0 rfl rfl 7 (by decide) hw_5 (fun _ h9 => h9) rfl (by decide +kernel) rfl rfl (Nat.le_of_ble_eq_true rfl) dX0_copyFrom_91 (fun H locs hP hD hS => ?_)
        have hP : va_P (dC, dI) vwCl [ob a0 0 [.int (nI n2), .ref a1, .ref a2, .ref a3, .ref a4, .int os, .int obh, .int od], ai a1 cyI 7 oh, ai a2 cyI 7 og, ai a3 cyI 7 of, ai a4 cyI 7 ok, ob b0 0 [.int (nI n2), .ref b1, .ref b2, .ref b3, .ref b4, .int os, .int obh, .int od], ai b1 cyI 7 oh, ai b2 cyI 7 og, ai b3 cyI 7 of, ai b4 cyI 7 ok] H := hP
        have hD : va_D A [ob a0 0 [.int (nI n2), .ref a1, .ref a2, .ref a3, .ref a4, .int os, .int obh, .int od], ai a1 cyI 7 oh, ai a2 cyI 7 og, ai a3 cyI 7 of, ai a4 cyI 7 ok, ob b0 0 [.int (nI n2), .ref b1, .ref b2, .ref b3, .ref b4, .int os, .int obh, .int od], ai b1 cyI 7 oh, ai b2 cyI 7 og, ai b3 cyI 7 of, ai b4 cyI 7 ok] := hD
        rw [hQ]
        exact ra_vretW () hx hb hr hlocks hK hP hD hS trivial dX0_copyFrom_94
      · ---- on
        have n_13 := (nq_le_n 7 i (by omega) (by omega)).mp c_13
        refine lv_aload_n hx hb dX0_copyFrom_16 rfl (lv_at hl 0 rfl) ?_
        refine va_get (D := (dC, dI)) (ci := 0) (v := .ref a1) (C := RX0) (T := TX0) (N := 8) hx hb hts hin_X0 hown hK hP 0 rfl rfl 1 (by decide) hw_6 (fun _ h9 => h9) rfl dX0_copyFrom_17 ?_
        refine lv_iload_n hx hb dX0_copyFrom_20 rfl (lv_at hl 2 rfl) ?_
        refine lv_aload_n hx hb dX0_copyFrom_21 rfl (lv_at hl 1 rfl) ?_
        refine va_get (D := (dC, dI)) (ci := 0) (v := .ref b1) (C := RX0) (T := TX0) (N := 8) hx hb hts hin_X0 hown hK hP 5 rfl rfl 1 (by decide) hw_6 (fun _ h9 => h9) rfl dX0_copyFrom_22 ?_
        refine lv_iload_n hx hb dX0_copyFrom_25 rfl (lv_at hl 2 rfl) ?_
        refine ra_iald hx hb hK hP 6 rfl i rfl (by omega) (Nat.le_of_ble_eq_true rfl) dX0_copyFrom_26 ?_
        refine ra_iast hx hb hK hP hD hS 1 rfl i rfl (by omega) (Nat.le_of_ble_eq_true rfl) dX0_copyFrom_27 (fun H locs hP hD hS => ?_)
        have hP : va_P (dC, dI) vwCl [ob a0 0 [.int (nI n2), .ref a1, .ref a2, .ref a3, .ref a4, .int vs, .int vb, .int vd], ai a1 cyI 7 (upd fh0 i (oh i)), ai a2 cyI 7 fg0, ai a3 cyI 7 ff0, ai a4 cyI 7 fk0, ob b0 0 [.int (nI n2), .ref b1, .ref b2, .ref b3, .ref b4, .int os, .int obh, .int od], ai b1 cyI 7 oh, ai b2 cyI 7 og, ai b3 cyI 7 of, ai b4 cyI 7 ok] H := hP
        have hD : va_D A [ob a0 0 [.int (nI n2), .ref a1, .ref a2, .ref a3, .ref a4, .int vs, .int vb, .int vd], ai a1 cyI 7 (upd fh0 i (oh i)), ai a2 cyI 7 fg0, ai a3 cyI 7 ff0, ai a4 cyI 7 fk0, ob b0 0 [.int (nI n2), .ref b1, .ref b2, .ref b3, .ref b4, .int os, .int obh, .int od], ai b1 cyI 7 oh, ai b2 cyI 7 og, ai b3 cyI 7 of, ai b4 cyI 7 ok] := hD
        refine lv_aload_n hx hb dX0_copyFrom_28 rfl (lv_at hl 0 rfl) ?_
        refine va_get (D := (dC, dI)) (ci := 0) (v := .ref a2) (C := RX0) (T := TX0) (N := 8) hx hb hts hin_X0 hown hK hP 0 rfl rfl 2 (by decide) hw_7 (fun _ h9 => h9) rfl dX0_copyFrom_29 ?_
        refine lv_iload_n hx hb dX0_copyFrom_32 rfl (lv_at hl 2 rfl) ?_
        refine lv_aload_n hx hb dX0_copyFrom_33 rfl (lv_at hl 1 rfl) ?_
        refine va_get (D := (dC, dI)) (ci := 0) (v := .ref b2) (C := RX0) (T := TX0) (N := 8) hx hb hts hin_X0 hown hK hP 5 rfl rfl 2 (by decide) hw_7 (fun _ h9 => h9) rfl dX0_copyFrom_34 ?_
        refine lv_iload_n hx hb dX0_copyFrom_37 rfl (lv_at hl 2 rfl) ?_
        refine ra_iald hx hb hK hP 7 rfl i rfl (by omega) (Nat.le_of_ble_eq_true rfl) dX0_copyFrom_38 ?_
        refine ra_iast hx hb hK hP hD hS 2 rfl i rfl (by omega) (Nat.le_of_ble_eq_true rfl) dX0_copyFrom_39 (fun H locs hP hD hS => ?_)
        have hP : va_P (dC, dI) vwCl [ob a0 0 [.int (nI n2), .ref a1, .ref a2, .ref a3, .ref a4, .int vs, .int vb, .int vd], ai a1 cyI 7 (upd fh0 i (oh i)), ai a2 cyI 7 (upd fg0 i (og i)), ai a3 cyI 7 ff0, ai a4 cyI 7 fk0, ob b0 0 [.int (nI n2), .ref b1, .ref b2, .ref b3, .ref b4, .int os, .int obh, .int od], ai b1 cyI 7 oh, ai b2 cyI 7 og, ai b3 cyI 7 of, ai b4 cyI 7 ok] H := hP
        have hD : va_D A [ob a0 0 [.int (nI n2), .ref a1, .ref a2, .ref a3, .ref a4, .int vs, .int vb, .int vd], ai a1 cyI 7 (upd fh0 i (oh i)), ai a2 cyI 7 (upd fg0 i (og i)), ai a3 cyI 7 ff0, ai a4 cyI 7 fk0, ob b0 0 [.int (nI n2), .ref b1, .ref b2, .ref b3, .ref b4, .int os, .int obh, .int od], ai b1 cyI 7 oh, ai b2 cyI 7 og, ai b3 cyI 7 of, ai b4 cyI 7 ok] := hD
        refine lv_aload_n hx hb dX0_copyFrom_40 rfl (lv_at hl 0 rfl) ?_
        refine va_get (D := (dC, dI)) (ci := 0) (v := .ref a3) (C := RX0) (T := TX0) (N := 8) hx hb hts hin_X0 hown hK hP 0 rfl rfl 3 (by decide) hw_8 (fun _ h9 => h9) rfl dX0_copyFrom_41 ?_
        refine lv_iload_n hx hb dX0_copyFrom_44 rfl (lv_at hl 2 rfl) ?_
        refine lv_aload_n hx hb dX0_copyFrom_45 rfl (lv_at hl 1 rfl) ?_
        refine va_get (D := (dC, dI)) (ci := 0) (v := .ref b3) (C := RX0) (T := TX0) (N := 8) hx hb hts hin_X0 hown hK hP 5 rfl rfl 3 (by decide) hw_8 (fun _ h9 => h9) rfl dX0_copyFrom_46 ?_
        refine lv_iload_n hx hb dX0_copyFrom_49 rfl (lv_at hl 2 rfl) ?_
        refine ra_iald hx hb hK hP 8 rfl i rfl (by omega) (Nat.le_of_ble_eq_true rfl) dX0_copyFrom_50 ?_
        refine ra_iast hx hb hK hP hD hS 3 rfl i rfl (by omega) (Nat.le_of_ble_eq_true rfl) dX0_copyFrom_51 (fun H locs hP hD hS => ?_)
        have hP : va_P (dC, dI) vwCl [ob a0 0 [.int (nI n2), .ref a1, .ref a2, .ref a3, .ref a4, .int vs, .int vb, .int vd], ai a1 cyI 7 (upd fh0 i (oh i)), ai a2 cyI 7 (upd fg0 i (og i)), ai a3 cyI 7 (upd ff0 i (of i)), ai a4 cyI 7 fk0, ob b0 0 [.int (nI n2), .ref b1, .ref b2, .ref b3, .ref b4, .int os, .int obh, .int od], ai b1 cyI 7 oh, ai b2 cyI 7 og, ai b3 cyI 7 of, ai b4 cyI 7 ok] H := hP
        have hD : va_D A [ob a0 0 [.int (nI n2), .ref a1, .ref a2, .ref a3, .ref a4, .int vs, .int vb, .int vd], ai a1 cyI 7 (upd fh0 i (oh i)), ai a2 cyI 7 (upd fg0 i (og i)), ai a3 cyI 7 (upd ff0 i (of i)), ai a4 cyI 7 fk0, ob b0 0 [.int (nI n2), .ref b1, .ref b2, .ref b3, .ref b4, .int os, .int obh, .int od], ai b1 cyI 7 oh, ai b2 cyI 7 og, ai b3 cyI 7 of, ai b4 cyI 7 ok] := hD
        refine lv_aload_n hx hb dX0_copyFrom_52 rfl (lv_at hl 0 rfl) ?_
        refine va_get (D := (dC, dI)) (ci := 0) (v := .ref a4) (C := RX0) (T := TX0) (N := 8) hx hb hts hin_X0 hown hK hP 0 rfl rfl 4 (by decide) hw_9 (fun _ h9 => h9) rfl dX0_copyFrom_53 ?_
        refine lv_iload_n hx hb dX0_copyFrom_56 rfl (lv_at hl 2 rfl) ?_
        refine lv_aload_n hx hb dX0_copyFrom_57 rfl (lv_at hl 1 rfl) ?_
        refine va_get (D := (dC, dI)) (ci := 0) (v := .ref b4) (C := RX0) (T := TX0) (N := 8) hx hb hts hin_X0 hown hK hP 5 rfl rfl 4 (by decide) hw_9 (fun _ h9 => h9) rfl dX0_copyFrom_58 ?_
        refine lv_iload_n hx hb dX0_copyFrom_61 rfl (lv_at hl 2 rfl) ?_
        refine ra_iald hx hb hK hP 9 rfl i rfl (by omega) (Nat.le_of_ble_eq_true rfl) dX0_copyFrom_62 ?_
        refine ra_iast hx hb hK hP hD hS 4 rfl i rfl (by omega) (Nat.le_of_ble_eq_true rfl) dX0_copyFrom_63 (fun H locs hP hD hS => ?_)
        have hP : va_P (dC, dI) vwCl [ob a0 0 [.int (nI n2), .ref a1, .ref a2, .ref a3, .ref a4, .int vs, .int vb, .int vd], ai a1 cyI 7 (upd fh0 i (oh i)), ai a2 cyI 7 (upd fg0 i (og i)), ai a3 cyI 7 (upd ff0 i (of i)), ai a4 cyI 7 (upd fk0 i (ok i)), ob b0 0 [.int (nI n2), .ref b1, .ref b2, .ref b3, .ref b4, .int os, .int obh, .int od], ai b1 cyI 7 oh, ai b2 cyI 7 og, ai b3 cyI 7 of, ai b4 cyI 7 ok] H := hP
        have hD : va_D A [ob a0 0 [.int (nI n2), .ref a1, .ref a2, .ref a3, .ref a4, .int vs, .int vb, .int vd], ai a1 cyI 7 (upd fh0 i (oh i)), ai a2 cyI 7 (upd fg0 i (og i)), ai a3 cyI 7 (upd ff0 i (of i)), ai a4 cyI 7 (upd fk0 i (ok i)), ob b0 0 [.int (nI n2), .ref b1, .ref b2, .ref b3, .ref b4, .int os, .int obh, .int od], ai b1 cyI 7 oh, ai b2 cyI 7 og, ai b3 cyI 7 of, ai b4 cyI 7 ok] := hD
        refine lv_iinc (v := nI (i + 1)) (lv' := [(2, .int (nI (i + 1))), (0, .ref a0), (1, .ref b0)]) hx hb dX0_copyFrom_64 hl (k := 2) rfl (ra_inc1 _) (by decide) rfl (fun ls hl => ?_)
        refine lv_goto (tgt := 10) hx hb dX0_copyFrom_67 (by decide) ?_
        exact ih_10 (i + 1) (upd fh0 i (oh i)) (upd fg0 i (og i)) (upd ff0 i (of i)) (upd fk0 i (ok i)) (by omega) (fun j hj => by by_cases h : j = i; (· subst h; simp only [pk_us, and_self]); (· simp only [pk_un h]; exact hz j (by omega))) (by omega) H locs hP hD hS ls (lv_sub hl [1, 2, 0] rfl)
  exact L_10 _ 0 fh fg ff fk (by omega) (fun j hj => absurd hj (Nat.not_lt_zero j)) (Nat.lt_succ_self _) H locs hP hD hS ls (lv_sub hl [1, 2, 0] rfl)

set_option maxHeartbeats 4000000 in
set_option maxRecDepth 100000 in
theorem c_X0_row0 (l : Launch) (dC : Nat → ClassId) (dI : Nat → Nat → Nat) (cyI cyA : ClassId) (a0 a1 a2 a3 a4 n : Nat) (fh fg ff fk : FN) (vs vb vd : Int32)  : Met l yX0_row wsX0_row (rm 0) (kR dC dI cyI cyA [.ref a0, .int 0] [ob a0 0 [.int (nI n), .ref a1, .ref a2, .ref a3, .ref a4, .int vs, .int vb, .int vd], ai a1 cyI 7 fh, ai a2 cyI 7 fg, ai a3 cyI 7 ff, ai a4 cyI 7 fk]) (QcRef a1) 0 0 (fun _ => False) := by
  refine ra_metRr (cc := cX0_row) (maxL := 2) (by decide) rfl (Nat.le_of_ble_eq_true rfl) ?_
  intro p e s m below meth c args Q hQ hx hb hr hlocks hml hts hown hK hN hP ls hl
  have hl : lv_has ls 2 [(0, .ref a0), (1, .int 0)] := hl
  have hown : s.vm.findClass RX0 = some m.cls := hown
  have hw_1 := hts (.fieldLink RX0 9 "DuneBench$Coast" "height" "[I") (by decide +kernel)
  have hin_X0 : ∀ w ∈ u_ws RX0 TX0 8, w ∈ wsX0_row := by decide +kernel
  refine lv_iload_n hx hb dX0_row_0 rfl (lv_at hl 1 rfl) ?_
  refine lv_tableIn (off := 27) (tgt := 28) hx hb dX0_row_1 (by decide) (by decide) (by decide) (by decide) ?_
  refine lv_aload_n hx hb dX0_row_28 rfl (lv_at hl 0 rfl) ?_
  refine va_get (D := (dC, dI)) (ci := 0) (v := .ref a1) (C := RX0) (T := TX0) (N := 8) hx hb hts hin_X0 hown hK hP 0 rfl rfl 1 (by decide) hw_1 (fun _ h9 => h9) rfl dX0_row_29 ?_
  rw [hQ]
  exact ra_aretR hx hb hr hlocks dX0_row_32

set_option maxHeartbeats 4000000 in
set_option maxRecDepth 100000 in
theorem c_X0_row1 (l : Launch) (dC : Nat → ClassId) (dI : Nat → Nat → Nat) (cyI cyA : ClassId) (a0 a1 a2 a3 a4 n : Nat) (fh fg ff fk : FN) (vs vb vd : Int32)  : Met l yX0_row wsX0_row (rm 0) (kR dC dI cyI cyA [.ref a0, .int 1] [ob a0 0 [.int (nI n), .ref a1, .ref a2, .ref a3, .ref a4, .int vs, .int vb, .int vd], ai a1 cyI 7 fh, ai a2 cyI 7 fg, ai a3 cyI 7 ff, ai a4 cyI 7 fk]) (QcRef a2) 0 0 (fun _ => False) := by
  refine ra_metRr (cc := cX0_row) (maxL := 2) (by decide) rfl (Nat.le_of_ble_eq_true rfl) ?_
  intro p e s m below meth c args Q hQ hx hb hr hlocks hml hts hown hK hN hP ls hl
  have hl : lv_has ls 2 [(0, .ref a0), (1, .int 1)] := hl
  have hown : s.vm.findClass RX0 = some m.cls := hown
  have hw_1 := hts (.fieldLink RX0 15 "DuneBench$Coast" "grass" "[I") (by decide +kernel)
  have hin_X0 : ∀ w ∈ u_ws RX0 TX0 8, w ∈ wsX0_row := by decide +kernel
  refine lv_iload_n hx hb dX0_row_0 rfl (lv_at hl 1 rfl) ?_
  refine lv_tableIn (off := 32) (tgt := 33) hx hb dX0_row_1 (by decide) (by decide) (by decide) (by decide) ?_
  refine lv_aload_n hx hb dX0_row_33 rfl (lv_at hl 0 rfl) ?_
  refine va_get (D := (dC, dI)) (ci := 0) (v := .ref a2) (C := RX0) (T := TX0) (N := 8) hx hb hts hin_X0 hown hK hP 0 rfl rfl 2 (by decide) hw_1 (fun _ h9 => h9) rfl dX0_row_34 ?_
  rw [hQ]
  exact ra_aretR hx hb hr hlocks dX0_row_37

set_option maxHeartbeats 4000000 in
set_option maxRecDepth 100000 in
theorem c_X0_row2 (l : Launch) (dC : Nat → ClassId) (dI : Nat → Nat → Nat) (cyI cyA : ClassId) (a0 a1 a2 a3 a4 n : Nat) (fh fg ff fk : FN) (vs vb vd : Int32)  : Met l yX0_row wsX0_row (rm 0) (kR dC dI cyI cyA [.ref a0, .int 2] [ob a0 0 [.int (nI n), .ref a1, .ref a2, .ref a3, .ref a4, .int vs, .int vb, .int vd], ai a1 cyI 7 fh, ai a2 cyI 7 fg, ai a3 cyI 7 ff, ai a4 cyI 7 fk]) (QcRef a3) 0 0 (fun _ => False) := by
  refine ra_metRr (cc := cX0_row) (maxL := 2) (by decide) rfl (Nat.le_of_ble_eq_true rfl) ?_
  intro p e s m below meth c args Q hQ hx hb hr hlocks hml hts hown hK hN hP ls hl
  have hl : lv_has ls 2 [(0, .ref a0), (1, .int 2)] := hl
  have hown : s.vm.findClass RX0 = some m.cls := hown
  have hw_1 := hts (.fieldLink RX0 18 "DuneBench$Coast" "fence" "[I") (by decide +kernel)
  have hin_X0 : ∀ w ∈ u_ws RX0 TX0 8, w ∈ wsX0_row := by decide +kernel
  refine lv_iload_n hx hb dX0_row_0 rfl (lv_at hl 1 rfl) ?_
  refine lv_tableIn (off := 37) (tgt := 38) hx hb dX0_row_1 (by decide) (by decide) (by decide) (by decide) ?_
  refine lv_aload_n hx hb dX0_row_38 rfl (lv_at hl 0 rfl) ?_
  refine va_get (D := (dC, dI)) (ci := 0) (v := .ref a3) (C := RX0) (T := TX0) (N := 8) hx hb hts hin_X0 hown hK hP 0 rfl rfl 3 (by decide) hw_1 (fun _ h9 => h9) rfl dX0_row_39 ?_
  rw [hQ]
  exact ra_aretR hx hb hr hlocks dX0_row_42

set_option maxHeartbeats 4000000 in
set_option maxRecDepth 100000 in
theorem c_X0_row3 (l : Launch) (dC : Nat → ClassId) (dI : Nat → Nat → Nat) (cyI cyA : ClassId) (a0 a1 a2 a3 a4 n : Nat) (fh fg ff fk : FN) (vs vb vd : Int32)  : Met l yX0_row wsX0_row (rm 0) (kR dC dI cyI cyA [.ref a0, .int 3] [ob a0 0 [.int (nI n), .ref a1, .ref a2, .ref a3, .ref a4, .int vs, .int vb, .int vd], ai a1 cyI 7 fh, ai a2 cyI 7 fg, ai a3 cyI 7 ff, ai a4 cyI 7 fk]) (QcRef a4) 0 0 (fun _ => False) := by
  refine ra_metRr (cc := cX0_row) (maxL := 2) (by decide) rfl (Nat.le_of_ble_eq_true rfl) ?_
  intro p e s m below meth c args Q hQ hx hb hr hlocks hml hts hown hK hN hP ls hl
  have hl : lv_has ls 2 [(0, .ref a0), (1, .int 3)] := hl
  have hown : s.vm.findClass RX0 = some m.cls := hown
  have hw_1 := hts (.fieldLink RX0 21 "DuneBench$Coast" "kept" "[I") (by decide +kernel)
  have hin_X0 : ∀ w ∈ u_ws RX0 TX0 8, w ∈ wsX0_row := by decide +kernel
  refine lv_iload_n hx hb dX0_row_0 rfl (lv_at hl 1 rfl) ?_
  refine lv_tableOut (tgt := 43) hx hb dX0_row_1 (by decide) (by decide) ?_
  refine lv_aload_n hx hb dX0_row_43 rfl (lv_at hl 0 rfl) ?_
  refine va_get (D := (dC, dI)) (ci := 0) (v := .ref a4) (C := RX0) (T := TX0) (N := 8) hx hb hts hin_X0 hown hK hP 0 rfl rfl 4 (by decide) hw_1 (fun _ h9 => h9) rfl dX0_row_44 ?_
  rw [hQ]
  exact ra_aretR hx hb hr hlocks dX0_row_47

set_option maxHeartbeats 4000000 in
set_option maxRecDepth 100000 in
theorem c_X1_forget (l : Launch) (dC : Nat → ClassId) (dI : Nat → Nat → Nat) (cyI cyA : ClassId) (e0 e1 : Nat) (fr : FN)  (sz : Nat) : Met l yX1_forget wsX1_forget (rm 0) (kW dC dI cyI cyA [.ref e0] sz [ob e0 1 [.ref e1], ai e1 cyI 7 fr]) (qV dC dI cyI cyA (fun (_ : Unit) => True) (va_A [ob e0 1 [.ref e1], ai e1 cyI 7 fr] sz) (fun _ => [ob e0 1 [.ref e1], ai e1 cyI 7 mF])) 0 0 (va_A [ob e0 1 [.ref e1], ai e1 cyI 7 fr] sz) := by
  refine ra_metW (cc := cX1_forget) (maxL := 2) (Qc := fun A => qV dC dI cyI cyA (fun (_ : Unit) => True) A (fun _ => [ob e0 1 [.ref e1], ai e1 cyI 7 mF])) (by decide) rfl (Nat.le_of_ble_eq_true rfl) ?_
  intro p e s m below meth c A args Q hQ hx hb hr hlocks hml hts hown hnm hK hN hP hD hA hS ls hl
  have hl : lv_has ls 2 [(0, .ref e0)] := hl
  have hown : s.vm.findClass RX1 = some m.cls := hown
  have hw_1 := hts (.fieldLink RX1 9 "DuneBench$Survey" "reading" "[I") (by decide +kernel)
  have hin_X1 : ∀ w ∈ u_ws RX1 TX1 1, w ∈ wsX1_forget := by decide +kernel
  obtain ⟨H, hHe⟩ : ∃ H, H = s.heap := ⟨_, rfl⟩
  obtain ⟨locs, hLe⟩ : ∃ locs : List Loc, locs = [] := ⟨_, rfl⟩
  have hP : va_P (dC, dI) vwCl [ob e0 1 [.ref e1], ai e1 cyI 7 fr] H := by rw [hHe]; exact hP
  have hS : va_S A s.heap H locs := by rw [hHe, hLe]; exact hS
  suffices hgo : W p l e (rm 0) s m args below meth c H locs 0 0 Q (F0 m 0 ls []) by rw [hHe, hLe] at hgo; exact hgo
  refine lv_iconst (v := 0) hx hb dX1_forget_0 (by decide) ?_
  refine lv_istore_n (lv' := [(1, .int 0), (0, .ref e0)]) hx hb dX1_forget_1 rfl hl (by decide) rfl (fun ls hl => ?_)
  have L_2 : ∀ (n9 : Nat) (i : Nat) (fr0 : FN), (i ≤ 7) → (∀ j, j < i → fr0 j = -1) → (7 - i) < n9 → ∀ (H : Heap) (locs : List Loc), va_P (dC, dI) vwCl [ob e0 1 [.ref e1], ai e1 cyI 7 fr0] H → va_D A [ob e0 1 [.ref e1], ai e1 cyI 7 fr0] → va_S A s.heap H locs → ∀ ls : Array Slot, lv_has ls 2 [(0, .ref e0), (1, .int (nI i))] → W p l e (rm 0) s m args below meth c H locs 0 0 Q (F0 m 2 ls []) := by
    intro n9
    induction n9 with
    | zero =>
      intro i fr0 hi hz hm9
      exact absurd hm9 (Nat.not_lt_zero _)
    | succ n9 ih_2 =>
      intro i fr0 hi hz hm9 H locs hP hD hS ls hl
      refine lv_iload_n hx hb dX1_forget_2 rfl (lv_at hl 1 rfl) ?_
      refine lv_bipush (v := 7) hx hb dX1_forget_3 (by decide) ?_
      refine lv_icmp_ge (tgt := 21) hx hb dX1_forget_5 (by decide) (fun c_5 => ?_) (fun c_5 => ?_)
      · ---- to 21
        have n_5 := (nq_le 7 i (by omega) (by omega)).mp c_5
        obtain ⟨hP, hD⟩ := ra_cong hP hD 1 mF rfl (fun j hj => hz j (by omega))
        have hP : va_P (dC, dI) vwCl [ob e0 1 [.ref e1], ai e1 cyI 7 mF] H := hP
        have hD : va_D A [ob e0 1 [.ref e1], ai e1 cyI 7 mF] := hD
        rw [hQ]
        exact ra_vretW () hx hb hr hlocks hK hP hD hS trivial dX1_forget_21
      · ---- on
        have n_5 := (nq_le_n 7 i (by omega) (by omega)).mp c_5
        refine lv_aload_n hx hb dX1_forget_8 rfl (lv_at hl 0 rfl) ?_
        refine va_get (D := (dC, dI)) (ci := 1) (v := .ref e1) (C := RX1) (T := TX1) (N := 1) hx hb hts hin_X1 hown hK hP 0 rfl rfl 0 (by decide) hw_1 (fun _ h9 => h9) rfl dX1_forget_9 ?_
        refine lv_iload_n hx hb dX1_forget_12 rfl (lv_at hl 1 rfl) ?_
        refine lv_iconst (v := (-1)) hx hb dX1_forget_13 (by decide) ?_
        refine ra_iast hx hb hK hP hD hS 1 rfl i rfl (by omega) (Nat.le_of_ble_eq_true rfl) dX1_forget_14 (fun H locs hP hD hS => ?_)
        have hP : va_P (dC, dI) vwCl [ob e0 1 [.ref e1], ai e1 cyI 7 (upd fr0 i (-1))] H := hP
        have hD : va_D A [ob e0 1 [.ref e1], ai e1 cyI 7 (upd fr0 i (-1))] := hD
        refine lv_iinc (v := nI (i + 1)) (lv' := [(1, .int (nI (i + 1))), (0, .ref e0)]) hx hb dX1_forget_15 hl (k := 1) rfl (ra_inc1 _) (by decide) rfl (fun ls hl => ?_)
        refine lv_goto (tgt := 2) hx hb dX1_forget_18 (by decide) ?_
        exact ih_2 (i + 1) (upd fr0 i (-1)) (by omega) (fun j hj => by by_cases h : j = i; (· subst h; exact pk_us); (· rw [pk_un h]; exact hz j (by omega))) (by omega) H locs hP hD hS ls (lv_sub hl [1, 0] rfl)
  exact L_2 _ 0 fr (by omega) (fun j hj => absurd hj (Nat.not_lt_zero j)) (Nat.lt_succ_self _) H locs hP hD hS ls (lv_sub hl [1, 0] rfl)

set_option maxHeartbeats 4000000 in
set_option maxRecDepth 100000 in
theorem c_X1_put (l : Launch) (dC : Nat → ClassId) (dI : Nat → Nat → Nat) (cyI cyA : ClassId) (e0 e1 : Nat) (fr : FN) (j : Nat) (v : Int32) (hj : j < 7) (sz : Nat) : Met l yX1_put wsX1_put (rm 0) (kW dC dI cyI cyA [.ref e0, .int (nI j), .int v] sz [ob e0 1 [.ref e1], ai e1 cyI 7 fr]) (qI dC dI cyI cyA (fun (r : Int32) (_ : Unit) => r = fr j) (va_A [ob e0 1 [.ref e1], ai e1 cyI 7 fr] sz) (fun _ => [ob e0 1 [.ref e1], ai e1 cyI 7 (upd fr j v)])) 0 0 (va_A [ob e0 1 [.ref e1], ai e1 cyI 7 fr] sz) := by
  refine ra_metW (cc := cX1_put) (maxL := 4) (Qc := fun A => qI dC dI cyI cyA (fun (r : Int32) (_ : Unit) => r = fr j) A (fun _ => [ob e0 1 [.ref e1], ai e1 cyI 7 (upd fr j v)])) (by decide) rfl (Nat.le_of_ble_eq_true rfl) ?_
  intro p e s m below meth c A args Q hQ hx hb hr hlocks hml hts hown hnm hK hN hP hD hA hS ls hl
  have hl : lv_has ls 4 [(0, .ref e0), (1, .int (nI j)), (2, .int v)] := hl
  have hown : s.vm.findClass RX1 = some m.cls := hown
  have hw_1 := hts (.fieldLink RX1 9 "DuneBench$Survey" "reading" "[I") (by decide +kernel)
  have hin_X1 : ∀ w ∈ u_ws RX1 TX1 1, w ∈ wsX1_put := by decide +kernel
  obtain ⟨H, hHe⟩ : ∃ H, H = s.heap := ⟨_, rfl⟩
  obtain ⟨locs, hLe⟩ : ∃ locs : List Loc, locs = [] := ⟨_, rfl⟩
  have hP : va_P (dC, dI) vwCl [ob e0 1 [.ref e1], ai e1 cyI 7 fr] H := by rw [hHe]; exact hP
  have hS : va_S A s.heap H locs := by rw [hHe, hLe]; exact hS
  suffices hgo : W p l e (rm 0) s m args below meth c H locs 0 0 Q (F0 m 0 ls []) by rw [hHe, hLe] at hgo; exact hgo
  refine lv_aload_n hx hb dX1_put_0 rfl (lv_at hl 0 rfl) ?_
  refine va_get (D := (dC, dI)) (ci := 1) (v := .ref e1) (C := RX1) (T := TX1) (N := 1) hx hb hts hin_X1 hown hK hP 0 rfl rfl 0 (by decide) hw_1 (fun _ h9 => h9) rfl dX1_put_1 ?_
  refine lv_iload_n hx hb dX1_put_4 rfl (lv_at hl 1 rfl) ?_
  refine ra_iald hx hb hK hP 1 rfl j rfl (by omega) (Nat.le_of_ble_eq_true rfl) dX1_put_5 ?_
  refine lv_istore_n (lv' := [(3, .int (fr j)), (0, .ref e0), (1, .int (nI j)), (2, .int v)]) hx hb dX1_put_6 rfl hl (by decide) rfl (fun ls hl => ?_)
  refine lv_aload_n hx hb dX1_put_7 rfl (lv_at hl 1 rfl) ?_
  refine va_get (D := (dC, dI)) (ci := 1) (v := .ref e1) (C := RX1) (T := TX1) (N := 1) hx hb hts hin_X1 hown hK hP 0 rfl rfl 0 (by decide) hw_1 (fun _ h9 => h9) rfl dX1_put_8 ?_
  refine lv_iload_n hx hb dX1_put_11 rfl (lv_at hl 2 rfl) ?_
  refine lv_iload_n hx hb dX1_put_12 rfl (lv_at hl 3 rfl) ?_
  refine ra_iast hx hb hK hP hD hS 1 rfl j rfl (by omega) (Nat.le_of_ble_eq_true rfl) dX1_put_13 (fun H locs hP hD hS => ?_)
  have hP : va_P (dC, dI) vwCl [ob e0 1 [.ref e1], ai e1 cyI 7 (upd fr j v)] H := hP
  have hD : va_D A [ob e0 1 [.ref e1], ai e1 cyI 7 (upd fr j v)] := hD
  refine lv_iload_n hx hb dX1_put_14 rfl (lv_at hl 0 rfl) ?_
  rw [hQ]
  exact ra_iretW () hx hb hr hlocks rfl hK hP hD hS rfl dX1_put_15

set_option maxHeartbeats 4000000 in
set_option maxRecDepth 100000 in
theorem c_X1_readings (l : Launch) (dC : Nat → ClassId) (dI : Nat → Nat → Nat) (cyI cyA : ClassId) (e0 e1 : Nat) (fr : FN)  : Met l yX1_readings wsX1_readings (rm 0) (kR dC dI cyI cyA [.ref e0] [ob e0 1 [.ref e1], ai e1 cyI 7 fr]) (QcRead (nI (cntR fr 7 0 0))) 0 0 (fun _ => False) := by
  refine ra_metR (cc := cX1_readings) (maxL := 3) (by decide) rfl (Nat.le_of_ble_eq_true rfl) ?_
  intro p e s m below meth c args Q hQ hx hb hr hlocks hml hts hown hK hN hP ls hl
  have hl : lv_has ls 3 [(0, .ref e0)] := hl
  have hown : s.vm.findClass RX1 = some m.cls := hown
  have hw_1 := hts (.fieldLink RX1 9 "DuneBench$Survey" "reading" "[I") (by decide +kernel)
  have hin_X1 : ∀ w ∈ u_ws RX1 TX1 1, w ∈ wsX1_readings := by decide +kernel
  refine lv_iconst (v := 0) hx hb dX1_readings_0 (by decide) ?_
  refine lv_istore_n (lv' := [(1, .int 0), (0, .ref e0)]) hx hb dX1_readings_1 rfl hl (by decide) rfl (fun ls hl => ?_)
  refine lv_iconst (v := 0) hx hb dX1_readings_2 (by decide) ?_
  refine lv_istore_n (lv' := [(2, .int 0), (1, .int 0), (0, .ref e0)]) hx hb dX1_readings_3 rfl hl (by decide) rfl (fun ls hl => ?_)
  have L_4 : ∀ (n9 : Nat) (i : Nat) (x : Nat), (i ≤ 7) → (cntR fr (7 - i) i x = cntR fr 7 0 0) → (7 - i) < n9 → ∀ ls : Array Slot, lv_has ls 3 [(0, .ref e0), (1, .int (nI x)), (2, .int (nI i))] → W p l e (rm 0) s m args below meth c s.heap [] 0 0 Q (F0 m 4 ls []) := by
    intro n9
    induction n9 with
    | zero =>
      intro i x hi he hm9
      exact absurd hm9 (Nat.not_lt_zero _)
    | succ n9 ih_4 =>
      intro i x hi he hm9 ls hl
      refine lv_iload_n hx hb dX1_readings_4 rfl (lv_at hl 2 rfl) ?_
      refine lv_bipush (v := 7) hx hb dX1_readings_5 (by decide) ?_
      refine lv_icmp_ge (tgt := 29) hx hb dX1_readings_7 (by decide) (fun c_7 => ?_) (fun c_7 => ?_)
      · ---- to 29
        have n_7 := (nq_le 7 i (by omega) (by omega)).mp c_7
        refine lv_iload_n hx hb dX1_readings_29 rfl (lv_at hl 1 rfl) ?_
        rw [hQ]
        exact ra_iretR hx hb hr hlocks rfl (by rw [← he, show 7 - i = 0 by omega]; rfl) dX1_readings_30
      · ---- on
        have n_7 := (nq_le_n 7 i (by omega) (by omega)).mp c_7
        refine lv_aload_n hx hb dX1_readings_10 rfl (lv_at hl 0 rfl) ?_
        refine va_get (D := (dC, dI)) (ci := 1) (v := .ref e1) (C := RX1) (T := TX1) (N := 1) hx hb hts hin_X1 hown hK hP 0 rfl rfl 0 (by decide) hw_1 (fun _ h9 => h9) rfl dX1_readings_11 ?_
        refine lv_iload_n hx hb dX1_readings_14 rfl (lv_at hl 2 rfl) ?_
        refine ra_iald hx hb hK hP 1 rfl i rfl (by omega) (Nat.le_of_ble_eq_true rfl) dX1_readings_15 ?_
        refine lv_iconst (v := (-1)) hx hb dX1_readings_16 (by decide) ?_
        refine lv_icmp_eq (tgt := 23) hx hb dX1_readings_17 (by decide) (fun c_17 => ?_) (fun c_17 => ?_)
        · ---- to 23
          refine lv_iinc (v := nI (i + 1)) (lv' := [(2, .int (nI (i + 1))), (0, .ref e0), (1, .int (nI x))]) hx hb dX1_readings_23 hl (k := 2) rfl (ra_inc1 _) (by decide) rfl (fun ls hl => ?_)
          refine lv_goto (tgt := 4) hx hb dX1_readings_26 (by decide) ?_
          exact ih_4 (i + 1) x (by omega) (by rw [← he, show 7 - i = 7 - (i + 1) + 1 by omega]; show _ = cntR fr _ _ (if _ then _ else _); first | rw [if_pos c_17] | rw [if_neg c_17]) (by omega) ls (lv_sub hl [1, 2, 0] rfl)
        · ---- on
          refine lv_iinc (v := nI (x + 1)) (lv' := [(1, .int (nI (x + 1))), (0, .ref e0), (2, .int (nI i))]) hx hb dX1_readings_20 hl (k := 1) rfl (ra_inc1 _) (by decide) rfl (fun ls hl => ?_)
          refine lv_iinc (v := nI (i + 1)) (lv' := [(2, .int (nI (i + 1))), (1, .int (nI (x + 1))), (0, .ref e0)]) hx hb dX1_readings_23 hl (k := 2) rfl (ra_inc1 _) (by decide) rfl (fun ls hl => ?_)
          refine lv_goto (tgt := 4) hx hb dX1_readings_26 (by decide) ?_
          exact ih_4 (i + 1) (x + 1) (by omega) (by rw [← he, show 7 - i = 7 - (i + 1) + 1 by omega]; show _ = cntR fr _ _ (if _ then _ else _); first | rw [if_pos c_17] | rw [if_neg c_17]) (by omega) ls (lv_sub hl [2, 1, 0] rfl)
  exact L_4 _ 0 0 (by omega) rfl (Nat.lt_succ_self _) ls (lv_sub hl [2, 1, 0] rfl)

set_option maxHeartbeats 4000000 in
set_option maxRecDepth 100000 in
theorem c_X1_nearest (l : Launch) (dC : Nat → ClassId) (dI : Nat → Nat → Nat) (cyI cyA : ClassId) (e0 e1 : Nat) (fr : FN) (a st : Int32) (n : Nat) (mi : Int32) (hn : n ≤ 7) : Met l yX1_nearest wsX1_nearest (rm 0) (kR dC dI cyI cyA [.ref e0, .int a, .int st, .int (nI n), .int mi] [ob e0 1 [.ref e1], ai e1 cyI 7 fr]) (QcRead (near fr st mi n 7 a)) 0 0 (fun _ => False) := by
  refine ra_metR (cc := cX1_nearest) (maxL := 7) (by decide) rfl (Nat.le_of_ble_eq_true rfl) ?_
  intro p e s m below meth c args Q hQ hx hb hr hlocks hml hts hown hK hN hP ls hl
  have hl : lv_has ls 7 [(0, .ref e0), (1, .int a), (2, .int st), (3, .int (nI n)), (4, .int mi)] := hl
  have hown : s.vm.findClass RX1 = some m.cls := hown
  have hw_1 := hts (.fieldLink RX1 9 "DuneBench$Survey" "reading" "[I") (by decide +kernel)
  have hin_X1 : ∀ w ∈ u_ws RX1 TX1 1, w ∈ wsX1_nearest := by decide +kernel
  refine lv_iload_n hx hb dX1_nearest_0 rfl (lv_at hl 1 rfl) ?_
  refine lv_istore (lv' := [(5, .int a), (0, .ref e0), (1, .int a), (2, .int st), (3, .int (nI n)), (4, .int mi)]) hx hb dX1_nearest_1 hl (by decide) rfl (fun ls hl => ?_)
  refine lv_iconst (v := 0) hx hb dX1_nearest_3 (by decide) ?_
  refine lv_istore (lv' := [(6, .int 0), (5, .int a), (0, .ref e0), (1, .int a), (2, .int st), (3, .int (nI n)), (4, .int mi)]) hx hb dX1_nearest_4 hl (by decide) rfl (fun ls hl => ?_)
  have L_6 : ∀ (n9 : Nat) (i : Nat) (x : Int32), (i ≤ 7) → (near fr st mi n (7 - i) x = near fr st mi n 7 a) → (7 - i) < n9 → ∀ ls : Array Slot, lv_has ls 7 [(0, .ref e0), (1, .int a), (2, .int st), (3, .int (nI n)), (4, .int mi), (5, .int x), (6, .int (nI i))] → W p l e (rm 0) s m args below meth c s.heap [] 0 0 Q (F0 m 6 ls []) := by
    intro n9
    induction n9 with
    | zero =>
      intro i x hi he hm9
      exact absurd hm9 (Nat.not_lt_zero _)
    | succ n9 ih_6 =>
      intro i x hi he hm9 ls hl
      refine lv_iload hx hb dX1_nearest_6 (lv_at hl 6 rfl) ?_
      refine lv_bipush (v := 7) hx hb dX1_nearest_8 (by decide) ?_
      refine lv_icmp_ge (tgt := 57) hx hb dX1_nearest_10 (by decide) (fun c_10 => ?_) (fun c_10 => ?_)
      · ---- to 57
        have n_10 := (nq_le 7 i (by omega) (by omega)).mp c_10
        refine lv_iconst (v := (-1)) hx hb dX1_nearest_57 (by decide) ?_
        rw [hQ]
        exact ra_iretR hx hb hr hlocks rfl (by rw [← he]; first | (rw [show 7 - i = 0 by omega]; rfl) | (rw [show 7 - i = 7 - (i + 1) + 1 by omega]; show _ = ite _ _ _; first | (rw [if_pos c_15]; done) | (rw [if_neg c_15, if_pos c_21]; done))) dX1_nearest_58
      · ---- on
        have n_10 := (nq_le_n 7 i (by omega) (by omega)).mp c_10
        refine lv_iload hx hb dX1_nearest_13 (lv_at hl 5 rfl) ?_
        refine lv_if_lt (tgt := 57) hx hb dX1_nearest_15 (by decide) (fun c_15 => ?_) (fun c_15 => ?_)
        · ---- to 57
          refine lv_iconst (v := (-1)) hx hb dX1_nearest_57 (by decide) ?_
          rw [hQ]
          exact ra_iretR hx hb hr hlocks rfl (by rw [← he]; first | (rw [show 7 - i = 0 by omega]; rfl) | (rw [show 7 - i = 7 - (i + 1) + 1 by omega]; show _ = ite _ _ _; first | (rw [if_pos c_15]; done) | (rw [if_neg c_15, if_pos c_21]; done))) dX1_nearest_58
        · ---- on
          refine lv_iload hx hb dX1_nearest_18 (lv_at hl 5 rfl) ?_
          refine lv_iload_n hx hb dX1_nearest_20 rfl (lv_at hl 3 rfl) ?_
          refine lv_icmp_ge (tgt := 57) hx hb dX1_nearest_21 (by decide) (fun c_21 => ?_) (fun c_21 => ?_)
          · ---- to 57
            refine lv_iconst (v := (-1)) hx hb dX1_nearest_57 (by decide) ?_
            rw [hQ]
            exact ra_iretR hx hb hr hlocks rfl (by rw [← he]; first | (rw [show 7 - i = 0 by omega]; rfl) | (rw [show 7 - i = 7 - (i + 1) + 1 by omega]; show _ = ite _ _ _; first | (rw [if_pos c_15]; done) | (rw [if_neg c_15, if_pos c_21]; done))) dX1_nearest_58
          · ---- on
            refine lv_aload_n hx hb dX1_nearest_24 rfl (lv_at hl 0 rfl) ?_
            refine va_get (D := (dC, dI)) (ci := 1) (v := .ref e1) (C := RX1) (T := TX1) (N := 1) hx hb hts hin_X1 hown hK hP 0 rfl rfl 0 (by decide) hw_1 (fun _ h9 => h9) rfl dX1_nearest_25 ?_
            refine lv_iload hx hb dX1_nearest_28 (lv_at hl 5 rfl) ?_
            refine ra_iald hx hb hK hP 1 rfl x.toNatClampNeg (i32_cl c_15) (Nat.lt_of_lt_of_le (i32_cb c_15 c_21 hn) hn) (Nat.le_of_ble_eq_true rfl) dX1_nearest_30 ?_
            refine lv_iconst (v := (-1)) hx hb dX1_nearest_31 (by decide) ?_
            refine lv_icmp_eq (tgt := 45) hx hb dX1_nearest_32 (by decide) (fun c_32 => ?_) (fun c_32 => ?_)
            · ---- to 45
              refine lv_iload hx hb dX1_nearest_45 (lv_at hl 5 rfl) ?_
              refine lv_iload_n hx hb dX1_nearest_47 rfl (lv_at hl 2 rfl) ?_
              refine lv_iadd hx hb dX1_nearest_48 ?_
              refine lv_istore (lv' := [(5, .int (x + st)), (0, .ref e0), (1, .int a), (2, .int st), (3, .int (nI n)), (4, .int mi), (6, .int (nI i))]) hx hb dX1_nearest_49 hl (by decide) rfl (fun ls hl => ?_)
              refine lv_iinc (v := nI (i + 1)) (lv' := [(6, .int (nI (i + 1))), (5, .int (x + st)), (0, .ref e0), (1, .int a), (2, .int st), (3, .int (nI n)), (4, .int mi)]) hx hb dX1_nearest_51 hl (k := 6) rfl (ra_inc1 _) (by decide) rfl (fun ls hl => ?_)
              refine lv_goto (tgt := 6) hx hb dX1_nearest_54 (by decide) ?_
              exact ih_6 (i + 1) (x + st) (by omega) (by rw [← he, show 7 - i = 7 - (i + 1) + 1 by omega]; show _ = ite _ _ _; rw [if_neg c_15, if_neg c_21]; first | (rw [if_pos c_32]; done) | (rw [if_neg c_32, if_pos c_39]; done)) (by omega) ls (lv_sub hl [2, 3, 4, 5, 6, 1, 0] rfl)
            · ---- on
              refine lv_iload hx hb dX1_nearest_35 (lv_at hl 5 rfl) ?_
              refine lv_iload hx hb dX1_nearest_37 (lv_at hl 4 rfl) ?_
              refine lv_icmp_eq (tgt := 45) hx hb dX1_nearest_39 (by decide) (fun c_39 => ?_) (fun c_39 => ?_)
              · ---- to 45
                refine lv_iload hx hb dX1_nearest_45 (lv_at hl 5 rfl) ?_
                refine lv_iload_n hx hb dX1_nearest_47 rfl (lv_at hl 2 rfl) ?_
                refine lv_iadd hx hb dX1_nearest_48 ?_
                refine lv_istore (lv' := [(5, .int (x + st)), (0, .ref e0), (1, .int a), (2, .int st), (3, .int (nI n)), (4, .int mi), (6, .int (nI i))]) hx hb dX1_nearest_49 hl (by decide) rfl (fun ls hl => ?_)
                refine lv_iinc (v := nI (i + 1)) (lv' := [(6, .int (nI (i + 1))), (5, .int (x + st)), (0, .ref e0), (1, .int a), (2, .int st), (3, .int (nI n)), (4, .int mi)]) hx hb dX1_nearest_51 hl (k := 6) rfl (ra_inc1 _) (by decide) rfl (fun ls hl => ?_)
                refine lv_goto (tgt := 6) hx hb dX1_nearest_54 (by decide) ?_
                exact ih_6 (i + 1) (x + st) (by omega) (by rw [← he, show 7 - i = 7 - (i + 1) + 1 by omega]; show _ = ite _ _ _; rw [if_neg c_15, if_neg c_21]; first | (rw [if_pos c_32]; done) | (rw [if_neg c_32, if_pos c_39]; done)) (by omega) ls (lv_sub hl [2, 3, 4, 5, 6, 1, 0] rfl)
              · ---- on
                refine lv_iload hx hb dX1_nearest_42 (lv_at hl 5 rfl) ?_
                rw [hQ]
                exact ra_iretR hx hb hr hlocks rfl (by rw [← he, show 7 - i = 7 - (i + 1) + 1 by omega]; show _ = ite _ _ _; rw [if_neg c_15, if_neg c_21, if_neg c_32, if_neg c_39]) dX1_nearest_44
  exact L_6 _ 0 a (by omega) rfl (Nat.lt_succ_self _) ls (lv_sub hl [2, 3, 4, 5, 6, 1, 0] rfl)

set_option maxHeartbeats 4000000 in
set_option maxRecDepth 100000 in
theorem c_X1_scaledLevel (l : Launch) (dC : Nat → ClassId) (dI : Nat → Nat → Nat) (cyI cyA : ClassId) (e0 e1 : Nat) (fr : FN) (j n : Nat) (mi : Int32) (hn : n ≤ 7) : Met l yX1_scaledLevel wsX1_scaledLevel (rm 1) (kR dC dI cyI cyA [.ref e0, .int (nI j), .int (nI n), .int mi] [ob e0 1 [.ref e1], ai e1 cyI 7 fr]) (QcRead (sLev fr n mi j)) 0 0 (fun _ => False) := by
  refine ra_metR (cc := cX1_scaledLevel) (maxL := 7) (by decide) rfl (Nat.le_of_ble_eq_true rfl) ?_
  intro p e s m below meth c args Q hQ hx hb hr hlocks hml hts hown hK hN hP ls hl
  have hl : lv_has ls 7 [(0, .ref e0), (1, .int (nI j)), (2, .int (nI n)), (3, .int mi)] := hl
  have hown : s.vm.findClass RX1 = some m.cls := hown
  have hw_1 := hts (.fieldLink RX1 9 "DuneBench$Survey" "reading" "[I") (by decide +kernel)
  have hin_X1 : ∀ w ∈ u_ws RX1 TX1 1, w ∈ wsX1_scaledLevel := by decide +kernel
  refine lv_aload_n hx hb dX1_scaledLevel_0 rfl (lv_at hl 0 rfl) ?_
  refine lv_iload_n hx hb dX1_scaledLevel_1 rfl (lv_at hl 1 rfl) ?_
  refine lv_iconst (v := (-1)) hx hb dX1_scaledLevel_2 (by decide) ?_
  refine lv_iload_n hx hb dX1_scaledLevel_3 rfl (lv_at hl 2 rfl) ?_
  refine lv_iload_n hx hb dX1_scaledLevel_4 rfl (lv_at hl 3 rfl) ?_
  refine ra_cR (q := (RX1, TX1, 1)) (ci := 1) (As := [.int (nI j), .int (-1), .int (nI n), .int mi]) (rest := []) (wc := [ob e0 1 [.ref e1], ai e1 cyI 7 fr]) ⟨hx, hb, hml, hown, hts⟩ (c_X1_nearest l dC dI cyI cyA e0 e1 fr (nI j) (-1) n mi (by omega)) (cwV 4 hts gX1_scaledLevel_X1_nearest rfl rfl rfl (by decide +kernel) ⟨Nat.le_of_ble_eq_true rfl, Nat.le_of_ble_eq_true rfl⟩) hK hN hP [0, 1] rfl rfl rfl rfl hl.1 rfl (Nat.le_of_ble_eq_true rfl) dX1_scaledLevel_5 ⟨Nat.le_of_ble_eq_true rfl, Nat.le_of_ble_eq_true rfl⟩ ?_
  refine ra_top (nL fr n mi j) rfl ?_
  refine lv_istore (lv' := [(4, .int (nL fr n mi j)), (0, .ref e0), (1, .int (nI j)), (2, .int (nI n)), (3, .int mi)]) hx hb dX1_scaledLevel_8 hl (by decide) rfl (fun ls hl => ?_)
  refine lv_aload_n hx hb dX1_scaledLevel_10 rfl (lv_at hl 1 rfl) ?_
  refine lv_iload_n hx hb dX1_scaledLevel_11 rfl (lv_at hl 2 rfl) ?_
  refine lv_iconst (v := 1) hx hb dX1_scaledLevel_12 (by decide) ?_
  refine lv_iload_n hx hb dX1_scaledLevel_13 rfl (lv_at hl 3 rfl) ?_
  refine lv_iload_n hx hb dX1_scaledLevel_14 rfl (lv_at hl 4 rfl) ?_
  refine ra_cR (q := (RX1, TX1, 1)) (ci := 1) (As := [.int (nI j), .int 1, .int (nI n), .int mi]) (rest := []) (wc := [ob e0 1 [.ref e1], ai e1 cyI 7 fr]) ⟨hx, hb, hml, hown, hts⟩ (c_X1_nearest l dC dI cyI cyA e0 e1 fr (nI j) 1 n mi (by omega)) (cwV 4 hts gX1_scaledLevel_X1_nearest rfl rfl rfl (by decide +kernel) ⟨Nat.le_of_ble_eq_true rfl, Nat.le_of_ble_eq_true rfl⟩) hK hN hP [0, 1] rfl rfl rfl rfl hl.1 rfl (Nat.le_of_ble_eq_true rfl) dX1_scaledLevel_15 ⟨Nat.le_of_ble_eq_true rfl, Nat.le_of_ble_eq_true rfl⟩ ?_
  refine ra_top (nR fr n mi j) rfl ?_
  refine lv_istore (lv' := [(5, .int (nR fr n mi j)), (4, .int (nL fr n mi j)), (0, .ref e0), (1, .int (nI j)), (2, .int (nI n)), (3, .int mi)]) hx hb dX1_scaledLevel_18 hl (by decide) rfl (fun ls hl => ?_)
  refine lv_iload hx hb dX1_scaledLevel_20 (lv_at hl 1 rfl) ?_
  refine lv_iconst (v := (-1)) hx hb dX1_scaledLevel_22 (by decide) ?_
  refine lv_icmp_ne (tgt := 34) hx hb dX1_scaledLevel_23 (by decide) (fun c_23 => ?_) (fun c_23 => ?_)
  · ---- to 34
    refine lv_iload hx hb dX1_scaledLevel_34 (lv_at hl 1 rfl) ?_
    refine lv_iconst (v := (-1)) hx hb dX1_scaledLevel_36 (by decide) ?_
    refine lv_icmp_ne (tgt := 51) hx hb dX1_scaledLevel_37 (by decide) (fun c_37 => ?_) (fun c_37 => ?_)
    · ---- to 51
      have hl1 := (near_rng fr (-1) mi n 7 (nI j)).resolve_left c_37
      refine lv_iload hx hb dX1_scaledLevel_51 (lv_at hl 0 rfl) ?_
      refine lv_iconst (v := (-1)) hx hb dX1_scaledLevel_53 (by decide) ?_
      refine lv_icmp_eq (tgt := 64) hx hb dX1_scaledLevel_54 (by decide) (fun c_54 => ?_) (fun c_54 => ?_)
      · ---- to 64
        refine lv_bipush (v := 60) hx hb dX1_scaledLevel_64 (by decide) ?_
        refine lv_aload_n hx hb dX1_scaledLevel_66 rfl (lv_at hl 2 rfl) ?_
        refine va_get (D := (dC, dI)) (ci := 1) (v := .ref e1) (C := RX1) (T := TX1) (N := 1) hx hb hts hin_X1 hown hK hP 0 rfl rfl 0 (by decide) hw_1 (fun _ h9 => h9) rfl dX1_scaledLevel_67 ?_
        refine lv_iload hx hb dX1_scaledLevel_70 (lv_at hl 1 rfl) ?_
        refine ra_iald hx hb hK hP 1 rfl ((nL fr n mi j).toNatClampNeg) (i32_cl hl1.1) (Nat.lt_of_lt_of_le (i32_cb hl1.1 hl1.2 hn) hn) (Nat.le_of_ble_eq_true rfl) dX1_scaledLevel_72 ?_
        refine lv_imul hx hb dX1_scaledLevel_73 ?_
        rw [hQ]
        exact ra_iretR hx hb hr hlocks rfl (by unfold sLev; rw [if_neg c_37]; first | (rw [if_pos c_54]; done) | (rw [if_neg c_54, if_neg c_61]; done)) dX1_scaledLevel_74
      · ---- on
        refine lv_iload hx hb dX1_scaledLevel_57 (lv_at hl 0 rfl) ?_
        refine lv_iload hx hb dX1_scaledLevel_59 (lv_at hl 1 rfl) ?_
        refine lv_icmp_gt (tgt := 75) hx hb dX1_scaledLevel_61 (by decide) (fun c_61 => ?_) (fun c_61 => ?_)
        · ---- to 75
          have hr1 := (near_rng fr 1 mi n 7 (nI j)).resolve_left c_54
          refine lv_bipush (v := 60) hx hb dX1_scaledLevel_75 (by decide) ?_
          refine lv_iload hx hb dX1_scaledLevel_77 (lv_at hl 0 rfl) ?_
          refine lv_iload hx hb dX1_scaledLevel_79 (lv_at hl 1 rfl) ?_
          refine lv_isub hx hb dX1_scaledLevel_81 ?_
          refine lv_idiv hx hb dX1_scaledLevel_82 (i32_subne c_61) ?_
          refine lv_istore (lv' := [(6, .int (60 / ((nR fr n mi j) - (nL fr n mi j)))), (5, .int (nR fr n mi j)), (4, .int (nL fr n mi j)), (0, .ref e0), (1, .int (nI j)), (2, .int (nI n)), (3, .int mi)]) hx hb dX1_scaledLevel_83 hl (by decide) rfl (fun ls hl => ?_)
          refine lv_iload hx hb dX1_scaledLevel_85 (lv_at hl 0 rfl) ?_
          refine lv_aload_n hx hb dX1_scaledLevel_87 rfl (lv_at hl 3 rfl) ?_
          refine va_get (D := (dC, dI)) (ci := 1) (v := .ref e1) (C := RX1) (T := TX1) (N := 1) hx hb hts hin_X1 hown hK hP 0 rfl rfl 0 (by decide) hw_1 (fun _ h9 => h9) rfl dX1_scaledLevel_88 ?_
          refine lv_iload hx hb dX1_scaledLevel_91 (lv_at hl 2 rfl) ?_
          refine ra_iald hx hb hK hP 1 rfl ((nL fr n mi j).toNatClampNeg) (i32_cl hl1.1) (Nat.lt_of_lt_of_le (i32_cb hl1.1 hl1.2 hn) hn) (Nat.le_of_ble_eq_true rfl) dX1_scaledLevel_93 ?_
          refine lv_iload hx hb dX1_scaledLevel_94 (lv_at hl 1 rfl) ?_
          refine lv_iload_n hx hb dX1_scaledLevel_96 rfl (lv_at hl 4 rfl) ?_
          refine lv_isub hx hb dX1_scaledLevel_97 ?_
          refine lv_imul hx hb dX1_scaledLevel_98 ?_
          refine lv_aload_n hx hb dX1_scaledLevel_99 rfl (lv_at hl 3 rfl) ?_
          refine va_get (D := (dC, dI)) (ci := 1) (v := .ref e1) (C := RX1) (T := TX1) (N := 1) hx hb hts hin_X1 hown hK hP 0 rfl rfl 0 (by decide) hw_1 (fun _ h9 => h9) rfl dX1_scaledLevel_100 ?_
          refine lv_iload hx hb dX1_scaledLevel_103 (lv_at hl 1 rfl) ?_
          refine ra_iald hx hb hK hP 1 rfl ((nR fr n mi j).toNatClampNeg) (i32_cl hr1.1) (Nat.lt_of_lt_of_le (i32_cb hr1.1 hr1.2 hn) hn) (Nat.le_of_ble_eq_true rfl) dX1_scaledLevel_105 ?_
          refine lv_iload_n hx hb dX1_scaledLevel_106 rfl (lv_at hl 4 rfl) ?_
          refine lv_iload hx hb dX1_scaledLevel_107 (lv_at hl 2 rfl) ?_
          refine lv_isub hx hb dX1_scaledLevel_109 ?_
          refine lv_imul hx hb dX1_scaledLevel_110 ?_
          refine lv_iadd hx hb dX1_scaledLevel_111 ?_
          refine lv_imul hx hb dX1_scaledLevel_112 ?_
          rw [hQ]
          exact ra_iretR hx hb hr hlocks rfl (by unfold sLev; rw [if_neg c_37, if_neg c_54, if_pos c_61]) dX1_scaledLevel_113
        · ---- on
          refine lv_bipush (v := 60) hx hb dX1_scaledLevel_64 (by decide) ?_
          refine lv_aload_n hx hb dX1_scaledLevel_66 rfl (lv_at hl 2 rfl) ?_
          refine va_get (D := (dC, dI)) (ci := 1) (v := .ref e1) (C := RX1) (T := TX1) (N := 1) hx hb hts hin_X1 hown hK hP 0 rfl rfl 0 (by decide) hw_1 (fun _ h9 => h9) rfl dX1_scaledLevel_67 ?_
          refine lv_iload hx hb dX1_scaledLevel_70 (lv_at hl 1 rfl) ?_
          refine ra_iald hx hb hK hP 1 rfl ((nL fr n mi j).toNatClampNeg) (i32_cl hl1.1) (Nat.lt_of_lt_of_le (i32_cb hl1.1 hl1.2 hn) hn) (Nat.le_of_ble_eq_true rfl) dX1_scaledLevel_72 ?_
          refine lv_imul hx hb dX1_scaledLevel_73 ?_
          rw [hQ]
          exact ra_iretR hx hb hr hlocks rfl (by unfold sLev; rw [if_neg c_37]; first | (rw [if_pos c_54]; done) | (rw [if_neg c_54, if_neg c_61]; done)) dX1_scaledLevel_74
    · ---- on
      exact absurd c_37 c_23
  · ---- on
    refine lv_iload hx hb dX1_scaledLevel_26 (lv_at hl 0 rfl) ?_
    refine lv_iconst (v := (-1)) hx hb dX1_scaledLevel_28 (by decide) ?_
    refine lv_icmp_ne (tgt := 34) hx hb dX1_scaledLevel_29 (by decide) (fun c_29 => ?_) (fun c_29 => ?_)
    · ---- to 34
      refine lv_iload hx hb dX1_scaledLevel_34 (lv_at hl 1 rfl) ?_
      refine lv_iconst (v := (-1)) hx hb dX1_scaledLevel_36 (by decide) ?_
      refine lv_icmp_ne (tgt := 51) hx hb dX1_scaledLevel_37 (by decide) (fun c_37 => ?_) (fun c_37 => ?_)
      · ---- to 51
        exact absurd c_23 c_37
      · ---- on
        have hr1 := (near_rng fr 1 mi n 7 (nI j)).resolve_left c_29
        refine lv_bipush (v := 60) hx hb dX1_scaledLevel_40 (by decide) ?_
        refine lv_aload_n hx hb dX1_scaledLevel_42 rfl (lv_at hl 2 rfl) ?_
        refine va_get (D := (dC, dI)) (ci := 1) (v := .ref e1) (C := RX1) (T := TX1) (N := 1) hx hb hts hin_X1 hown hK hP 0 rfl rfl 0 (by decide) hw_1 (fun _ h9 => h9) rfl dX1_scaledLevel_43 ?_
        refine lv_iload hx hb dX1_scaledLevel_46 (lv_at hl 0 rfl) ?_
        refine ra_iald hx hb hK hP 1 rfl ((nR fr n mi j).toNatClampNeg) (i32_cl hr1.1) (Nat.lt_of_lt_of_le (i32_cb hr1.1 hr1.2 hn) hn) (Nat.le_of_ble_eq_true rfl) dX1_scaledLevel_48 ?_
        refine lv_imul hx hb dX1_scaledLevel_49 ?_
        rw [hQ]
        exact ra_iretR hx hb hr hlocks rfl (by unfold sLev; rw [if_pos c_37, if_neg c_29]) dX1_scaledLevel_50
    · ---- on
      refine lv_iconst (v := 0) hx hb dX1_scaledLevel_32 (by decide) ?_
      rw [hQ]
      exact ra_iretR hx hb hr hlocks rfl (by unfold sLev; rw [if_pos c_23, if_pos c_29]) dX1_scaledLevel_33

set_option maxHeartbeats 4000000 in
set_option maxRecDepth 100000 in
theorem c_X1_scaledVolume (l : Launch) (dC : Nat → ClassId) (dI : Nat → Nat → Nat) (cyI cyA : ClassId) (e0 e1 : Nat) (fr : FN) (n : Nat) (mi : Int32) (hn : n ≤ 7) : Met l yX1_scaledVolume wsX1_scaledVolume (rm 2) (kR dC dI cyI cyA [.ref e0, .int (nI n), .int mi] [ob e0 1 [.ref e1], ai e1 cyI 7 fr]) (QcRead (sVol fr n mi n 0 0)) 0 0 (fun _ => False) := by
  refine ra_metR (cc := cX1_scaledVolume) (maxL := 5) (by decide) rfl (Nat.le_of_ble_eq_true rfl) ?_
  intro p e s m below meth c args Q hQ hx hb hr hlocks hml hts hown hK hN hP ls hl
  have hl : lv_has ls 5 [(0, .ref e0), (1, .int (nI n)), (2, .int mi)] := hl
  have hown : s.vm.findClass RX1 = some m.cls := hown
  refine lv_iconst (v := 0) hx hb dX1_scaledVolume_0 (by decide) ?_
  refine lv_istore_n (lv' := [(3, .int 0), (0, .ref e0), (1, .int (nI n)), (2, .int mi)]) hx hb dX1_scaledVolume_1 rfl hl (by decide) rfl (fun ls hl => ?_)
  refine lv_iconst (v := 0) hx hb dX1_scaledVolume_2 (by decide) ?_
  refine lv_istore (lv' := [(4, .int 0), (3, .int 0), (0, .ref e0), (1, .int (nI n)), (2, .int mi)]) hx hb dX1_scaledVolume_3 hl (by decide) rfl (fun ls hl => ?_)
  have L_5 : ∀ (n9 : Nat) (i : Nat) (x : Int32), (i ≤ n) → (sVol fr n mi (n - i) i x = sVol fr n mi n 0 0) → (n - i) < n9 → ∀ ls : Array Slot, lv_has ls 5 [(0, .ref e0), (1, .int (nI n)), (2, .int mi), (3, .int x), (4, .int (nI i))] → W p l e (rm 2) s m args below meth c s.heap [] 0 0 Q (F0 m 5 ls []) := by
    intro n9
    induction n9 with
    | zero =>
      intro i x hi he hm9
      exact absurd hm9 (Nat.not_lt_zero _)
    | succ n9 ih_5 =>
      intro i x hi he hm9 ls hl
      refine lv_iload hx hb dX1_scaledVolume_5 (lv_at hl 4 rfl) ?_
      refine lv_iload_n hx hb dX1_scaledVolume_7 rfl (lv_at hl 1 rfl) ?_
      refine lv_icmp_ge (tgt := 28) hx hb dX1_scaledVolume_8 (by decide) (fun c_8 => ?_) (fun c_8 => ?_)
      · ---- to 28
        have n_8 := (nq_le n i (by omega) (by omega)).mp c_8
        refine lv_iload_n hx hb dX1_scaledVolume_28 rfl (lv_at hl 3 rfl) ?_
        rw [hQ]
        exact ra_iretR hx hb hr hlocks rfl (by rw [← he, show n - i = 0 by omega]; rfl) dX1_scaledVolume_29
      · ---- on
        have n_8 := (nq_le_n n i (by omega) (by omega)).mp c_8
        refine lv_iload_n hx hb dX1_scaledVolume_11 rfl (lv_at hl 3 rfl) ?_
        refine lv_aload_n hx hb dX1_scaledVolume_12 rfl (lv_at hl 0 rfl) ?_
        refine lv_iload hx hb dX1_scaledVolume_13 (lv_at hl 4 rfl) ?_
        refine lv_iload_n hx hb dX1_scaledVolume_15 rfl (lv_at hl 1 rfl) ?_
        refine lv_iload_n hx hb dX1_scaledVolume_16 rfl (lv_at hl 2 rfl) ?_
        refine ra_cR (q := (RX1, TX1, 1)) (ci := 1) (As := [.int (nI i), .int (nI n), .int mi]) (rest := [.int x]) (wc := [ob e0 1 [.ref e1], ai e1 cyI 7 fr]) ⟨hx, hb, hml, hown, hts⟩ (c_X1_scaledLevel l dC dI cyI cyA e0 e1 fr i n mi (by omega)) (cwV 3 hts gX1_scaledVolume_X1_scaledLevel rfl rfl rfl (by decide +kernel) ⟨Nat.le_of_ble_eq_true rfl, Nat.le_of_ble_eq_true rfl⟩) hK hN hP [0, 1] rfl rfl rfl rfl hl.1 rfl (Nat.le_of_ble_eq_true rfl) dX1_scaledVolume_17 ⟨Nat.le_of_ble_eq_true rfl, Nat.le_of_ble_eq_true rfl⟩ ?_
        refine lv_iadd hx hb dX1_scaledVolume_20 ?_
        refine lv_istore_n (lv' := [(3, .int (x + (sLev fr n mi i))), (0, .ref e0), (1, .int (nI n)), (2, .int mi), (4, .int (nI i))]) hx hb dX1_scaledVolume_21 rfl hl (by decide) rfl (fun ls hl => ?_)
        refine lv_iinc (v := nI (i + 1)) (lv' := [(4, .int (nI (i + 1))), (3, .int (x + (sLev fr n mi i))), (0, .ref e0), (1, .int (nI n)), (2, .int mi)]) hx hb dX1_scaledVolume_22 hl (k := 4) rfl (ra_inc1 _) (by decide) rfl (fun ls hl => ?_)
        refine lv_goto (tgt := 5) hx hb dX1_scaledVolume_25 (by decide) ?_
        exact ih_5 (i + 1) (x + (sLev fr n mi i)) (by omega) (by rw [← he, show n - i = n - (i + 1) + 1 by omega]; rfl) (by omega) ls (lv_sub hl [2, 3, 4, 1, 0] rfl)
  exact L_5 _ 0 0 (by omega) rfl (Nat.lt_succ_self _) ls (lv_sub hl [2, 3, 4, 1, 0] rfl)

set_option maxHeartbeats 4000000 in
set_option maxRecDepth 100000 in
theorem c_X1_scaledDoubt (l : Launch) (dC : Nat → ClassId) (dI : Nat → Nat → Nat) (cyI cyA : ClassId) (e0 e1 : Nat) (fr : FN) (n : Nat) (hn : n ≤ 7) : Met l yX1_scaledDoubt wsX1_scaledDoubt (rm 3) (kR dC dI cyI cyA [.ref e0, .int (nI n)] [ob e0 1 [.ref e1], ai e1 cyI 7 fr]) (QcRead (sDbt fr n (sVol fr n (-1) n 0 0) n 0 0)) 0 0 (fun _ => False) := by
  refine ra_metR (cc := cX1_scaledDoubt) (maxL := 5) (by decide) rfl (Nat.le_of_ble_eq_true rfl) ?_
  intro p e s m below meth c args Q hQ hx hb hr hlocks hml hts hown hK hN hP ls hl
  have hl : lv_has ls 5 [(0, .ref e0), (1, .int (nI n))] := hl
  have hown : s.vm.findClass RX1 = some m.cls := hown
  have hw_1 := hts (.fieldLink RX1 9 "DuneBench$Survey" "reading" "[I") (by decide +kernel)
  have hin_X1 : ∀ w ∈ u_ws RX1 TX1 1, w ∈ wsX1_scaledDoubt := by decide +kernel
  have hw_3 := hts (.methodLink RX1 30 Lib.Math.abs.name) (by decide +kernel)
  have hw_4 := hts (.static Lib.Math.abs.name) (by decide +kernel)
  have hw_5 := hts (.initialized "java/lang/Math") (by decide +kernel)
  have hw_6 := hts (.code Lib.Math.abs.name Lib.Math.abs.code 1 (some .int)) (by decide +kernel)
  have hw_7 := hts (.methodLink RX1 36 Lib.Math.max.name) (by decide +kernel)
  have hw_8 := hts (.static Lib.Math.max.name) (by decide +kernel)
  have hw_9 := hts (.code Lib.Math.max.name Lib.Math.max.code 2 (some .int)) (by decide +kernel)
  refine lv_aload_n hx hb dX1_scaledDoubt_0 rfl (lv_at hl 0 rfl) ?_
  refine lv_iload_n hx hb dX1_scaledDoubt_1 rfl (lv_at hl 1 rfl) ?_
  refine lv_iconst (v := (-1)) hx hb dX1_scaledDoubt_2 (by decide) ?_
  refine ra_cR (q := (RX1, TX1, 1)) (ci := 1) (As := [.int (nI n), .int (-1)]) (rest := []) (wc := [ob e0 1 [.ref e1], ai e1 cyI 7 fr]) ⟨hx, hb, hml, hown, hts⟩ (c_X1_scaledVolume l dC dI cyI cyA e0 e1 fr n (-1) (by omega)) (cwV 2 hts gX1_scaledDoubt_X1_scaledVolume rfl rfl rfl (by decide +kernel) ⟨Nat.le_of_ble_eq_true rfl, Nat.le_of_ble_eq_true rfl⟩) hK hN hP [0, 1] rfl rfl rfl rfl hl.1 rfl (Nat.le_of_ble_eq_true rfl) dX1_scaledDoubt_3 ⟨Nat.le_of_ble_eq_true rfl, Nat.le_of_ble_eq_true rfl⟩ ?_
  refine lv_istore_n (lv' := [(2, .int (sVol fr n (-1) n 0 0)), (0, .ref e0), (1, .int (nI n))]) hx hb dX1_scaledDoubt_6 rfl hl (by decide) rfl (fun ls hl => ?_)
  refine lv_iconst (v := 0) hx hb dX1_scaledDoubt_7 (by decide) ?_
  refine lv_istore_n (lv' := [(3, .int 0), (2, .int (sVol fr n (-1) n 0 0)), (0, .ref e0), (1, .int (nI n))]) hx hb dX1_scaledDoubt_8 rfl hl (by decide) rfl (fun ls hl => ?_)
  refine lv_iconst (v := 0) hx hb dX1_scaledDoubt_9 (by decide) ?_
  refine lv_istore (lv' := [(4, .int 0), (3, .int 0), (2, .int (sVol fr n (-1) n 0 0)), (0, .ref e0), (1, .int (nI n))]) hx hb dX1_scaledDoubt_10 hl (by decide) rfl (fun ls hl => ?_)
  have L_12 : ∀ (n9 : Nat) (i : Nat) (x : Int32), (i ≤ n) → (sDbt fr n (sVol fr n (-1) n 0 0) (n - i) i x = sDbt fr n (sVol fr n (-1) n 0 0) n 0 0) → (n - i) < n9 → ∀ ls : Array Slot, lv_has ls 5 [(0, .ref e0), (1, .int (nI n)), (2, .int (sVol fr n (-1) n 0 0)), (3, .int x), (4, .int (nI i))] → W p l e (rm 3) s m args below meth c s.heap [] 0 0 Q (F0 m 12 ls []) := by
    intro n9
    induction n9 with
    | zero =>
      intro i x hi he hm9
      exact absurd hm9 (Nat.not_lt_zero _)
    | succ n9 ih_12 =>
      intro i x hi he hm9 ls hl
      refine lv_iload hx hb dX1_scaledDoubt_12 (lv_at hl 4 rfl) ?_
      refine lv_iload_n hx hb dX1_scaledDoubt_14 rfl (lv_at hl 1 rfl) ?_
      refine lv_icmp_ge (tgt := 52) hx hb dX1_scaledDoubt_15 (by decide) (fun c_15 => ?_) (fun c_15 => ?_)
      · ---- to 52
        have n_15 := (nq_le n i (by omega) (by omega)).mp c_15
        refine lv_iload_n hx hb dX1_scaledDoubt_52 rfl (lv_at hl 3 rfl) ?_
        rw [hQ]
        exact ra_iretR hx hb hr hlocks rfl (by rw [← he, show n - i = 0 by omega]; rfl) dX1_scaledDoubt_53
      · ---- on
        have n_15 := (nq_le_n n i (by omega) (by omega)).mp c_15
        refine lv_aload_n hx hb dX1_scaledDoubt_18 rfl (lv_at hl 0 rfl) ?_
        refine va_get (D := (dC, dI)) (ci := 1) (v := .ref e1) (C := RX1) (T := TX1) (N := 1) hx hb hts hin_X1 hown hK hP 0 rfl rfl 0 (by decide) hw_1 (fun _ h9 => h9) rfl dX1_scaledDoubt_19 ?_
        refine lv_iload hx hb dX1_scaledDoubt_22 (lv_at hl 4 rfl) ?_
        refine ra_iald hx hb hK hP 1 rfl i rfl (by omega) (Nat.le_of_ble_eq_true rfl) dX1_scaledDoubt_24 ?_
        refine lv_iconst (v := (-1)) hx hb dX1_scaledDoubt_25 (by decide) ?_
        refine lv_icmp_eq (tgt := 46) hx hb dX1_scaledDoubt_26 (by decide) (fun c_26 => ?_) (fun c_26 => ?_)
        · ---- to 46
          refine lv_iinc (v := nI (i + 1)) (lv' := [(4, .int (nI (i + 1))), (0, .ref e0), (1, .int (nI n)), (2, .int (sVol fr n (-1) n 0 0)), (3, .int x)]) hx hb dX1_scaledDoubt_46 hl (k := 4) rfl (ra_inc1 _) (by decide) rfl (fun ls hl => ?_)
          refine lv_goto (tgt := 12) hx hb dX1_scaledDoubt_49 (by decide) ?_
          exact ih_12 (i + 1) x (by omega) (by rw [← he, show n - i = n - (i + 1) + 1 by omega]; show _ = sDbt fr n _ _ _ (if _ then _ else _); first | rw [if_pos c_26] | rw [if_neg c_26]) (by omega) ls (lv_sub hl [1, 2, 3, 4, 0] rfl)
        · ---- on
          refine lv_iload_n hx hb dX1_scaledDoubt_29 rfl (lv_at hl 3 rfl) ?_
          refine lv_aload_n hx hb dX1_scaledDoubt_30 rfl (lv_at hl 0 rfl) ?_
          refine lv_iload_n hx hb dX1_scaledDoubt_31 rfl (lv_at hl 1 rfl) ?_
          refine lv_iload hx hb dX1_scaledDoubt_32 (lv_at hl 4 rfl) ?_
          refine ra_cR (q := (RX1, TX1, 1)) (ci := 1) (As := [.int (nI n), .int (nI i)]) (rest := [.int x]) (wc := [ob e0 1 [.ref e1], ai e1 cyI 7 fr]) ⟨hx, hb, hml, hown, hts⟩ (c_X1_scaledVolume l dC dI cyI cyA e0 e1 fr n (nI i) (by omega)) (cwV 2 hts gX1_scaledDoubt_X1_scaledVolume rfl rfl rfl (by decide +kernel) ⟨Nat.le_of_ble_eq_true rfl, Nat.le_of_ble_eq_true rfl⟩) hK hN hP [0, 1] rfl rfl rfl rfl hl.1 rfl (Nat.le_of_ble_eq_true rfl) dX1_scaledDoubt_34 ⟨Nat.le_of_ble_eq_true rfl, Nat.le_of_ble_eq_true rfl⟩ ?_
          refine lv_iload_n hx hb dX1_scaledDoubt_37 rfl (lv_at hl 2 rfl) ?_
          refine lv_isub hx hb dX1_scaledDoubt_38 ?_
          refine va_mabs hx hb (hml.trans hl.1.symm) hown hw_3 hw_4 hw_5 hw_6 (Nat.le_of_ble_eq_true rfl) (Nat.le_of_ble_eq_true rfl) (Nat.le_of_ble_eq_true rfl) (Nat.le_of_ble_eq_true rfl) dX1_scaledDoubt_39 ?_
          refine ra_top (jabs ((sVol fr n (nI i) n 0 0) - (sVol fr n (-1) n 0 0))) rfl ?_
          refine va_mmax hx hb (hml.trans hl.1.symm) hown hw_7 hw_8 hw_5 hw_9 (Nat.le_of_ble_eq_true rfl) (Nat.le_of_ble_eq_true rfl) (Nat.le_of_ble_eq_true rfl) (Nat.le_of_ble_eq_true rfl) dX1_scaledDoubt_42 ?_
          refine ra_top (jmax x (jabs ((sVol fr n (nI i) n 0 0) - (sVol fr n (-1) n 0 0)))) rfl ?_
          refine lv_istore_n (lv' := [(3, .int (jmax x (jabs ((sVol fr n (nI i) n 0 0) - (sVol fr n (-1) n 0 0))))), (0, .ref e0), (1, .int (nI n)), (2, .int (sVol fr n (-1) n 0 0)), (4, .int (nI i))]) hx hb dX1_scaledDoubt_45 rfl hl (by decide) rfl (fun ls hl => ?_)
          refine lv_iinc (v := nI (i + 1)) (lv' := [(4, .int (nI (i + 1))), (3, .int (jmax x (jabs ((sVol fr n (nI i) n 0 0) - (sVol fr n (-1) n 0 0))))), (0, .ref e0), (1, .int (nI n)), (2, .int (sVol fr n (-1) n 0 0))]) hx hb dX1_scaledDoubt_46 hl (k := 4) rfl (ra_inc1 _) (by decide) rfl (fun ls hl => ?_)
          refine lv_goto (tgt := 12) hx hb dX1_scaledDoubt_49 (by decide) ?_
          exact ih_12 (i + 1) (jmax x (jabs ((sVol fr n (nI i) n 0 0) - (sVol fr n (-1) n 0 0)))) (by omega) (by rw [← he, show n - i = n - (i + 1) + 1 by omega]; show _ = sDbt fr n _ _ _ (if _ then _ else _); first | rw [if_pos c_26] | rw [if_neg c_26]) (by omega) ls (lv_sub hl [2, 3, 4, 1, 0] rfl)
  exact L_12 _ 0 0 (by omega) rfl (Nat.lt_succ_self _) ls (lv_sub hl [3, 4, 2, 1, 0] rfl)

set_option maxHeartbeats 4000000 in
set_option maxRecDepth 100000 in
theorem c_X2_add (l : Launch) (dC : Nat → ClassId) (dI : Nat → Nat → Nat) (cyI cyA : ClassId) (d0 d1 d2 d3 : Nat) (ct : Nat → Nat) (fK fV : Nat → Option Nat) (w : Nat) (xk xv : Int32) (kr vr : Nat) (kw vw : FN) (hw : w < 3) (hc : ct w < 12) (hfk : fK w = some kr) (hfv : fV w = some vr) (sz : Nat) : Met l yX2_add wsX2_add (rm 0) (kW dC dI cyI cyA [.ref d0, .int (nI w), .int xk, .int xv] sz [ob d0 2 [.ref d1, .ref d2, .ref d3], ai d1 cyI 3 (nF ct), aa d2 cyA 3 fK, aa d3 cyA 3 fV, ai kr cyI 12 kw, ai vr cyI 12 vw]) (qI dC dI cyI cyA (fun (r : Int32) (_ : Unit) => r = nI (ct w + 1)) (va_A [ob d0 2 [.ref d1, .ref d2, .ref d3], ai d1 cyI 3 (nF ct), aa d2 cyA 3 fK, aa d3 cyA 3 fV, ai kr cyI 12 kw, ai vr cyI 12 vw] sz) (fun _ => [ob d0 2 [.ref d1, .ref d2, .ref d3], ai d1 cyI 3 (nF (va_up ct w (ct w + 1))), aa d2 cyA 3 fK, aa d3 cyA 3 fV, ai kr cyI 12 (upd kw (ct w) xk), ai vr cyI 12 (upd vw (ct w) xv)])) 0 0 (va_A [ob d0 2 [.ref d1, .ref d2, .ref d3], ai d1 cyI 3 (nF ct), aa d2 cyA 3 fK, aa d3 cyA 3 fV, ai kr cyI 12 kw, ai vr cyI 12 vw] sz) := by
  refine ra_metW (cc := cX2_add) (maxL := 5) (Qc := fun A => qI dC dI cyI cyA (fun (r : Int32) (_ : Unit) => r = nI (ct w + 1)) A (fun _ => [ob d0 2 [.ref d1, .ref d2, .ref d3], ai d1 cyI 3 (nF (va_up ct w (ct w + 1))), aa d2 cyA 3 fK, aa d3 cyA 3 fV, ai kr cyI 12 (upd kw (ct w) xk), ai vr cyI 12 (upd vw (ct w) xv)])) (by decide) rfl (Nat.le_of_ble_eq_true rfl) ?_
  intro p e s m below meth c A args Q hQ hx hb hr hlocks hml hts hown hnm hK hN hP hD hA hS ls hl
  have hl : lv_has ls 5 [(0, .ref d0), (1, .int (nI w)), (2, .int xk), (3, .int xv)] := hl
  have hown : s.vm.findClass RX2 = some m.cls := hown
  have hw_1 := hts (.fieldLink RX2 9 "DuneBench$Weathers" "count" "[I") (by decide +kernel)
  have hin_X2 : ∀ w ∈ u_ws RX2 TX2 3, w ∈ wsX2_add := by decide +kernel
  have hw_3 := hts (.fieldLink RX2 17 "DuneBench$Weathers" "kind" "[[I") (by decide +kernel)
  have hw_4 := hts (.fieldLink RX2 20 "DuneBench$Weathers" "value" "[[I") (by decide +kernel)
  obtain ⟨H, hHe⟩ : ∃ H, H = s.heap := ⟨_, rfl⟩
  obtain ⟨locs, hLe⟩ : ∃ locs : List Loc, locs = [] := ⟨_, rfl⟩
  have hP : va_P (dC, dI) vwCl [ob d0 2 [.ref d1, .ref d2, .ref d3], ai d1 cyI 3 (nF ct), aa d2 cyA 3 fK, aa d3 cyA 3 fV, ai kr cyI 12 kw, ai vr cyI 12 vw] H := by rw [hHe]; exact hP
  have hS : va_S A s.heap H locs := by rw [hHe, hLe]; exact hS
  suffices hgo : W p l e (rm 0) s m args below meth c H locs 0 0 Q (F0 m 0 ls []) by rw [hHe, hLe] at hgo; exact hgo
  refine lv_aload_n hx hb dX2_add_0 rfl (lv_at hl 0 rfl) ?_
  refine va_get (D := (dC, dI)) (ci := 2) (v := .ref d1) (C := RX2) (T := TX2) (N := 3) hx hb hts hin_X2 hown hK hP 0 rfl rfl 0 (by decide) hw_1 (fun _ h9 => h9) rfl dX2_add_1 ?_
  refine lv_iload_n hx hb dX2_add_4 rfl (lv_at hl 1 rfl) ?_
  refine ra_iald hx hb hK hP 1 rfl w rfl (by omega) (Nat.le_of_ble_eq_true rfl) dX2_add_5 ?_
  refine ra_top (nI (ct w)) rfl ?_
  refine lv_istore (lv' := [(4, .int (nI (ct w))), (0, .ref d0), (1, .int (nI w)), (2, .int xk), (3, .int xv)]) hx hb dX2_add_6 hl (by decide) rfl (fun ls hl => ?_)
  refine lv_aload_n hx hb dX2_add_8 rfl (lv_at hl 1 rfl) ?_
  refine va_get (D := (dC, dI)) (ci := 2) (v := .ref d2) (C := RX2) (T := TX2) (N := 3) hx hb hts hin_X2 hown hK hP 0 rfl rfl 1 (by decide) hw_3 (fun _ h9 => h9) rfl dX2_add_9 ?_
  refine lv_iload_n hx hb dX2_add_12 rfl (lv_at hl 2 rfl) ?_
  refine ra_aald (b := kr) hx hb hK hP 2 rfl w rfl (by omega) (Nat.le_of_ble_eq_true rfl) hfk dX2_add_13 ?_
  refine lv_iload hx hb dX2_add_14 (lv_at hl 0 rfl) ?_
  refine lv_iload_n hx hb dX2_add_16 rfl (lv_at hl 3 rfl) ?_
  refine ra_iast hx hb hK hP hD hS 4 rfl (ct w) rfl (by omega) (Nat.le_of_ble_eq_true rfl) dX2_add_17 (fun H locs hP hD hS => ?_)
  have hP : va_P (dC, dI) vwCl [ob d0 2 [.ref d1, .ref d2, .ref d3], ai d1 cyI 3 (nF ct), aa d2 cyA 3 fK, aa d3 cyA 3 fV, ai kr cyI 12 (upd kw (ct w) xk), ai vr cyI 12 vw] H := hP
  have hD : va_D A [ob d0 2 [.ref d1, .ref d2, .ref d3], ai d1 cyI 3 (nF ct), aa d2 cyA 3 fK, aa d3 cyA 3 fV, ai kr cyI 12 (upd kw (ct w) xk), ai vr cyI 12 vw] := hD
  refine lv_aload_n hx hb dX2_add_18 rfl (lv_at hl 1 rfl) ?_
  refine va_get (D := (dC, dI)) (ci := 2) (v := .ref d3) (C := RX2) (T := TX2) (N := 3) hx hb hts hin_X2 hown hK hP 0 rfl rfl 2 (by decide) hw_4 (fun _ h9 => h9) rfl dX2_add_19 ?_
  refine lv_iload_n hx hb dX2_add_22 rfl (lv_at hl 2 rfl) ?_
  refine ra_aald (b := vr) hx hb hK hP 3 rfl w rfl (by omega) (Nat.le_of_ble_eq_true rfl) hfv dX2_add_23 ?_
  refine lv_iload hx hb dX2_add_24 (lv_at hl 0 rfl) ?_
  refine lv_iload_n hx hb dX2_add_26 rfl (lv_at hl 4 rfl) ?_
  refine ra_iast hx hb hK hP hD hS 5 rfl (ct w) rfl (by omega) (Nat.le_of_ble_eq_true rfl) dX2_add_27 (fun H locs hP hD hS => ?_)
  have hP : va_P (dC, dI) vwCl [ob d0 2 [.ref d1, .ref d2, .ref d3], ai d1 cyI 3 (nF ct), aa d2 cyA 3 fK, aa d3 cyA 3 fV, ai kr cyI 12 (upd kw (ct w) xk), ai vr cyI 12 (upd vw (ct w) xv)] H := hP
  have hD : va_D A [ob d0 2 [.ref d1, .ref d2, .ref d3], ai d1 cyI 3 (nF ct), aa d2 cyA 3 fK, aa d3 cyA 3 fV, ai kr cyI 12 (upd kw (ct w) xk), ai vr cyI 12 (upd vw (ct w) xv)] := hD
  refine lv_aload_n hx hb dX2_add_28 rfl (lv_at hl 1 rfl) ?_
  refine va_get (D := (dC, dI)) (ci := 2) (v := .ref d1) (C := RX2) (T := TX2) (N := 3) hx hb hts hin_X2 hown hK hP 0 rfl rfl 0 (by decide) hw_1 (fun _ h9 => h9) rfl dX2_add_29 ?_
  refine lv_iload_n hx hb dX2_add_32 rfl (lv_at hl 2 rfl) ?_
  refine lv_iload hx hb dX2_add_33 (lv_at hl 0 rfl) ?_
  refine lv_iconst (v := 1) hx hb dX2_add_35 (by decide) ?_
  refine lv_iadd hx hb dX2_add_36 ?_
  refine ra_top (nI (ct w + 1)) (nI_add (ct w) 1) ?_
  refine ra_iast hx hb hK hP hD hS 1 rfl w rfl (by omega) (Nat.le_of_ble_eq_true rfl) dX2_add_37 (fun H locs hP hD hS => ?_)
  rw [nF_wr ct w (ct w + 1)] at hP hD
  have hP : va_P (dC, dI) vwCl [ob d0 2 [.ref d1, .ref d2, .ref d3], ai d1 cyI 3 (nF (va_up ct w (ct w + 1))), aa d2 cyA 3 fK, aa d3 cyA 3 fV, ai kr cyI 12 (upd kw (ct w) xk), ai vr cyI 12 (upd vw (ct w) xv)] H := hP
  have hD : va_D A [ob d0 2 [.ref d1, .ref d2, .ref d3], ai d1 cyI 3 (nF (va_up ct w (ct w + 1))), aa d2 cyA 3 fK, aa d3 cyA 3 fV, ai kr cyI 12 (upd kw (ct w) xk), ai vr cyI 12 (upd vw (ct w) xv)] := hD
  refine lv_iload hx hb dX2_add_38 (lv_at hl 0 rfl) ?_
  refine lv_iconst (v := 1) hx hb dX2_add_40 (by decide) ?_
  refine lv_iadd hx hb dX2_add_41 ?_
  refine ra_top (nI (ct w + 1)) (nI_add (ct w) 1) ?_
  rw [hQ]
  exact ra_iretW () hx hb hr hlocks rfl hK hP hD hS rfl dX2_add_42

set_option maxHeartbeats 4000000 in
set_option maxRecDepth 100000 in
theorem c_X2_any (l : Launch) (dC : Nat → ClassId) (dI : Nat → Nat → Nat) (cyI cyA : ClassId) (d0 d1 d2 d3 : Nat) (ct : Nat → Nat) (fK fV : Nat → Option Nat) (hct : ∀ w, w < 3 → ct w ≤ 12) : Met l yX2_any wsX2_any (rm 0) (kR dC dI cyI cyA [.ref d0] [ob d0 2 [.ref d1, .ref d2, .ref d3], ai d1 cyI 3 (nF ct), aa d2 cyA 3 fK, aa d3 cyA 3 fV]) (QcRead (bi (0 < ct 0 ∨ 0 < ct 1 ∨ 0 < ct 2))) 0 0 (fun _ => False) := by
  refine ra_metR (cc := cX2_any) (maxL := 2) (by decide) rfl (Nat.le_of_ble_eq_true rfl) ?_
  intro p e s m below meth c args Q hQ hx hb hr hlocks hml hts hown hK hN hP ls hl
  have hl : lv_has ls 2 [(0, .ref d0)] := hl
  have hown : s.vm.findClass RX2 = some m.cls := hown
  have hw_1 := hts (.fieldLink RX2 9 "DuneBench$Weathers" "count" "[I") (by decide +kernel)
  have hin_X2 : ∀ w ∈ u_ws RX2 TX2 3, w ∈ wsX2_any := by decide +kernel
  have h0 := hct 0 (by omega)
  have h1 := hct 1 (by omega)
  have h2 := hct 2 (by omega)
  refine lv_iconst (v := 0) hx hb dX2_any_0 (by decide) ?_
  refine lv_istore_n (lv' := [(1, .int 0), (0, .ref d0)]) hx hb dX2_any_1 rfl hl (by decide) rfl (fun ls hl => ?_)
  refine lv_iload_n hx hb dX2_any_2 rfl (lv_at hl 0 rfl) ?_
  refine lv_iconst (v := 3) hx hb dX2_any_3 (by decide) ?_
  refine lv_icmp_ge (tgt := 24) hx hb dX2_any_4 (by decide) (fun c_4 => ?_) (fun c_4 => ?_)
  · ---- to 24
    exact absurd c_4 (by decide)
  · ---- on
    refine lv_aload_n hx hb dX2_any_7 rfl (lv_at hl 1 rfl) ?_
    refine va_get (D := (dC, dI)) (ci := 2) (v := .ref d1) (C := RX2) (T := TX2) (N := 3) hx hb hts hin_X2 hown hK hP 0 rfl rfl 0 (by decide) hw_1 (fun _ h9 => h9) rfl dX2_any_8 ?_
    refine lv_iload_n hx hb dX2_any_11 rfl (lv_at hl 0 rfl) ?_
    refine ra_iald hx hb hK hP 1 rfl 0 rfl (by omega) (Nat.le_of_ble_eq_true rfl) dX2_any_12 ?_
    refine ra_top (nI (ct 0)) rfl ?_
    refine lv_if_le (tgt := 18) hx hb dX2_any_13 (by decide) (fun c_13 => ?_) (fun c_13 => ?_)
    · ---- to 18
      have n_13 := (nq_le (ct 0) 0 (by omega) (by omega)).mp c_13
      refine lv_iinc (v := 1) (lv' := [(1, .int 1), (0, .ref d0)]) hx hb dX2_any_18 hl (k := 0) rfl (by decide) (by decide) rfl (fun ls hl => ?_)
      refine lv_goto (tgt := 2) hx hb dX2_any_21 (by decide) ?_
      refine lv_iload_n hx hb dX2_any_2 rfl (lv_at hl 0 rfl) ?_
      refine lv_iconst (v := 3) hx hb dX2_any_3 (by decide) ?_
      refine lv_icmp_ge (tgt := 24) hx hb dX2_any_4 (by decide) (fun c_4_2 => ?_) (fun c_4_2 => ?_)
      · ---- to 24
        exact absurd c_4_2 (by decide)
      · ---- on
        refine lv_aload_n hx hb dX2_any_7 rfl (lv_at hl 1 rfl) ?_
        refine va_get (D := (dC, dI)) (ci := 2) (v := .ref d1) (C := RX2) (T := TX2) (N := 3) hx hb hts hin_X2 hown hK hP 0 rfl rfl 0 (by decide) hw_1 (fun _ h9 => h9) rfl dX2_any_8 ?_
        refine lv_iload_n hx hb dX2_any_11 rfl (lv_at hl 0 rfl) ?_
        refine ra_iald hx hb hK hP 1 rfl 1 rfl (by omega) (Nat.le_of_ble_eq_true rfl) dX2_any_12 ?_
        refine ra_top (nI (ct 1)) rfl ?_
        refine lv_if_le (tgt := 18) hx hb dX2_any_13 (by decide) (fun c_13_2 => ?_) (fun c_13_2 => ?_)
        · ---- to 18
          have n_13_2 := (nq_le (ct 1) 0 (by omega) (by omega)).mp c_13_2
          refine lv_iinc (v := 2) (lv' := [(1, .int 2), (0, .ref d0)]) hx hb dX2_any_18 hl (k := 0) rfl (by decide) (by decide) rfl (fun ls hl => ?_)
          refine lv_goto (tgt := 2) hx hb dX2_any_21 (by decide) ?_
          refine lv_iload_n hx hb dX2_any_2 rfl (lv_at hl 0 rfl) ?_
          refine lv_iconst (v := 3) hx hb dX2_any_3 (by decide) ?_
          refine lv_icmp_ge (tgt := 24) hx hb dX2_any_4 (by decide) (fun c_4_3 => ?_) (fun c_4_3 => ?_)
          · ---- to 24
            exact absurd c_4_3 (by decide)
          · ---- on
            refine lv_aload_n hx hb dX2_any_7 rfl (lv_at hl 1 rfl) ?_
            refine va_get (D := (dC, dI)) (ci := 2) (v := .ref d1) (C := RX2) (T := TX2) (N := 3) hx hb hts hin_X2 hown hK hP 0 rfl rfl 0 (by decide) hw_1 (fun _ h9 => h9) rfl dX2_any_8 ?_
            refine lv_iload_n hx hb dX2_any_11 rfl (lv_at hl 0 rfl) ?_
            refine ra_iald hx hb hK hP 1 rfl 2 rfl (by omega) (Nat.le_of_ble_eq_true rfl) dX2_any_12 ?_
            refine ra_top (nI (ct 2)) rfl ?_
            refine lv_if_le (tgt := 18) hx hb dX2_any_13 (by decide) (fun c_13_3 => ?_) (fun c_13_3 => ?_)
            · ---- to 18
              have n_13_3 := (nq_le (ct 2) 0 (by omega) (by omega)).mp c_13_3
              refine lv_iinc (v := 3) (lv' := [(1, .int 3), (0, .ref d0)]) hx hb dX2_any_18 hl (k := 0) rfl (by decide) (by decide) rfl (fun ls hl => ?_)
              refine lv_goto (tgt := 2) hx hb dX2_any_21 (by decide) ?_
              refine lv_iload_n hx hb dX2_any_2 rfl (lv_at hl 0 rfl) ?_
              refine lv_iconst (v := 3) hx hb dX2_any_3 (by decide) ?_
              refine lv_icmp_ge (tgt := 24) hx hb dX2_any_4 (by decide) (fun c_4_4 => ?_) (fun c_4_4 => ?_)
              · ---- to 24
                refine lv_iconst (v := 0) hx hb dX2_any_24 (by decide) ?_
                rw [hQ]
                exact ra_iretR hx hb hr hlocks rfl (bi_f (by omega)) dX2_any_25
              · ---- on
                exact absurd c_4_4 (by decide)
            · ---- on
              have n_13_3 := (nq_le_n (ct 2) 0 (by omega) (by omega)).mp c_13_3
              refine lv_iconst (v := 1) hx hb dX2_any_16 (by decide) ?_
              rw [hQ]
              exact ra_iretR hx hb hr hlocks rfl (bi_t (by omega)) dX2_any_17
        · ---- on
          have n_13_2 := (nq_le_n (ct 1) 0 (by omega) (by omega)).mp c_13_2
          refine lv_iconst (v := 1) hx hb dX2_any_16 (by decide) ?_
          rw [hQ]
          exact ra_iretR hx hb hr hlocks rfl (bi_t (by omega)) dX2_any_17
    · ---- on
      have n_13 := (nq_le_n (ct 0) 0 (by omega) (by omega)).mp c_13
      refine lv_iconst (v := 1) hx hb dX2_any_16 (by decide) ?_
      rw [hQ]
      exact ra_iretR hx hb hr hlocks rfl (bi_t (by omega)) dX2_any_17

set_option maxHeartbeats 4000000 in
set_option maxRecDepth 100000 in
theorem c_X2_yearEnds (l : Launch) (dC : Nat → ClassId) (dI : Nat → Nat → Nat) (cyI cyA : ClassId) (d0 d1 d2 d3 : Nat) (ct : Nat → Nat) (fK fV : Nat → Option Nat) (w kr : Nat) (kw : FN) (hw : w < 3) (hc : ct w ≤ 12) (hfk : fK w = some kr) : Met l yX2_yearEnds wsX2_yearEnds (rm 0) (kR dC dI cyI cyA [.ref d0, .int (nI w)] [ob d0 2 [.ref d1, .ref d2, .ref d3], ai d1 cyI 3 (nF ct), aa d2 cyA 3 fK, aa d3 cyA 3 fV, ai kr cyI 12 kw]) (QcRead (nI (cntY kw (ct w) 0 0))) 0 0 (fun _ => False) := by
  refine ra_metR (cc := cX2_yearEnds) (maxL := 4) (by decide) rfl (Nat.le_of_ble_eq_true rfl) ?_
  intro p e s m below meth c args Q hQ hx hb hr hlocks hml hts hown hK hN hP ls hl
  have hl : lv_has ls 4 [(0, .ref d0), (1, .int (nI w))] := hl
  have hown : s.vm.findClass RX2 = some m.cls := hown
  have hw_1 := hts (.fieldLink RX2 9 "DuneBench$Weathers" "count" "[I") (by decide +kernel)
  have hin_X2 : ∀ w ∈ u_ws RX2 TX2 3, w ∈ wsX2_yearEnds := by decide +kernel
  have hw_3 := hts (.fieldLink RX2 17 "DuneBench$Weathers" "kind" "[[I") (by decide +kernel)
  refine lv_iconst (v := 0) hx hb dX2_yearEnds_0 (by decide) ?_
  refine lv_istore_n (lv' := [(2, .int 0), (0, .ref d0), (1, .int (nI w))]) hx hb dX2_yearEnds_1 rfl hl (by decide) rfl (fun ls hl => ?_)
  refine lv_iconst (v := 0) hx hb dX2_yearEnds_2 (by decide) ?_
  refine lv_istore_n (lv' := [(3, .int 0), (2, .int 0), (0, .ref d0), (1, .int (nI w))]) hx hb dX2_yearEnds_3 rfl hl (by decide) rfl (fun ls hl => ?_)
  have L_4 : ∀ (n9 : Nat) (i : Nat) (x : Nat), (i ≤ ct w) → (cntY kw (ct w - i) i x = cntY kw (ct w) 0 0) → (ct w - i) < n9 → ∀ ls : Array Slot, lv_has ls 4 [(0, .ref d0), (1, .int (nI w)), (2, .int (nI x)), (3, .int (nI i))] → W p l e (rm 0) s m args below meth c s.heap [] 0 0 Q (F0 m 4 ls []) := by
    intro n9
    induction n9 with
    | zero =>
      intro i x hi he hm9
      exact absurd hm9 (Nat.not_lt_zero _)
    | succ n9 ih_4 =>
      intro i x hi he hm9 ls hl
      refine lv_iload_n hx hb dX2_yearEnds_4 rfl (lv_at hl 3 rfl) ?_
      refine lv_aload_n hx hb dX2_yearEnds_5 rfl (lv_at hl 0 rfl) ?_
      refine va_get (D := (dC, dI)) (ci := 2) (v := .ref d1) (C := RX2) (T := TX2) (N := 3) hx hb hts hin_X2 hown hK hP 0 rfl rfl 0 (by decide) hw_1 (fun _ h9 => h9) rfl dX2_yearEnds_6 ?_
      refine lv_iload_n hx hb dX2_yearEnds_9 rfl (lv_at hl 1 rfl) ?_
      refine ra_iald hx hb hK hP 1 rfl w rfl (by omega) (Nat.le_of_ble_eq_true rfl) dX2_yearEnds_10 ?_
      refine ra_top (nI (ct w)) rfl ?_
      refine lv_icmp_ge (tgt := 35) hx hb dX2_yearEnds_11 (by decide) (fun c_11 => ?_) (fun c_11 => ?_)
      · ---- to 35
        have n_11 := (nq_le (ct w) i (by omega) (by omega)).mp c_11
        refine lv_iload_n hx hb dX2_yearEnds_35 rfl (lv_at hl 2 rfl) ?_
        rw [hQ]
        exact ra_iretR hx hb hr hlocks rfl (by rw [← he, show ct w - i = 0 by omega]; rfl) dX2_yearEnds_36
      · ---- on
        have n_11 := (nq_le_n (ct w) i (by omega) (by omega)).mp c_11
        refine lv_aload_n hx hb dX2_yearEnds_14 rfl (lv_at hl 0 rfl) ?_
        refine va_get (D := (dC, dI)) (ci := 2) (v := .ref d2) (C := RX2) (T := TX2) (N := 3) hx hb hts hin_X2 hown hK hP 0 rfl rfl 1 (by decide) hw_3 (fun _ h9 => h9) rfl dX2_yearEnds_15 ?_
        refine lv_iload_n hx hb dX2_yearEnds_18 rfl (lv_at hl 1 rfl) ?_
        refine ra_aald (b := kr) hx hb hK hP 2 rfl w rfl (by omega) (Nat.le_of_ble_eq_true rfl) hfk dX2_yearEnds_19 ?_
        refine lv_iload_n hx hb dX2_yearEnds_20 rfl (lv_at hl 3 rfl) ?_
        refine ra_iald hx hb hK hP 4 rfl i rfl (by omega) (Nat.le_of_ble_eq_true rfl) dX2_yearEnds_21 ?_
        refine lv_iconst (v := 2) hx hb dX2_yearEnds_22 (by decide) ?_
        refine lv_icmp_ne (tgt := 29) hx hb dX2_yearEnds_23 (by decide) (fun c_23 => ?_) (fun c_23 => ?_)
        · ---- to 29
          refine lv_iinc (v := nI (i + 1)) (lv' := [(3, .int (nI (i + 1))), (0, .ref d0), (1, .int (nI w)), (2, .int (nI x))]) hx hb dX2_yearEnds_29 hl (k := 3) rfl (ra_inc1 _) (by decide) rfl (fun ls hl => ?_)
          refine lv_goto (tgt := 4) hx hb dX2_yearEnds_32 (by decide) ?_
          exact ih_4 (i + 1) x (by omega) (by rw [← he, show ct w - i = ct w - (i + 1) + 1 by omega]; show _ = cntY kw _ _ (if _ then _ else _); first | rw [if_neg c_23] | rw [if_pos c_23]) (by omega) ls (lv_sub hl [1, 2, 3, 0] rfl)
        · ---- on
          refine lv_iinc (v := nI (x + 1)) (lv' := [(2, .int (nI (x + 1))), (0, .ref d0), (1, .int (nI w)), (3, .int (nI i))]) hx hb dX2_yearEnds_26 hl (k := 2) rfl (ra_inc1 _) (by decide) rfl (fun ls hl => ?_)
          refine lv_iinc (v := nI (i + 1)) (lv' := [(3, .int (nI (i + 1))), (2, .int (nI (x + 1))), (0, .ref d0), (1, .int (nI w))]) hx hb dX2_yearEnds_29 hl (k := 3) rfl (ra_inc1 _) (by decide) rfl (fun ls hl => ?_)
          refine lv_goto (tgt := 4) hx hb dX2_yearEnds_32 (by decide) ?_
          exact ih_4 (i + 1) (x + 1) (by omega) (by rw [← he, show ct w - i = ct w - (i + 1) + 1 by omega]; show _ = cntY kw _ _ (if _ then _ else _); first | rw [if_neg c_23] | rw [if_pos c_23]) (by omega) ls (lv_sub hl [2, 3, 1, 0] rfl)
  exact L_4 _ 0 0 (by omega) rfl (Nat.lt_succ_self _) ls (lv_sub hl [2, 3, 1, 0] rfl)

set_option maxHeartbeats 4000000 in
set_option maxRecDepth 100000 in
theorem c_X2_lastYear (l : Launch) (dC : Nat → ClassId) (dI : Nat → Nat → Nat) (cyI cyA : ClassId) (d0 d1 d2 d3 : Nat) (ct : Nat → Nat) (k0 k1 k2 v0 v1 v2 : Nat) (kd : Nat → FN) (hct : ∀ w, w < 3 → ct w ≤ 12) : Met l yX2_lastYear wsX2_lastYear (rm 1) (kR dC dI cyI cyA [.ref d0] [ob d0 2 [.ref d1, .ref d2, .ref d3], ai d1 cyI 3 (nF ct), aa d2 cyA 3 (r3 k0 k1 k2), aa d3 cyA 3 (r3 v0 v1 v2), ai k0 cyI 12 (kd 0), ai k1 cyI 12 (kd 1), ai k2 cyI 12 (kd 2)]) (QcRead (nI (lastY ct kd))) 0 0 (fun _ => False) := by
  refine ra_metR (cc := cX2_lastYear) (maxL := 3) (by decide) rfl (Nat.le_of_ble_eq_true rfl) ?_
  intro p e s m below meth c args Q hQ hx hb hr hlocks hml hts hown hK hN hP ls hl
  have hl : lv_has ls 3 [(0, .ref d0)] := hl
  have hown : s.vm.findClass RX2 = some m.cls := hown
  have hw_1 := hts (.methodLink RX2 27 Lib.Math.max.name) (by decide +kernel)
  have hw_2 := hts (.static Lib.Math.max.name) (by decide +kernel)
  have hw_3 := hts (.initialized "java/lang/Math") (by decide +kernel)
  have hw_4 := hts (.code Lib.Math.max.name Lib.Math.max.code 2 (some .int)) (by decide +kernel)
  have h0 := hct 0 (by omega)
  have h1 := hct 1 (by omega)
  have h2 := hct 2 (by omega)
  have g0 := cntY_le (kd 0) (ct 0) 0 0
  have g1 := cntY_le (kd 1) (ct 1) 0 0
  have g2 := cntY_le (kd 2) (ct 2) 0 0
  refine lv_iconst (v := 0) hx hb dX2_lastYear_0 (by decide) ?_
  refine lv_istore_n (lv' := [(1, .int 0), (0, .ref d0)]) hx hb dX2_lastYear_1 rfl hl (by decide) rfl (fun ls hl => ?_)
  refine lv_iconst (v := 0) hx hb dX2_lastYear_2 (by decide) ?_
  refine lv_istore_n (lv' := [(2, .int 0), (1, .int 0), (0, .ref d0)]) hx hb dX2_lastYear_3 rfl hl (by decide) rfl (fun ls hl => ?_)
  refine lv_iload_n hx hb dX2_lastYear_4 rfl (lv_at hl 0 rfl) ?_
  refine lv_iconst (v := 3) hx hb dX2_lastYear_5 (by decide) ?_
  refine lv_icmp_ge (tgt := 25) hx hb dX2_lastYear_6 (by decide) (fun c_6 => ?_) (fun c_6 => ?_)
  · ---- to 25
    exact absurd c_6 (by decide)
  · ---- on
    refine lv_iload_n hx hb dX2_lastYear_9 rfl (lv_at hl 1 rfl) ?_
    refine lv_aload_n hx hb dX2_lastYear_10 rfl (lv_at hl 2 rfl) ?_
    refine lv_iload_n hx hb dX2_lastYear_11 rfl (lv_at hl 0 rfl) ?_
    refine ra_cR (q := (RX2, TX2, 3)) (ci := 2) (As := [.int 0]) (rest := [.int 0]) (wc := [ob d0 2 [.ref d1, .ref d2, .ref d3], ai d1 cyI 3 (nF ct), aa d2 cyA 3 (r3 k0 k1 k2), aa d3 cyA 3 (r3 v0 v1 v2), ai k0 cyI 12 (kd 0)]) ⟨hx, hb, hml, hown, hts⟩ (c_X2_yearEnds l dC dI cyI cyA d0 d1 d2 d3 ct (r3 k0 k1 k2) (r3 v0 v1 v2) 0 k0 (kd 0) (by omega) (by omega) rfl) (cwV 1 hts gX2_lastYear_X2_yearEnds rfl rfl rfl (by decide +kernel) ⟨Nat.le_of_ble_eq_true rfl, Nat.le_of_ble_eq_true rfl⟩) hK hN hP [0, 1, 2, 3, 4] rfl rfl rfl rfl hl.1 rfl (Nat.le_of_ble_eq_true rfl) dX2_lastYear_12 ⟨Nat.le_of_ble_eq_true rfl, Nat.le_of_ble_eq_true rfl⟩ ?_
    refine va_mmax hx hb (hml.trans hl.1.symm) hown hw_1 hw_2 hw_3 hw_4 (Nat.le_of_ble_eq_true rfl) (Nat.le_of_ble_eq_true rfl) (Nat.le_of_ble_eq_true rfl) (Nat.le_of_ble_eq_true rfl) dX2_lastYear_15 ?_
    refine ra_top (jmax 0 (nI (cntY (kd 0) (ct 0) 0 0))) rfl ?_
    refine lv_istore_n (lv' := [(1, .int (jmax 0 (nI (cntY (kd 0) (ct 0) 0 0)))), (2, .int 0), (0, .ref d0)]) hx hb dX2_lastYear_18 rfl hl (by decide) rfl (fun ls hl => ?_)
    refine lv_iinc (v := 1) (lv' := [(2, .int 1), (1, .int (jmax 0 (nI (cntY (kd 0) (ct 0) 0 0)))), (0, .ref d0)]) hx hb dX2_lastYear_19 hl (k := 1) rfl (by decide) (by decide) rfl (fun ls hl => ?_)
    refine lv_goto (tgt := 4) hx hb dX2_lastYear_22 (by decide) ?_
    refine lv_iload_n hx hb dX2_lastYear_4 rfl (lv_at hl 0 rfl) ?_
    refine lv_iconst (v := 3) hx hb dX2_lastYear_5 (by decide) ?_
    refine lv_icmp_ge (tgt := 25) hx hb dX2_lastYear_6 (by decide) (fun c_6_2 => ?_) (fun c_6_2 => ?_)
    · ---- to 25
      exact absurd c_6_2 (by decide)
    · ---- on
      refine lv_iload_n hx hb dX2_lastYear_9 rfl (lv_at hl 1 rfl) ?_
      refine lv_aload_n hx hb dX2_lastYear_10 rfl (lv_at hl 2 rfl) ?_
      refine lv_iload_n hx hb dX2_lastYear_11 rfl (lv_at hl 0 rfl) ?_
      refine ra_cR (q := (RX2, TX2, 3)) (ci := 2) (As := [.int 1]) (rest := [.int (jmax 0 (nI (cntY (kd 0) (ct 0) 0 0)))]) (wc := [ob d0 2 [.ref d1, .ref d2, .ref d3], ai d1 cyI 3 (nF ct), aa d2 cyA 3 (r3 k0 k1 k2), aa d3 cyA 3 (r3 v0 v1 v2), ai k1 cyI 12 (kd 1)]) ⟨hx, hb, hml, hown, hts⟩ (c_X2_yearEnds l dC dI cyI cyA d0 d1 d2 d3 ct (r3 k0 k1 k2) (r3 v0 v1 v2) 1 k1 (kd 1) (by omega) (by omega) rfl) (cwV 1 hts gX2_lastYear_X2_yearEnds rfl rfl rfl (by decide +kernel) ⟨Nat.le_of_ble_eq_true rfl, Nat.le_of_ble_eq_true rfl⟩) hK hN hP [0, 1, 2, 3, 5] rfl rfl rfl rfl hl.1 rfl (Nat.le_of_ble_eq_true rfl) dX2_lastYear_12 ⟨Nat.le_of_ble_eq_true rfl, Nat.le_of_ble_eq_true rfl⟩ ?_
      refine va_mmax hx hb (hml.trans hl.1.symm) hown hw_1 hw_2 hw_3 hw_4 (Nat.le_of_ble_eq_true rfl) (Nat.le_of_ble_eq_true rfl) (Nat.le_of_ble_eq_true rfl) (Nat.le_of_ble_eq_true rfl) dX2_lastYear_15 ?_
      refine ra_top (jmax (jmax 0 (nI (cntY (kd 0) (ct 0) 0 0))) (nI (cntY (kd 1) (ct 1) 0 0))) rfl ?_
      refine lv_istore_n (lv' := [(1, .int (jmax (jmax 0 (nI (cntY (kd 0) (ct 0) 0 0))) (nI (cntY (kd 1) (ct 1) 0 0)))), (2, .int 1), (0, .ref d0)]) hx hb dX2_lastYear_18 rfl hl (by decide) rfl (fun ls hl => ?_)
      refine lv_iinc (v := 2) (lv' := [(2, .int 2), (1, .int (jmax (jmax 0 (nI (cntY (kd 0) (ct 0) 0 0))) (nI (cntY (kd 1) (ct 1) 0 0)))), (0, .ref d0)]) hx hb dX2_lastYear_19 hl (k := 1) rfl (by decide) (by decide) rfl (fun ls hl => ?_)
      refine lv_goto (tgt := 4) hx hb dX2_lastYear_22 (by decide) ?_
      refine lv_iload_n hx hb dX2_lastYear_4 rfl (lv_at hl 0 rfl) ?_
      refine lv_iconst (v := 3) hx hb dX2_lastYear_5 (by decide) ?_
      refine lv_icmp_ge (tgt := 25) hx hb dX2_lastYear_6 (by decide) (fun c_6_3 => ?_) (fun c_6_3 => ?_)
      · ---- to 25
        exact absurd c_6_3 (by decide)
      · ---- on
        refine lv_iload_n hx hb dX2_lastYear_9 rfl (lv_at hl 1 rfl) ?_
        refine lv_aload_n hx hb dX2_lastYear_10 rfl (lv_at hl 2 rfl) ?_
        refine lv_iload_n hx hb dX2_lastYear_11 rfl (lv_at hl 0 rfl) ?_
        refine ra_cR (q := (RX2, TX2, 3)) (ci := 2) (As := [.int 2]) (rest := [.int (jmax (jmax 0 (nI (cntY (kd 0) (ct 0) 0 0))) (nI (cntY (kd 1) (ct 1) 0 0)))]) (wc := [ob d0 2 [.ref d1, .ref d2, .ref d3], ai d1 cyI 3 (nF ct), aa d2 cyA 3 (r3 k0 k1 k2), aa d3 cyA 3 (r3 v0 v1 v2), ai k2 cyI 12 (kd 2)]) ⟨hx, hb, hml, hown, hts⟩ (c_X2_yearEnds l dC dI cyI cyA d0 d1 d2 d3 ct (r3 k0 k1 k2) (r3 v0 v1 v2) 2 k2 (kd 2) (by omega) (by omega) rfl) (cwV 1 hts gX2_lastYear_X2_yearEnds rfl rfl rfl (by decide +kernel) ⟨Nat.le_of_ble_eq_true rfl, Nat.le_of_ble_eq_true rfl⟩) hK hN hP [0, 1, 2, 3, 6] rfl rfl rfl rfl hl.1 rfl (Nat.le_of_ble_eq_true rfl) dX2_lastYear_12 ⟨Nat.le_of_ble_eq_true rfl, Nat.le_of_ble_eq_true rfl⟩ ?_
        refine va_mmax hx hb (hml.trans hl.1.symm) hown hw_1 hw_2 hw_3 hw_4 (Nat.le_of_ble_eq_true rfl) (Nat.le_of_ble_eq_true rfl) (Nat.le_of_ble_eq_true rfl) (Nat.le_of_ble_eq_true rfl) dX2_lastYear_15 ?_
        refine ra_top (jmax (jmax (jmax 0 (nI (cntY (kd 0) (ct 0) 0 0))) (nI (cntY (kd 1) (ct 1) 0 0))) (nI (cntY (kd 2) (ct 2) 0 0))) rfl ?_
        refine lv_istore_n (lv' := [(1, .int (jmax (jmax (jmax 0 (nI (cntY (kd 0) (ct 0) 0 0))) (nI (cntY (kd 1) (ct 1) 0 0))) (nI (cntY (kd 2) (ct 2) 0 0)))), (2, .int 2), (0, .ref d0)]) hx hb dX2_lastYear_18 rfl hl (by decide) rfl (fun ls hl => ?_)
        refine lv_iinc (v := 3) (lv' := [(2, .int 3), (1, .int (jmax (jmax (jmax 0 (nI (cntY (kd 0) (ct 0) 0 0))) (nI (cntY (kd 1) (ct 1) 0 0))) (nI (cntY (kd 2) (ct 2) 0 0)))), (0, .ref d0)]) hx hb dX2_lastYear_19 hl (k := 1) rfl (by decide) (by decide) rfl (fun ls hl => ?_)
        refine lv_goto (tgt := 4) hx hb dX2_lastYear_22 (by decide) ?_
        refine lv_iload_n hx hb dX2_lastYear_4 rfl (lv_at hl 0 rfl) ?_
        refine lv_iconst (v := 3) hx hb dX2_lastYear_5 (by decide) ?_
        refine lv_icmp_ge (tgt := 25) hx hb dX2_lastYear_6 (by decide) (fun c_6_4 => ?_) (fun c_6_4 => ?_)
        · ---- to 25
          refine lv_iload_n hx hb dX2_lastYear_25 rfl (lv_at hl 1 rfl) ?_
          rw [hQ]
          exact ra_iretR hx hb hr hlocks rfl (by rw [show (0 : Int32) = nI 0 from rfl, jmax_nI _ _ (by omega) (by omega), jmax_nI _ _ (by omega) (by omega), jmax_nI _ _ (by omega) (by omega)]; rfl) dX2_lastYear_26
        · ---- on
          exact absurd c_6_4 (by decide)
